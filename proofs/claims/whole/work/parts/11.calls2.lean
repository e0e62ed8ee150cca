/-! ===== more calls: static ones, nest mates; switches; Math ===== -/
section AXS
variable {L : ax_L} {G : ax_G} {d pc : Nat} {lc : List (Nat × ax_V)} {st : List ax_V} {M : ax_M} {Q : Option ax_V → ax_M → Prop}
theorem ax_callS {G1 : ax_G} {d1 i n : Nat} {as : List ax_V} {Q1 : Option ax_V → ax_M → Prop} (hd : decode (ax_cc G) pc = .ok (.invokestatic i, 3)) (hcal : ax_cal G1 n) (hdd : d1 + 1 ≤ d) (hn : as.length = n)
    (hw1 : Cond.methodLink (ax_own G) i G1.1 ∈ ax_T) (hw2 : Cond.static G1.1 ∈ ax_T) (hwd : ax_wd st ≤ 8) (hM : ax_Met L G1 d1 as M Q1)
    (k : ∀ r M1, Q1 r M1 → ax_okr L r → ax_W L G d (pc + 3) lc (r.toList ++ st) M1 Q) : ax_W L G d pc lc (as.reverse ++ st) M Q := by
  intro p l e s m args below meth c' X H locs ls hC hl hok hR hS
  have hts := hC.2.2.2.2.2.1
  have hfix : CallFix p m c' (ax_cc G) (ax_nL G) s args (ax_word G :: ax_T) (ax_own G) := ⟨hC.1, hC.2.1, hC.2.2.2.1, hC.2.2.2.2.1, hts⟩
  have hm := hM l X (fun v hv => hok.2 v (List.mem_append_left _ (List.mem_reverse.mpr hv)))
  have hcw : CallB (ax_rm d) s args (ax_own G) i G1.1 (ax_cc G1) (ax_nL G1) (ax_ret G1) (ax_word G1 :: ax_T) (ax_rm d1) 0 0 n ∧ (Cond.static G1.1).before args s = true :=
    ⟨callB_of n hts (ax_good hcal.1) rfl rfl rfl (hts _ (List.mem_cons_of_mem _ hcal.2.1)) (hts _ (List.mem_cons_of_mem _ hw1)) hcal.2.2.1 ⟨hdd, by have := hcal.2.2.2; show 8 + (ax_nL G1 + 11) + 64 * d1 ≤ 64 * d; omega⟩, hts _ (List.mem_cons_of_mem _ hw2)⟩
  have hpre : PreS s H (va_Pc (as.map (ax_vl X)) (fun U => ax_R L X M U U.heap ∧ ax_N L X U U.heap)) (as.map (ax_vl X)) :=
    ⟨ax_blind, fun U hU hW => ⟨rfl, by rw [hU]; exact hR.moved hW.alike, ax_N_now hC.2.2.2.2.2.2.2 hS hU hW⟩⟩
  have hrun := va_runS (g := F0 m pc ls ((as.reverse ++ st).map (ax_vl X))) (As := as.map (ax_vl X)) (rest := st.map (ax_vl X)) (H := H) (locs := locs) (cells := 0) (slots := 0) (below := below) (meth := meth) (e := e) (n := n) hfix hm hcw hpre rfl (by simp [hn]) hl.1 (by simp [List.map_reverse]) (lv_room (by rw [ax_wd_eq]; exact hwd)) hd ⟨Nat.le_refl _, Nat.le_refl _⟩
  refine ax_go hrun hS (fun r M1 H1 locs1 hq hr hR1 hS1 => ?_)
  rw [ax_toL_map]
  exact k r M1 hq hr p l e s m args below meth c' X H1 locs1 ls hC hl (ax_okr_st hok.drop hr) hR1 hS1
theorem ax_callN {G1 : ax_G} {d1 i c N n : Nat} {a : Int} {as : List ax_V} {C host : String} {T : u_T} {ty : Nat → FieldType} {Q1 : Option ax_V → ax_M → Prop} (hd : decode (ax_cc G) pc = .ok (.invokevirtual i, 3)) (hcl : ax_cls c C T N ty) (hcal : ax_cal G1 n) (hdd : d1 + 1 ≤ d) (hn : as.length = n)
    (hw1 : Cond.methodLinkNest (ax_own G) i G1.1 host ∈ lw_tbl) (hw2 : Cond.instanceMethod G1.1 ∈ ax_T) (hw3 : Cond.selects C G1.1 G1.1 ∈ ax_T) (hwd : ax_wd st ≤ 8) (hM : ax_Met L G1 d1 ((2, c, a) :: as) M Q1)
    (k : ∀ r M1, Q1 r M1 → ax_okr L r → ax_W L G d (pc + 3) lc (r.toList ++ st) M1 Q) : ax_W L G d pc lc (as.reverse ++ (2, c, a) :: st) M Q := by
  intro p l e s m args below meth c' X H locs ls hC hl hok hR hS
  have hs : 0 ≤ a ∧ L[a.toNat]? = some (2, c) := hok.2 (2, c, a) (by simp)
  have hts := hC.2.2.2.2.2.1
  have hfix : CallFix p m c' (ax_cc G) (ax_nL G) s args (ax_word G :: ax_T) (ax_own G) := ⟨hC.1, hC.2.1, hC.2.2.2.1, hC.2.2.2.2.1, hts⟩
  have hm := hM l X (fun v hv => by
    rcases List.mem_cons.mp hv with e | h
    · subst e; exact hs
    · exact hok.2 v (List.mem_append_left _ (List.mem_reverse.mpr h)))
  have hcw : va_CN (ax_rm d) s args (ax_own G) i G1.1 host (ax_cc G1) (ax_nL G1) (ax_ret G1) (ax_word G1 :: ax_T) (ax_rm d1) 0 0 n ∧ (Cond.instanceMethod G1.1).before args s = true ∧ (Cond.selects C G1.1 G1.1).before args s = true :=
    ⟨va_cnB n hts (ax_good hcal.1) rfl rfl rfl (hC.2.2.2.2.2.2.2.1 _ hw1 rfl) (hts _ (List.mem_cons_of_mem _ hcal.2.1)) hcal.2.2.1 ⟨hdd, by have := hcal.2.2.2; show 8 + (ax_nL G1 + 11) + 64 * d1 ≤ 64 * d; omega⟩, hts _ (List.mem_cons_of_mem _ hw2), hts _ (List.mem_cons_of_mem _ hw3)⟩
  have hpre : PreV s H C (X.1 a.toNat) (va_Pc (((2, c, a) :: as).map (ax_vl X)) (fun U => ax_R L X M U U.heap ∧ ax_N L X U U.heap)) (as.map (ax_vl X)) :=
    ⟨ax_blind, ax_recv hcl hR hs.2, fun U hU hW => ⟨rfl, by rw [hU]; exact hR.moved hW.alike, ax_N_now hC.2.2.2.2.2.2.2 hS hU hW⟩⟩
  have hrun := va_runVN (g := F0 m pc ls ((as.reverse ++ (2, c, a) :: st).map (ax_vl X))) (As := as.map (ax_vl X)) (rest := st.map (ax_vl X)) (H := H) (locs := locs) (cells := 0) (slots := 0) (below := below) (meth := meth) (e := e) (n := n) hfix hm hcw hpre rfl (by simp [hn]) hl.1 (by simp [List.map_reverse]; rfl) (lv_room (by rw [ax_wd_eq]; exact hwd)) hd ⟨Nat.le_refl _, Nat.le_refl _⟩
  refine ax_go hrun hS (fun r M1 H1 locs1 hq hr hR1 hS1 => ?_)
  rw [ax_toL_map]
  exact k r M1 hq hr p l e s m args below meth c' X H1 locs1 ls hC hl (ax_okr_st (hok.drop.pop) hr) hR1 hS1
/-! switches -/
theorem ax_swOut {dflt lo hi : Int} {offs : Array Int} {len u tgt : Nat} {x : Int} (hd : decode (ax_cc G) pc = .ok (.tableswitch dflt lo hi offs, len)) (h : x < lo ∨ hi < x) (ht : (pc : Int) + dflt = (tgt : Int)) (k : ax_W L G d tgt lc st M Q) : ax_W L G d pc lc ((0, u, x) :: st) M Q := by
  intro p l e s m args below meth c X H locs ls hC hl hok hR hS
  exact lv_tableOut hC.1 hC.2.1 hd (x := Int32.ofInt x) (by rw [ax_toI hok.topI]; exact h) ht (k p l e s m args below meth c X H locs ls hC hl hok.pop hR hS)
theorem ax_swIn {dflt lo hi off : Int} {offs : Array Int} {len u tgt : Nat} {x : Int} (hd : decode (ax_cc G) pc = .ok (.tableswitch dflt lo hi offs, len)) (h1 : ¬ x < lo) (h2 : ¬ hi < x) (ho : offs[(x - lo).toNat]? = some off) (ht : (pc : Int) + off = (tgt : Int)) (k : ax_W L G d tgt lc st M Q) : ax_W L G d pc lc ((0, u, x) :: st) M Q := by
  intro p l e s m args below meth c X H locs ls hC hl hok hR hS
  exact lv_tableIn hC.1 hC.2.1 hd (x := Int32.ofInt x) (by rw [ax_toI hok.topI]; exact h1) (by rw [ax_toI hok.topI]; exact h2) (by rw [ax_toI hok.topI]; exact ho) ht (k p l e s m args below meth c X H locs ls hC hl hok.pop hR hS)
theorem ax_swLk {dflt off : Int} {ps : Array (Int × Int)} {len u tgt : Nat} {x : Int} (hd : decode (ax_cc G) pc = .ok (.lookupswitch dflt ps, len)) (hp : (ps.toList.zip (ps.toList.drop 1)).all (fun (a, next) => a.1 < next.1) = true) (ho : Op.lookupswitch.offset ps.toList dflt x = off) (ht : (pc : Int) + off = (tgt : Int)) (k : ax_W L G d tgt lc st M Q) : ax_W L G d pc lc ((0, u, x) :: st) M Q := by
  intro p l e s m args below meth c X H locs ls hC hl hok hR hS
  exact lv_lookup hC.1 hC.2.1 hd hp (x := Int32.ofInt x) (by rw [ax_toI hok.topI]; exact ho) ht (k p l e s m args below meth c X H locs ls hC hl hok.pop hR hS)
/-! Math -/
theorem ax_mmax {a b : Int} {i u w : Nat} (hd : decode (ax_cc G) pc = .ok (.invokestatic i, 3)) (hdd : 1 ≤ d) (hwd : ax_wd st ≤ 8) (hw1 : Cond.methodLink (ax_own G) i Lib.Math.max.name ∈ ax_T) (hw2 : Cond.static Lib.Math.max.name ∈ ax_T) (hw3 : Cond.initialized "java/lang/Math" ∈ ax_T) (hw4 : Cond.code Lib.Math.max.name Lib.Math.max.code 2 (some .int) ∈ ax_T)
    (k : ax_W L G d (pc + 3) lc ((0, 0, if a < b then b else a) :: st) M Q) : ax_W L G d pc lc ((0, u, b) :: (0, w, a) :: st) M Q := by
  intro p l e s m args below meth c X H locs ls hC hl hok hR hS
  have hb := hok.topI
  have ha := hok.pop.topI
  have hts := fun {w} (h : w ∈ ax_T) => hC.2.2.2.2.2.1 w (List.mem_cons_of_mem _ h)
  have k2 := k p l e s m args below meth c X H locs ls hC hl (hok.pop.pop.push (v := (0, 0, if a < b then b else a)) (show ax_r32 (if a < b then b else a) from by split <;> assumption)) hR hS
  refine va_mmax hC.1 hC.2.1 (hC.2.2.2.1.trans hl.1.symm) hC.2.2.2.2.1 (hts hw1) (hts hw2) (hts hw3) (hts hw4) hdd (by rw [ax_wd_eq]; show ax_wd st + 13 ≤ 64 * d; omega) (Nat.zero_le _) (Nat.zero_le _) hd ?_
  have he : (if Int32.ofInt a < Int32.ofInt b then Int32.ofInt b else Int32.ofInt a) = Int32.ofInt (if a < b then b else a) := by
    by_cases h : a < b
    · rw [if_pos ((ax_lt ha hb).mpr h), if_pos h]
    · rw [if_neg (fun z => h ((ax_lt ha hb).mp z)), if_neg h]
  rw [he]
  exact k2
theorem ax_mmin {a b : Int} {i u w : Nat} (hd : decode (ax_cc G) pc = .ok (.invokestatic i, 3)) (hdd : 1 ≤ d) (hwd : ax_wd st ≤ 8) (hw1 : Cond.methodLink (ax_own G) i Lib.Math.min.name ∈ ax_T) (hw2 : Cond.static Lib.Math.min.name ∈ ax_T) (hw3 : Cond.initialized "java/lang/Math" ∈ ax_T) (hw4 : Cond.code Lib.Math.min.name Lib.Math.min.code 2 (some .int) ∈ ax_T)
    (k : ax_W L G d (pc + 3) lc ((0, 0, if b < a then b else a) :: st) M Q) : ax_W L G d pc lc ((0, u, b) :: (0, w, a) :: st) M Q := by
  intro p l e s m args below meth c X H locs ls hC hl hok hR hS
  have hb := hok.topI
  have ha := hok.pop.topI
  have hts := fun {w} (h : w ∈ ax_T) => hC.2.2.2.2.2.1 w (List.mem_cons_of_mem _ h)
  have k2 := k p l e s m args below meth c X H locs ls hC hl (hok.pop.pop.push (v := (0, 0, if b < a then b else a)) (show ax_r32 (if b < a then b else a) from by split <;> assumption)) hR hS
  refine va_mmin hC.1 hC.2.1 (hC.2.2.2.1.trans hl.1.symm) hC.2.2.2.2.1 (hts hw1) (hts hw2) (hts hw3) (hts hw4) hdd (by rw [ax_wd_eq]; show ax_wd st + 13 ≤ 64 * d; omega) (Nat.zero_le _) (Nat.zero_le _) hd ?_
  have he : (if Int32.ofInt b < Int32.ofInt a then Int32.ofInt b else Int32.ofInt a) = Int32.ofInt (if b < a then b else a) := by
    by_cases h : b < a
    · rw [if_pos ((ax_lt hb ha).mpr h), if_pos h]
    · rw [if_neg (fun z => h ((ax_lt hb ha).mp z)), if_neg h]
  rw [he]
  exact k2
end AXS
