/-! ===== calls ===== -/
section AXC
variable {L : ax_L} {G : ax_G} {d pc : Nat} {lc : List (Nat × ax_V)} {st : List ax_V} {M : ax_M} {Q : Option ax_V → ax_M → Prop}
/-- behind a call -/
theorem ax_go {p : Program} {l : Launch} {e : Env} {R : Room} {s : State} {m : MethodId} {args : Array Value} {below : List Frame} {meth : Method} {c : Code} {H : Heap} {locs : List Loc} {QQ : State → Prop} {ls : Array Slot} {st0 rest : List Value} {a : Array Value} {X : ax_X} {Q1 : Option ax_V → ax_M → Prop}
    (hr : va_Run p l e R s m args below meth c H locs 0 0 0 0 (F0 m pc ls st0) rest (ax_Q L X Q1 a) (ax_A L X)) (hS : va_S (ax_A L X) s.heap H locs)
    (kk : ∀ (r : Option ax_V) (M1 : ax_M) (H1 : Heap) (locs1 : List Loc), Q1 r M1 → ax_okr L r → ax_R L X M1 s H1 → va_S (ax_A L X) s.heap H1 locs1 → W p l e R s m args below meth c H1 locs1 0 0 QQ (F0 m (pc + 3) ls ((r.map (ax_vl X)).toList ++ rest))) : W p l e R s m args below meth c H locs 0 0 QQ (F0 m pc ls st0) := by
  intro T hT X'
  obtain ⟨v, st₀, t, T', L', h0, X', hL, e1, e2, ⟨⟨r, M1, hv, hq, hok, hRt⟩, hz, hk⟩, st⟩ := hr T hT X'
  cases hv
  rw [h0] at hz hk
  have hvm : t.vm.Alike s.vm := by rw [← e2]; exact X'.warmed.alike.symm
  obtain ⟨t2, a1, b1⟩ := kk r M1 T'.heap (locs ++ L') hq hok (by rw [e1]; exact hRt.moved hvm)
    ⟨Nat.le_trans hS.1 (by rw [e1]; exact hz), fun q h1 h2 => by rw [e1, hk q (Nat.lt_of_lt_of_le h1 hS.1) h2]; exact hS.2.1 q h1 h2, fun q hq => by
      rcases List.mem_append.mp hq with h | h
      · exact hS.2.2 q h
      · exact hL q h⟩ T' rfl X'
  exact ⟨t2, st t2 a1, b1⟩
theorem ax_blind {X : ax_X} {av : List Value} : FrameBlind (va_Pc av (fun U => ax_R L X M U U.heap ∧ ax_N L X U U.heap)) := by
  intro a U g mk h
  obtain ⟨h1, hR, hN⟩ := h
  exact ⟨h1, ax_R.moved (u := U) (U := U.calling g mk a) (Vm.Alike.refl U.vm) hR, ax_N.warm (s := U) (U := U.calling g mk a) (H := U.heap) hN (State.WarmedH.refl U) (fun _ _ _ => rfl) (Nat.le_refl _)⟩
theorem ax_N_now {X : ax_X} {s U : State} {H : Heap} {locs : List Loc} (hN : ax_N L X s s.heap) (hS : va_S (ax_A L X) s.heap H locs) (hU : U.heap = H) (hW : s.WarmedH U.vm) : ax_N L X U U.heap := by
  rw [hU]
  exact hN.warm hW hS.2.1 hS.1
theorem ax_recv {X : ax_X} {s : State} {H : Heap} {c N : Nat} {a : Int} {C : String} {T : u_T} {ty : Nat → FieldType} (hcl : ax_cls c C T N ty) (hR : ax_R L X M s H) (hs : L[a.toNat]? = some (2, c)) : ∃ cellB : Cell, H[X.1 a.toNat]? = some cellB ∧ cellB.vm.isStatics = false ∧ s.vm.findClass C = some cellB.cls := by
  exact va_recv hR.2.1 hR.1 hcl.1 (ax_ws_get (X := X) (M := M) hs)
theorem ax_okr_st {r : Option ax_V} (hok : ax_oks L lc st) (hr : ax_okr L r) : ax_oks L lc (r.toList ++ st) := by
  cases r with
  | none => exact hok
  | some v => exact hok.push (hr v rfl)
theorem ax_toL_map {X : ax_X} {r : Option ax_V} : ((r.map (ax_vl X)).toList ++ st.map (ax_vl X)) = (r.toList ++ st).map (ax_vl X) := by
  cases r <;> rfl
theorem ax_oks.drop {as : List ax_V} (h : ax_oks L lc (as ++ st)) : ax_oks L lc st := ⟨h.1, fun v hv => h.2 v (List.mem_append_right _ hv)⟩
/-- the words of stack that a value takes -/
def ax_wd (st : List ax_V) : Nat := (st.map (fun v => if v.1 = 1 then 2 else 1)).sum
theorem ax_wd_eq {X : ax_X} : ((st.map (ax_vl X)).map fun v => v.category).sum = ax_wd st := by
  unfold ax_wd
  rw [List.map_map]
  congr 1
  apply List.map_congr_left
  intro v _
  exact ax_cat X v
/-- a method that can be called by a word of the tables: its code, its class made, its parameters -/
def ax_cal (G1 : ax_G) (n : Nat) : Prop := ax_word G1 ∈ ax_T ∧ Cond.initialized G1.1.cls ∈ ax_T ∧ (G1.1.cls ≠ "java/lang/invoke/MethodHandle" ∧ G1.1.cls ≠ "java/lang/invoke/VarHandle" ∧ (parseMethodDescriptor G1.1.desc).map (fun d => d.parameters.length) = some n) ∧ ax_nL G1 ≤ 45
theorem ax_callV {G1 : ax_G} {d1 i c N n : Nat} {a : Int} {as : List ax_V} {C : String} {T : u_T} {ty : Nat → FieldType} {Q1 : Option ax_V → ax_M → Prop} (hd : decode (ax_cc G) pc = .ok (.invokevirtual i, 3)) (hcl : ax_cls c C T N ty) (hcal : ax_cal G1 n) (hdd : d1 + 1 ≤ d) (hn : as.length = n)
    (hw1 : Cond.methodLink (ax_own G) i G1.1 ∈ ax_T) (hw2 : Cond.instanceMethod G1.1 ∈ ax_T) (hw3 : Cond.selects C G1.1 G1.1 ∈ ax_T) (hwd : ax_wd st ≤ 8) (hM : ax_Met L G1 d1 ((2, c, a) :: as) M Q1)
    (k : ∀ r M1, Q1 r M1 → ax_okr L r → ax_W L G d (pc + 3) lc (r.toList ++ st) M1 Q) : ax_W L G d pc lc (as.reverse ++ (2, c, a) :: st) M Q := by
  intro p l e s m args below meth c' X H locs ls hC hl hok hR hS
  have hs : 0 ≤ a ∧ L[a.toNat]? = some (2, c) := hok.2 (2, c, a) (by simp)
  have hts := hC.2.2.2.2.2.1
  have hfix : CallFix p m c' (ax_cc G) (ax_nL G) s args (ax_word G :: ax_T) (ax_own G) := ⟨hC.1, hC.2.1, hC.2.2.2.1, hC.2.2.2.2.1, hts⟩
  have hm := hM l X (fun v hv => by
    rcases List.mem_cons.mp hv with e | h
    · subst e; exact hs
    · exact hok.2 v (List.mem_append_left _ (List.mem_reverse.mpr h)))
  have hcw : CallW (ax_rm d) s args (ax_own G) C i G1.1 (ax_cc G1) (ax_nL G1) (ax_ret G1) (ax_word G1 :: ax_T) (ax_rm d1) 0 0 n :=
    ⟨callB_of n hts (ax_good hcal.1) rfl rfl rfl (hts _ (List.mem_cons_of_mem _ hcal.2.1)) (hts _ (List.mem_cons_of_mem _ hw1)) hcal.2.2.1 ⟨hdd, by have := hcal.2.2.2; show 8 + (ax_nL G1 + 11) + 64 * d1 ≤ 64 * d; omega⟩, hts _ (List.mem_cons_of_mem _ hw2), hts _ (List.mem_cons_of_mem _ hw3)⟩
  have hpre : PreV s H C (X.1 a.toNat) (va_Pc (((2, c, a) :: as).map (ax_vl X)) (fun U => ax_R L X M U U.heap ∧ ax_N L X U U.heap)) (as.map (ax_vl X)) :=
    ⟨ax_blind, ax_recv hcl hR hs.2, fun U hU hW => ⟨rfl, by rw [hU]; exact hR.moved hW.alike, ax_N_now hC.2.2.2.2.2.2.2 hS hU hW⟩⟩
  have hrun := va_runV (g := F0 m pc ls ((as.reverse ++ (2, c, a) :: st).map (ax_vl X))) (As := as.map (ax_vl X)) (rest := st.map (ax_vl X)) (H := H) (locs := locs) (cells := 0) (slots := 0) (below := below) (meth := meth) (e := e) (n := n) hfix hm hcw hpre rfl (by simp [hn]) hl.1 (by simp [List.map_reverse]; rfl) (lv_room (by rw [ax_wd_eq]; exact hwd)) hd ⟨Nat.le_refl _, Nat.le_refl _⟩
  refine ax_go hrun hS (fun r M1 H1 locs1 hq hr hR1 hS1 => ?_)
  rw [ax_toL_map]
  exact k r M1 hq hr p l e s m args below meth c' X H1 locs1 ls hC hl (ax_okr_st (hok.drop.pop) hr) hR1 hS1
end AXC
