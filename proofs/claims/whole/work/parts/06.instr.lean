/-! ===== one instruction, one row ===== -/
section AXI
variable {L : ax_L} {G : ax_G} {d pc : Nat} {lc : List (Nat × ax_V)} {st : List ax_V} {M : ax_M} {Q : Option ax_V → ax_M → Prop}
theorem ax_oks.push {v : ax_V} (h : ax_oks L lc st) (hv : ax_ok L v) : ax_oks L lc (v :: st) := ⟨h.1, fun w hw => by
  rcases List.mem_cons.mp hw with e | h1
  · subst e; exact hv
  · exact h.2 w h1⟩
theorem ax_oks.pop {v : ax_V} (h : ax_oks L lc (v :: st)) : ax_oks L lc st := ⟨h.1, fun w hw => h.2 w (List.mem_cons_of_mem _ hw)⟩
theorem ax_oks.top {v : ax_V} (h : ax_oks L lc (v :: st)) : ax_ok L v := h.2 v List.mem_cons_self
theorem ax_oks.topI {u : Nat} {n : Int} (h : ax_oks L lc ((0, u, n) :: st)) : ax_r32 n := h.top
theorem ax_oks.topL {u : Nat} {n : Int} (h : ax_oks L lc ((1, u, n) :: st)) : ax_r64 n := h.top
theorem ax_iconst {n : Int} (hd : decode (ax_cc G) pc = .ok (.iconst n, 1)) (hn : ax_r32 n) (k : ax_W L G d (pc + 1) lc ((0, 0, n) :: st) M Q) : ax_W L G d pc lc st M Q := by
  intro p l e s m args below meth c X H locs ls hC hl hok hR hS
  exact lv_iconst hC.1 hC.2.1 hd rfl (k p l e s m args below meth c X H locs ls hC hl (hok.push hn) hR hS)
theorem ax_bipush {n : Int} (hd : decode (ax_cc G) pc = .ok (.bipush n, 2)) (hn : -128 ≤ n ∧ n ≤ 127) (k : ax_W L G d (pc + 2) lc ((0, 0, n) :: st) M Q) : ax_W L G d pc lc st M Q := by
  intro p l e s m args below meth c X H locs ls hC hl hok hR hS
  have hr : ax_r32 n := ⟨by omega, by omega⟩
  have he : (Int8.ofInt n).toInt32 = Int32.ofInt n := by
    refine (ax_eqI ?_).symm
    rw [Int8.toInt_toInt32, Int8.toInt_ofInt]
    exact Int.bmod_eq_of_le (by show -((256 / 2 : Nat) : Int) ≤ n; omega) (by show n < ((256 + 1) / 2 : Nat); omega)
  exact lv_bipush hC.1 hC.2.1 hd he (k p l e s m args below meth c X H locs ls hC hl (hok.push hr) hR hS)
theorem ax_sipush {n : Int} (hd : decode (ax_cc G) pc = .ok (.sipush n, 3)) (hn : -32768 ≤ n ∧ n ≤ 32767) (k : ax_W L G d (pc + 3) lc ((0, 0, n) :: st) M Q) : ax_W L G d pc lc st M Q := by
  intro p l e s m args below meth c X H locs ls hC hl hok hR hS
  have hr : ax_r32 n := ⟨by omega, by omega⟩
  have he : (Int16.ofInt n).toInt32 = Int32.ofInt n := by
    refine (ax_eqI ?_).symm
    rw [Int16.toInt_toInt32, Int16.toInt_ofInt]
    exact Int.bmod_eq_of_le (by show -((65536 / 2 : Nat) : Int) ≤ n; omega) (by show n < ((65536 + 1) / 2 : Nat); omega)
  exact lv_sipush hC.1 hC.2.1 hd he (k p l e s m args below meth c X H locs ls hC hl (hok.push hr) hR hS)
theorem ax_ldc {n : Int} {i : Nat} (hd : decode (ax_cc G) pc = .ok (.ldc i, 2)) (hw : Cond.constant (ax_own G) i (Int32.ofInt n) ∈ ax_T) (hn : ax_r32 n) (k : ax_W L G d (pc + 2) lc ((0, 0, n) :: st) M Q) : ax_W L G d pc lc st M Q := by
  intro p l e s m args below meth c X H locs ls hC hl hok hR hS
  exact lv_ldc hC.1 hC.2.1 hC.2.2.2.2.1 (hC.2.2.2.2.2.1 _ (List.mem_cons_of_mem _ hw)) hd (k p l e s m args below meth c X H locs ls hC hl (hok.push hn) hR hS)
theorem ax_ldcw {n : Int} {i : Nat} (hd : decode (ax_cc G) pc = .ok (.ldc_w i, 3)) (hw : Cond.constant (ax_own G) i (Int32.ofInt n) ∈ ax_T) (hn : ax_r32 n) (k : ax_W L G d (pc + 3) lc ((0, 0, n) :: st) M Q) : ax_W L G d pc lc st M Q := by
  intro p l e s m args below meth c X H locs ls hC hl hok hR hS
  exact lv_ldcw hC.1 hC.2.1 hC.2.2.2.2.1 (hC.2.2.2.2.2.1 _ (List.mem_cons_of_mem _ hw)) hd (k p l e s m args below meth c X H locs ls hC hl (hok.push hn) hR hS)
theorem ax_ldc2 {n : Int} {i : Nat} (hd : decode (ax_cc G) pc = .ok (.ldc2_w i, 3)) (hw : Cond.constantLong (ax_own G) i (Int64.ofInt n) ∈ ax_T) (hn : ax_r64 n) (k : ax_W L G d (pc + 3) lc ((1, 0, n) :: st) M Q) : ax_W L G d pc lc st M Q := by
  intro p l e s m args below meth c X H locs ls hC hl hok hR hS
  exact lv_ldc2 hC.1 hC.2.1 hC.2.2.2.2.1 (hC.2.2.2.2.2.1 _ (List.mem_cons_of_mem _ hw)) hd (k p l e s m args below meth c X H locs ls hC hl (hok.push hn) hR hS)
theorem ax_lconst {n : Fin 2} (hd : decode (ax_cc G) pc = .ok (.lconst n, 1)) (k : ax_W L G d (pc + 1) lc ((1, 0, (n.val : Int)) :: st) M Q) : ax_W L G d pc lc st M Q := by
  intro p l e s m args below meth c X H locs ls hC hl hok hR hS
  have hr : ax_r64 (n.val : Int) := by have := n.isLt; unfold ax_r64; omega
  have he : Int64.ofNat (n : Nat) = Int64.ofInt (n.val : Int) := by
    have := n.isLt
    rcases n with ⟨_ | _ | n, h⟩
    · rfl
    · rfl
    · omega
  exact lv_lconst hC.1 hC.2.1 hd he (k p l e s m args below meth c X H locs ls hC hl (hok.push hr) hR hS)
theorem ax_lvat {X : ax_X} {ls : Array Slot} {n i : Nat} {v : ax_V} (hl : lv_has ls n (ax_lv X lc)) (h : (i, v) ∈ lc) : ls[i]? = some (.val (ax_vl X v)) := hl.2.2 (i, ax_vl X v) (List.mem_map.mpr ⟨(i, v), h, rfl⟩)
theorem ax_iload_n {k : Fin 4} {i u : Nat} {n : Int} (hd : decode (ax_cc G) pc = .ok (.iload_n k, 1)) (hk : (k : Nat) = i) (h : (i, ((0, u, n) : ax_V)) ∈ lc) (kk : ax_W L G d (pc + 1) lc ((0, 0, n) :: st) M Q) : ax_W L G d pc lc st M Q := by
  intro p l e s m args below meth c X H locs ls hC hl hok hR hS
  exact lv_iload_n hC.1 hC.2.1 hd hk (ax_lvat hl h) (kk p l e s m args below meth c X H locs ls hC hl (hok.push (show ax_r32 n from hok.1 _ h)) hR hS)
theorem ax_iload {i u : Nat} {n : Int} (hd : decode (ax_cc G) pc = .ok (.iload i, 2)) (h : (i, ((0, u, n) : ax_V)) ∈ lc) (kk : ax_W L G d (pc + 2) lc ((0, 0, n) :: st) M Q) : ax_W L G d pc lc st M Q := by
  intro p l e s m args below meth c X H locs ls hC hl hok hR hS
  exact lv_iload hC.1 hC.2.1 hd (ax_lvat hl h) (kk p l e s m args below meth c X H locs ls hC hl (hok.push (show ax_r32 n from hok.1 _ h)) hR hS)
theorem ax_lload_n {k : Fin 4} {i u : Nat} {n : Int} (hd : decode (ax_cc G) pc = .ok (.lload_n k, 1)) (hk : (k : Nat) = i) (h : (i, ((1, u, n) : ax_V)) ∈ lc) (kk : ax_W L G d (pc + 1) lc ((1, 0, n) :: st) M Q) : ax_W L G d pc lc st M Q := by
  intro p l e s m args below meth c X H locs ls hC hl hok hR hS
  exact lv_lload_n hC.1 hC.2.1 hd hk (ax_lvat hl h) (kk p l e s m args below meth c X H locs ls hC hl (hok.push (show ax_r64 n from hok.1 _ h)) hR hS)
theorem ax_lload {i u : Nat} {n : Int} (hd : decode (ax_cc G) pc = .ok (.lload i, 2)) (h : (i, ((1, u, n) : ax_V)) ∈ lc) (kk : ax_W L G d (pc + 2) lc ((1, 0, n) :: st) M Q) : ax_W L G d pc lc st M Q := by
  intro p l e s m args below meth c X H locs ls hC hl hok hR hS
  exact lv_lload hC.1 hC.2.1 hd (ax_lvat hl h) (kk p l e s m args below meth c X H locs ls hC hl (hok.push (show ax_r64 n from hok.1 _ h)) hR hS)
def ax_isR (v : ax_V) : Bool := !(v.1 == 0) && !(v.1 == 1) && !(v.1 == 11)
theorem ax_vl_ref {X : ax_X} {v : ax_V} (h : ax_isR v = true) : ∃ a, ax_vl X v = .ref a := by
  obtain ⟨k, a, n⟩ := v
  unfold ax_vl
  split <;> simp_all [ax_isR]
theorem ax_aload_n {k : Fin 4} {i : Nat} {v : ax_V} (hd : decode (ax_cc G) pc = .ok (.aload_n k, 1)) (hk : (k : Nat) = i) (h : (i, v) ∈ lc) (hv : ax_isR v = true) (kk : ax_W L G d (pc + 1) lc (v :: st) M Q) : ax_W L G d pc lc st M Q := by
  intro p l e s m args below meth c X H locs ls hC hl hok hR hS
  obtain ⟨a, ha⟩ := ax_vl_ref (X := X) hv
  have k2 := kk p l e s m args below meth c X H locs ls hC hl (hok.push (hok.1 _ h)) hR hS
  rw [List.map_cons, ha] at k2
  exact lv_aload_n hC.1 hC.2.1 hd hk (by rw [← ha]; exact ax_lvat hl h) k2
theorem ax_aload {i : Nat} {v : ax_V} (hd : decode (ax_cc G) pc = .ok (.aload i, 2)) (h : (i, v) ∈ lc) (hv : ax_isR v = true) (kk : ax_W L G d (pc + 2) lc (v :: st) M Q) : ax_W L G d pc lc st M Q := by
  intro p l e s m args below meth c X H locs ls hC hl hok hR hS
  obtain ⟨a, ha⟩ := ax_vl_ref (X := X) hv
  have k2 := kk p l e s m args below meth c X H locs ls hC hl (hok.push (hok.1 _ h)) hR hS
  rw [List.map_cons, ha] at k2
  exact lv_aload hC.1 hC.2.1 hd (by rw [← ha]; exact ax_lvat hl h) k2
/-- a local is written (one word) -/
def ax_put (lc : List (Nat × ax_V)) (i : Nat) (v : ax_V) : List (Nat × ax_V) := (i, v) :: lc.filter (fun q => !(q.1 == i) && !(q.1 + 1 == i && q.2.1 == 1))
def ax_put2 (lc : List (Nat × ax_V)) (i : Nat) (v : ax_V) : List (Nat × ax_V) := (i, v) :: lc.filter (fun q => !(q.1 == i) && (!(q.1 == i + 1) && !(q.1 + 1 == i && q.2.1 == 1)))
theorem ax_catb (X : ax_X) (v : ax_V) : ((ax_vl X v).category == 2) = (v.1 == 1) := by
  rw [ax_cat]
  by_cases h : v.1 = 1 <;> simp [h]
theorem ax_put_eq {X : ax_X} {i : Nat} {v : ax_V} : (i, ax_vl X v) :: (ax_lv X lc).filter (fun q => !(q.1 == i) && !(q.1 + 1 == i && q.2.category == 2)) = ax_lv X (ax_put lc i v) := by
  simp only [ax_lv, ax_put, List.map_cons, List.filter_map]
  congr 2
  apply List.filter_congr
  intro q _
  simp [Function.comp, ax_catb]
theorem ax_put2_eq {X : ax_X} {i : Nat} {v : ax_V} : (i, ax_vl X v) :: (ax_lv X lc).filter (fun q => !(q.1 == i) && (!(q.1 == i + 1) && !(q.1 + 1 == i && q.2.category == 2))) = ax_lv X (ax_put2 lc i v) := by
  simp only [ax_lv, ax_put2, List.map_cons, List.filter_map]
  congr 2
  apply List.filter_congr
  intro q _
  simp [Function.comp, ax_catb]
theorem ax_oks.put {i : Nat} {v : ax_V} (h : ax_oks L lc (v :: st)) : ax_oks L (ax_put lc i v) st := ⟨fun q hq => by
  rcases List.mem_cons.mp hq with e | h1
  · subst e; exact h.top
  · exact h.1 q (List.mem_filter.mp h1).1, h.pop.2⟩
theorem ax_oks.put2 {i : Nat} {v : ax_V} (h : ax_oks L lc (v :: st)) : ax_oks L (ax_put2 lc i v) st := ⟨fun q hq => by
  rcases List.mem_cons.mp hq with e | h1
  · subst e; exact h.top
  · exact h.1 q (List.mem_filter.mp h1).1, h.pop.2⟩
theorem ax_istore_n {k : Fin 4} {i u : Nat} {n : Int} (hd : decode (ax_cc G) pc = .ok (.istore_n k, 1)) (hk : (k : Nat) = i) (hi : i < ax_nL G) (kk : ax_W L G d (pc + 1) (ax_put lc i (0, u, n)) st M Q) : ax_W L G d pc lc ((0, u, n) :: st) M Q := by
  intro p l e s m args below meth c X H locs ls hC hl hok hR hS
  exact lv_istore_n hC.1 hC.2.1 hd hk hl hi (ax_put_eq (v := (0, u, n))) (fun ls' hl' => kk p l e s m args below meth c X H locs ls' hC hl' hok.put hR hS)
theorem ax_istore {i u : Nat} {n : Int} (hd : decode (ax_cc G) pc = .ok (.istore i, 2)) (hi : i < ax_nL G) (kk : ax_W L G d (pc + 2) (ax_put lc i (0, u, n)) st M Q) : ax_W L G d pc lc ((0, u, n) :: st) M Q := by
  intro p l e s m args below meth c X H locs ls hC hl hok hR hS
  exact lv_istore hC.1 hC.2.1 hd hl hi (ax_put_eq (v := (0, u, n))) (fun ls' hl' => kk p l e s m args below meth c X H locs ls' hC hl' hok.put hR hS)
theorem ax_lstore_n {k : Fin 4} {i u : Nat} {n : Int} (hd : decode (ax_cc G) pc = .ok (.lstore_n k, 1)) (hk : (k : Nat) = i) (hi : i + 1 < ax_nL G) (kk : ax_W L G d (pc + 1) (ax_put2 lc i (1, u, n)) st M Q) : ax_W L G d pc lc ((1, u, n) :: st) M Q := by
  intro p l e s m args below meth c X H locs ls hC hl hok hR hS
  exact lv_lstore_n hC.1 hC.2.1 hd hk hl hi (ax_put2_eq (v := (1, u, n))) (fun ls' hl' => kk p l e s m args below meth c X H locs ls' hC hl' hok.put2 hR hS)
theorem ax_lstore {i u : Nat} {n : Int} (hd : decode (ax_cc G) pc = .ok (.lstore i, 2)) (hi : i + 1 < ax_nL G) (kk : ax_W L G d (pc + 2) (ax_put2 lc i (1, u, n)) st M Q) : ax_W L G d pc lc ((1, u, n) :: st) M Q := by
  intro p l e s m args below meth c X H locs ls hC hl hok hR hS
  exact lv_lstore hC.1 hC.2.1 hd hl hi (ax_put2_eq (v := (1, u, n))) (fun ls' hl' => kk p l e s m args below meth c X H locs ls' hC hl' hok.put2 hR hS)
theorem ax_astore_n {k : Fin 4} {i : Nat} {v : ax_V} (hd : decode (ax_cc G) pc = .ok (.astore_n k, 1)) (hk : (k : Nat) = i) (hi : i < ax_nL G) (hv : ax_isR v = true) (kk : ax_W L G d (pc + 1) (ax_put lc i v) st M Q) : ax_W L G d pc lc (v :: st) M Q := by
  intro p l e s m args below meth c X H locs ls hC hl hok hR hS
  obtain ⟨a, ha⟩ := ax_vl_ref (X := X) hv
  rw [List.map_cons, ha]
  exact lv_astore_n hC.1 hC.2.1 hd hk hl hi (by rw [← ha]; exact ax_put_eq) (fun ls' hl' => kk p l e s m args below meth c X H locs ls' hC hl' hok.put hR hS)
theorem ax_astore {i : Nat} {v : ax_V} (hd : decode (ax_cc G) pc = .ok (.astore i, 2)) (hi : i < ax_nL G) (hv : ax_isR v = true) (kk : ax_W L G d (pc + 2) (ax_put lc i v) st M Q) : ax_W L G d pc lc (v :: st) M Q := by
  intro p l e s m args below meth c X H locs ls hC hl hok hR hS
  obtain ⟨a, ha⟩ := ax_vl_ref (X := X) hv
  rw [List.map_cons, ha]
  exact lv_astore hC.1 hC.2.1 hd hl hi (by rw [← ha]; exact ax_put_eq) (fun ls' hl' => kk p l e s m args below meth c X H locs ls' hC hl' hok.put hR hS)
theorem ax_iinc {i u : Nat} {n z : Int} (hd : decode (ax_cc G) pc = .ok (.iinc i z, 3)) (h : (i, ((0, u, n) : ax_V)) ∈ lc) (hi : i < ax_nL G) (kk : ax_W L G d (pc + 3) (ax_put lc i (0, 0, ax_wr (n + z))) st M Q) : ax_W L G d pc lc st M Q := by
  intro p l e s m args below meth c X H locs ls hC hl hok hR hS
  obtain ⟨j, hj⟩ := List.getElem?_of_mem (List.mem_map.mpr ⟨(i, ((0, u, n) : ax_V)), h, rfl⟩ : (i, ax_vl X (0, u, n)) ∈ ax_lv X lc)
  have he : Int32.ofInt n + Int32.ofInt z = Int32.ofInt (ax_wr (n + z)) := by rw [ax_wr_of, Int32.ofInt_add]
  exact lv_iinc hC.1 hC.2.1 hd hl hj he hi (ax_put_eq (v := (0, 0, ax_wr (n + z)))) (fun ls' hl' => kk p l e s m args below meth c X H locs ls' hC hl' (ax_oks.put (hok.push (v := (0, 0, ax_wr (n + z))) (ax_wr_r _))) hR hS)
end AXI
