/-! ===== fields and rows ===== -/
section AXH
variable {L : ax_L} {G : ax_G} {d pc : Nat} {lc : List (Nat × ax_V)} {st : List ax_V} {M : ax_M} {Q : Option ax_V → ax_M → Prop}
theorem ax_can.at {s : Nat} {q : Nat × Nat} (h : ax_can L M) (hs : L[s]? = some q) : ax_cok L q (M s) := h s q hs
theorem ax_can.upd {s i : Nat} {v : Int} {q : Nat × Nat} (h : ax_can L M) (hs : L[s]? = some q) (hv : ax_cok L q (fun j => if j = i then v else M s j)) : ax_can L (ax_up M s i v) := by
  intro k q' hk
  by_cases hks : k = s
  · subst hks
    cases hs.symm.trans hk
    rw [ax_up_at]
    exact hv
  · rw [ax_up_ne hks]
    exact h k q' hk
theorem ax_ty3 {X : ax_X} : (ax_tys X)[0]? = some (X.2.1 3, .int) := rfl
theorem ax_ty4 {X : ax_X} : (ax_tys X)[1]? = some (X.2.1 4, .long) := rfl
theorem ax_ty5 {X : ax_X} : (ax_tys X)[2]? = some (X.2.1 5, .char) := rfl
theorem ax_ty6 {X : ax_X} : (ax_tys X)[3]? = some (X.2.1 6, .boolean) := rfl
theorem ax_cellI {X : ax_X} {k n : Nat} {g : Nat → Int} : ax_cell X k (3, n) g = .inl (X.2.1 3, n, .inl (fun i => Int32.ofInt (g i))) := rfl
theorem ax_cellJ {X : ax_X} {k n : Nat} {g : Nat → Int} : ax_cell X k (4, n) g = .inl (X.2.1 4, n, .inr (.inl (fun i => Int64.ofInt (g i)))) := rfl
theorem ax_cellC {X : ax_X} {k n : Nat} {g : Nat → Int} : ax_cell X k (5, n) g = .inl (X.2.1 5, n, .inl (fun i => Int32.ofInt (g i))) := rfl
theorem ax_cellZ {X : ax_X} {k n : Nat} {g : Nat → Int} : ax_cell X k (6, n) g = .inl (X.2.1 6, n, .inl (fun i => Int32.ofInt (g i))) := rfl
theorem ax_updI {f : Nat → Int} {k : Nat} {v : Int} : upd (fun i => Int32.ofInt (f i)) k (Int32.ofInt v) = fun i => Int32.ofInt (if i = k then v else f i) := by
  funext j
  by_cases h : j = k
  · subst h; simp [pk_us]
  · rw [pk_un h, if_neg h]
theorem ax_updL {f : Nat → Int} {k : Nat} {v : Int} : vp_updL (fun i => Int64.ofInt (f i)) k (Int64.ofInt v) = fun i => Int64.ofInt (if i = k then v else f i) := by
  funext j
  by_cases h : j = k
  · subst h; simp [pk_uLs]
  · rw [pk_uLn h, if_neg h]
theorem ax_narZ {x : Int} (h : 0 ≤ x ∧ x ≤ 1) : vp_nar .boolean (Int32.ofInt x) = Int32.ofInt x := by
  have : x = 0 ∨ x = 1 := by omega
  rcases this with rfl | rfl <;> decide
theorem ax_nI {x : Int} (h : 0 ≤ x) : Int32.ofInt x = nI x.toNat := by
  obtain ⟨k, rfl⟩ := Int.eq_ofNat_of_zero_le h
  rfl
theorem ax_narC {x : Int} (h : 0 ≤ x ∧ x ≤ 65535) : vp_nar .char (Int32.ofInt x) = Int32.ofInt x := by
  have h1 := (pk_charN (q := x.toNat) (by omega)).1
  rw [← ax_nI h.1] at h1
  unfold vp_nar
  rw [h1]
theorem ax_iaload {a i : Int} {n u : Nat} (hd : decode (ax_cc G) pc = .ok (.iaload, 1)) (hi : 0 ≤ i ∧ i < n) (k : ax_W L G d (pc + 1) lc ((0, 0, M a.toNat i.toNat) :: st) M Q) : ax_W L G d pc lc ((0, u, i) :: (3, n, a) :: st) M Q := by
  intro p l e s m args below meth c X H locs ls hC hl hok hR hS
  have hir := hok.topI
  have hs : 0 ≤ a ∧ L[a.toNat]? = some (3, n) := hok.pop.top
  have hc := hR.2.2.2.at hs.2
  have k2 := k p l e s m args below meth c X H locs ls hC hl (hok.pop.pop.push (v := (0, 0, M a.toNat i.toNat)) (hc _)) hR hS
  have hg := ax_ws_get (X := X) (M := M) hs.2
  rw [ax_cellI] at hg
  refine va_iald hC.1 hC.2.1 hR.2.1 hR.1 a.toNat 0 hg ax_ty3 (ax_in hir hi.1 hi.2) hd ?_
  rw [ax_clamp hir]
  exact k2
theorem ax_caload {a i : Int} {n u : Nat} (hd : decode (ax_cc G) pc = .ok (.caload, 1)) (hi : 0 ≤ i ∧ i < n) (k : ax_W L G d (pc + 1) lc ((0, 0, M a.toNat i.toNat) :: st) M Q) : ax_W L G d pc lc ((0, u, i) :: (5, n, a) :: st) M Q := by
  intro p l e s m args below meth c X H locs ls hC hl hok hR hS
  have hir := hok.topI
  have hs : 0 ≤ a ∧ L[a.toNat]? = some (5, n) := hok.pop.top
  have hc : ∀ i, 0 ≤ M a.toNat i ∧ M a.toNat i ≤ 65535 := hR.2.2.2.at hs.2
  have k2 := k p l e s m args below meth c X H locs ls hC hl (hok.pop.pop.push (v := (0, 0, M a.toNat i.toNat)) (show ax_r32 (M a.toNat i.toNat) from by have := hc i.toNat; unfold ax_r32; omega)) hR hS
  have hg := ax_ws_get (X := X) (M := M) hs.2
  rw [ax_cellC] at hg
  refine va_cald hC.1 hC.2.1 hR.2.1 hR.1 a.toNat 2 hg ax_ty5 (ax_in hir hi.1 hi.2) hd ?_
  rw [ax_clamp hir]
  exact k2
theorem ax_baload {a i : Int} {n u : Nat} (hd : decode (ax_cc G) pc = .ok (.baload, 1)) (hi : 0 ≤ i ∧ i < n) (k : ax_W L G d (pc + 1) lc ((0, 0, M a.toNat i.toNat) :: st) M Q) : ax_W L G d pc lc ((0, u, i) :: (6, n, a) :: st) M Q := by
  intro p l e s m args below meth c X H locs ls hC hl hok hR hS
  have hir := hok.topI
  have hs : 0 ≤ a ∧ L[a.toNat]? = some (6, n) := hok.pop.top
  have hc : ∀ i, 0 ≤ M a.toNat i ∧ M a.toNat i ≤ 1 := hR.2.2.2.at hs.2
  have k2 := k p l e s m args below meth c X H locs ls hC hl (hok.pop.pop.push (v := (0, 0, M a.toNat i.toNat)) (show ax_r32 (M a.toNat i.toNat) from by have := hc i.toNat; unfold ax_r32; omega)) hR hS
  have hg := ax_ws_get (X := X) (M := M) hs.2
  rw [ax_cellZ] at hg
  refine va_zald hC.1 hC.2.1 hR.2.1 hR.1 a.toNat 3 hg ax_ty6 (ax_in hir hi.1 hi.2) hd ?_
  rw [ax_clamp hir]
  exact k2
theorem ax_laload {a i : Int} {n u : Nat} (hd : decode (ax_cc G) pc = .ok (.laload, 1)) (hi : 0 ≤ i ∧ i < n) (k : ax_W L G d (pc + 1) lc ((1, 0, M a.toNat i.toNat) :: st) M Q) : ax_W L G d pc lc ((0, u, i) :: (4, n, a) :: st) M Q := by
  intro p l e s m args below meth c X H locs ls hC hl hok hR hS
  have hir := hok.topI
  have hs : 0 ≤ a ∧ L[a.toNat]? = some (4, n) := hok.pop.top
  have hc : ∀ i, ax_r64 (M a.toNat i) := hR.2.2.2.at hs.2
  have k2 := k p l e s m args below meth c X H locs ls hC hl (hok.pop.pop.push (v := (1, 0, M a.toNat i.toNat)) (hc _)) hR hS
  have hg := ax_ws_get (X := X) (M := M) hs.2
  rw [ax_cellJ] at hg
  refine va_lald hC.1 hC.2.1 hR.2.1 hR.1 a.toNat 1 hg ax_ty4 (ax_in hir hi.1 hi.2) hd ?_
  rw [ax_clamp hir]
  exact k2
/-- a constant row -/
theorem ax_kaload {i : Int} {j u : Nat} {a : Int} {q : String × List Int} (hd : decode (ax_cc G) pc = .ok (.iaload, 1)) (hj : ax_cs[j]? = some q) (hi : 0 ≤ i ∧ i < q.2.length) (hr : ax_r32 (q.2.getD i.toNat 0)) (k : ax_W L G d (pc + 1) lc ((0, 0, q.2.getD i.toNat 0) :: st) M Q) : ax_W L G d pc lc ((0, u, i) :: (10, j, a) :: st) M Q := by
  intro p l e s m args below meth c X H locs ls hC hl hok hR hS
  have hir := hok.topI
  obtain ⟨a1, a2⟩ := hC.2.2.2.2.2.2.2.2.1 j q hj
  have k2 := k p l e s m args below meth c X H locs ls hC hl (hok.pop.pop.push (v := (0, 0, q.2.getD i.toNat 0)) hr) hR hS
  obtain ⟨cell, h1, h2, h3, h4, _, h5, _⟩ := a2.kept hS.2.1
  have hin : vp_in (Int32.ofInt i) q.2.length := ax_in hir hi.1 hi.2
  have hlt : (Int32.ofInt i).toNatClampNeg < q.2.length := Nat.not_le.mp fun z => hin (Or.inr z)
  have h6 := h5 _ hlt
  rw [ax_clamp hir] at h6
  exact W.iald (v := .int (Int32.ofInt (q.2.getD i.toNat 0))) hC.1 hC.2.1 h1 h2 h3 (fun z => hin (z.imp id (fun z => Nat.le_trans h4 z))) (by rw [ax_clamp hir]; exact h6) rfl rfl hd k2
theorem ax_alen {v : ax_V} {n : Nat} {a : Int} (hk : v = (3, n, a) ∨ v = (4, n, a) ∨ v = (5, n, a) ∨ v = (6, n, a)) (hd : decode (ax_cc G) pc = .ok (.arraylength, 1)) (hn : (n : Int) ≤ 2147483647) (k : ax_W L G d (pc + 1) lc ((0, 0, (n : Int)) :: st) M Q) : ax_W L G d pc lc (v :: st) M Q := by
  intro p l e s m args below meth c X H locs ls hC hl hok hR hS
  have k2 := k p l e s m args below meth c X H locs ls hC hl (hok.pop.push (v := (0, 0, (n : Int))) (show ax_r32 (n : Int) from by unfold ax_r32; omega)) hR hS
  have hs := hok.top
  rcases hk with rfl | rfl | rfl | rfl
  · have hg := ax_ws_get (X := X) (M := M) (show L[a.toNat]? = some (3, n) from hs.2)
    exact va_alen hC.1 hC.2.1 hR.2.1 hR.1 a.toNat 0 (by rw [hg, ax_cellI]) ax_ty3 (v := Int32.ofInt n) (by rfl) hd k2
  · have hg := ax_ws_get (X := X) (M := M) (show L[a.toNat]? = some (4, n) from hs.2)
    exact va_alen hC.1 hC.2.1 hR.2.1 hR.1 a.toNat 1 (by rw [hg, ax_cellJ]) ax_ty4 (v := Int32.ofInt n) (by rfl) hd k2
  · have hg := ax_ws_get (X := X) (M := M) (show L[a.toNat]? = some (5, n) from hs.2)
    exact va_alen hC.1 hC.2.1 hR.2.1 hR.1 a.toNat 2 (by rw [hg, ax_cellC]) ax_ty5 (v := Int32.ofInt n) (by rfl) hd k2
  · have hg := ax_ws_get (X := X) (M := M) (show L[a.toNat]? = some (6, n) from hs.2)
    exact va_alen hC.1 hC.2.1 hR.2.1 hR.1 a.toNat 3 (by rw [hg, ax_cellZ]) ax_ty6 (v := Int32.ofInt n) (by rfl) hd k2
theorem ax_iastore {a i x : Int} {n u w : Nat} (hd : decode (ax_cc G) pc = .ok (.iastore, 1)) (hi : 0 ≤ i ∧ i < n) (k : ax_W L G d (pc + 1) lc st (ax_up M a.toNat i.toNat x) Q) : ax_W L G d pc lc ((0, w, x) :: (0, u, i) :: (3, n, a) :: st) M Q := by
  intro p l e s m args below meth c X H locs ls hC hl hok hR hS
  have hx := hok.topI
  have hir := hok.pop.topI
  have hs : 0 ≤ a ∧ L[a.toNat]? = some (3, n) := hok.pop.pop.top
  have hc : ∀ i, ax_r32 (M a.toNat i) := hR.2.2.2.at hs.2
  have hg := ax_ws_get (X := X) (M := M) hs.2
  rw [ax_cellI] at hg
  refine va_iast hC.1 hC.2.1 hR.2.1 hR.1 hR.2.2.1 hS a.toNat 0 hg ax_ty3 (ax_in hir hi.1 hi.2) hd (fun H1 locs1 hP1 hD1 hS1 => ?_)
  have he := ax_ws_set (X := X) (M := M) (i := i.toNat) (v := x) hs.2
  rw [ax_cellI, ax_up_at, ← ax_updI] at he
  rw [ax_clamp hir] at hP1 hD1
  rw [he] at hP1 hD1
  have hcan : ax_can L (ax_up M a.toNat i.toNat x) := hR.2.2.2.upd hs.2 (show ∀ j, ax_r32 (if j = i.toNat then x else M a.toNat j) from fun j => by
    by_cases hj : j = i.toNat
    · rw [if_pos hj]; exact hx
    · rw [if_neg hj]; exact hc j)
  exact k p l e s m args below meth c X H1 locs1 ls hC hl hok.pop.pop.pop ⟨hP1, hR.2.1, hD1, hcan⟩ hS1
theorem ax_lastore {a i x : Int} {n u w : Nat} (hd : decode (ax_cc G) pc = .ok (.lastore, 1)) (hi : 0 ≤ i ∧ i < n) (k : ax_W L G d (pc + 1) lc st (ax_up M a.toNat i.toNat x) Q) : ax_W L G d pc lc ((1, w, x) :: (0, u, i) :: (4, n, a) :: st) M Q := by
  intro p l e s m args below meth c X H locs ls hC hl hok hR hS
  have hx := hok.topL
  have hir := hok.pop.topI
  have hs : 0 ≤ a ∧ L[a.toNat]? = some (4, n) := hok.pop.pop.top
  have hc : ∀ i, ax_r64 (M a.toNat i) := hR.2.2.2.at hs.2
  have hg := ax_ws_get (X := X) (M := M) hs.2
  rw [ax_cellJ] at hg
  refine va_last hC.1 hC.2.1 hR.2.1 hR.1 hR.2.2.1 hS a.toNat 1 hg ax_ty4 (ax_in hir hi.1 hi.2) hd (fun H1 locs1 hP1 hD1 hS1 => ?_)
  have he := ax_ws_set (X := X) (M := M) (i := i.toNat) (v := x) hs.2
  rw [ax_cellJ, ax_up_at, ← ax_updL] at he
  rw [ax_clamp hir] at hP1 hD1
  rw [he] at hP1 hD1
  have hcan : ax_can L (ax_up M a.toNat i.toNat x) := hR.2.2.2.upd hs.2 (show ∀ j, ax_r64 (if j = i.toNat then x else M a.toNat j) from fun j => by
    by_cases hj : j = i.toNat
    · rw [if_pos hj]; exact hx
    · rw [if_neg hj]; exact hc j)
  exact k p l e s m args below meth c X H1 locs1 ls hC hl hok.pop.pop.pop ⟨hP1, hR.2.1, hD1, hcan⟩ hS1
theorem ax_castore {a i x : Int} {n u w : Nat} (hd : decode (ax_cc G) pc = .ok (.castore, 1)) (hi : 0 ≤ i ∧ i < n) (hxr : 0 ≤ x ∧ x ≤ 65535) (k : ax_W L G d (pc + 1) lc st (ax_up M a.toNat i.toNat x) Q) : ax_W L G d pc lc ((0, w, x) :: (0, u, i) :: (5, n, a) :: st) M Q := by
  intro p l e s m args below meth c X H locs ls hC hl hok hR hS
  have hx := hok.topI
  have hir := hok.pop.topI
  have hs : 0 ≤ a ∧ L[a.toNat]? = some (5, n) := hok.pop.pop.top
  have hc : ∀ i, 0 ≤ M a.toNat i ∧ M a.toNat i ≤ 65535 := hR.2.2.2.at hs.2
  have hg := ax_ws_get (X := X) (M := M) hs.2
  rw [ax_cellC] at hg
  refine va_cast hC.1 hC.2.1 hR.2.1 hR.1 hR.2.2.1 hS a.toNat 2 hg ax_ty5 (ax_in hir hi.1 hi.2) hd (fun H1 locs1 hP1 hD1 hS1 => ?_)
  have he := ax_ws_set (X := X) (M := M) (i := i.toNat) (v := x) hs.2
  rw [ax_cellC, ax_up_at, ← ax_updI] at he
  rw [ax_clamp hir] at hP1 hD1
  have hnar : vp_nar .char (Int32.ofInt x) = Int32.ofInt x := ax_narC hxr
  rw [hnar] at hP1 hD1
  rw [he] at hP1 hD1
  have hcan : ax_can L (ax_up M a.toNat i.toNat x) := hR.2.2.2.upd hs.2 (show ∀ j, 0 ≤ (if j = i.toNat then x else M a.toNat j) ∧ (if j = i.toNat then x else M a.toNat j) ≤ 65535 from fun j => by
    by_cases hj : j = i.toNat
    · rw [if_pos hj]; exact hxr
    · rw [if_neg hj]; exact hc j)
  exact k p l e s m args below meth c X H1 locs1 ls hC hl hok.pop.pop.pop ⟨hP1, hR.2.1, hD1, hcan⟩ hS1
theorem ax_bastore {a i x : Int} {n u w : Nat} (hd : decode (ax_cc G) pc = .ok (.bastore, 1)) (hi : 0 ≤ i ∧ i < n) (hxr : 0 ≤ x ∧ x ≤ 1) (k : ax_W L G d (pc + 1) lc st (ax_up M a.toNat i.toNat x) Q) : ax_W L G d pc lc ((0, w, x) :: (0, u, i) :: (6, n, a) :: st) M Q := by
  intro p l e s m args below meth c X H locs ls hC hl hok hR hS
  have hx := hok.topI
  have hir := hok.pop.topI
  have hs : 0 ≤ a ∧ L[a.toNat]? = some (6, n) := hok.pop.pop.top
  have hc : ∀ i, 0 ≤ M a.toNat i ∧ M a.toNat i ≤ 1 := hR.2.2.2.at hs.2
  have hg := ax_ws_get (X := X) (M := M) hs.2
  rw [ax_cellZ] at hg
  refine va_zast hC.1 hC.2.1 hR.2.1 hR.1 hR.2.2.1 hS a.toNat 3 hg ax_ty6 (ax_in hir hi.1 hi.2) hd (fun H1 locs1 hP1 hD1 hS1 => ?_)
  have he := ax_ws_set (X := X) (M := M) (i := i.toNat) (v := x) hs.2
  rw [ax_cellZ, ax_up_at, ← ax_updI] at he
  rw [ax_clamp hir] at hP1 hD1
  have hnar : vp_nar .boolean (Int32.ofInt x) = Int32.ofInt x := ax_narZ hxr
  rw [hnar] at hP1 hD1
  rw [he] at hP1 hD1
  have hcan : ax_can L (ax_up M a.toNat i.toNat x) := hR.2.2.2.upd hs.2 (show ∀ j, 0 ≤ (if j = i.toNat then x else M a.toNat j) ∧ (if j = i.toNat then x else M a.toNat j) ≤ 1 from fun j => by
    by_cases hj : j = i.toNat
    · rw [if_pos hj]; exact hxr
    · rw [if_neg hj]; exact hc j)
  exact k p l e s m args below meth c X H1 locs1 ls hC hl hok.pop.pop.pop ⟨hP1, hR.2.1, hD1, hcan⟩ hS1
end AXH
