/-! ===== fields, constants, returns ===== -/
def ax_cls (c : Nat) (C : String) (T : u_T) (N : Nat) (ty : Nat → FieldType) : Prop :=
  vwCl[c]? = some (C, T, N) ∧ (∀ w ∈ u_ws C T N, w ∈ ax_T) ∧ (∀ k, k < N → parseFieldDescriptor (T k).2.2.1 = some (ty k)) ∧ (∀ a, a < N → ∀ b, b < N → a ≠ b → (T a).2.1 ≠ (T b).2.1)
theorem ax_sub {ws : List Cond} (h : ws.all (fun w => decide (w ∈ ax_T)) = true) : ∀ w ∈ ws, w ∈ ax_T := fun w hw => of_decide_eq_true (List.all_eq_true.mp h w hw)
theorem ax_cls0 : ax_cls 0 RX0 TX0 18 tyX0 := ⟨rfl, ax_sub (by decide +kernel), tyX0_ok, nmX0⟩
theorem ax_cls1 : ax_cls 1 RX1 TX1 8 tyX1 := ⟨rfl, ax_sub (by decide +kernel), tyX1_ok, nmX1⟩
theorem ax_cls2 : ax_cls 2 RX2 TX2 17 tyX2 := ⟨rfl, ax_sub (by decide +kernel), tyX2_ok, nmX2⟩
theorem ax_cls3 : ax_cls 3 RX3 TX3 39 tyX3 := ⟨rfl, ax_sub (by decide +kernel), tyX3_ok, nmX3⟩
/-- a field's value as a method sees it -/
def ax_gf (q : Nat × Nat × Nat) (a n : Int) : ax_V := if q.1 = 0 ∨ q.1 = 8 then (0, 0, n) else if q.1 = 9 then (2, q.2.1, n) else (q.1, q.2.1, a + q.2.2)
def ax_fk (q : Nat × Nat × Nat) : Prop := q.1 = 0 ∨ q.1 = 8 ∨ q.1 = 9 ∨ q.1 = 2 ∨ q.1 = 3 ∨ q.1 = 4 ∨ q.1 = 5 ∨ q.1 = 6
section AXF
variable {L : ax_L} {G : ax_G} {d pc : Nat} {lc : List (Nat × ax_V)} {st : List ax_V} {M : ax_M} {Q : Option ax_V → ax_M → Prop}
theorem ax_gf_vl {X : ax_X} {q : Nat × Nat × Nat} {a n : Int} (hk : ax_fk q) (ha : 0 ≤ a) : ax_fv X a.toNat q n = ax_vl X (ax_gf q a n) := by
  obtain ⟨k, u, δ⟩ := q
  have e : (a + (δ : Int)).toNat = a.toNat + δ := by omega
  unfold ax_fk at hk
  dsimp only at hk
  rcases hk with rfl | rfl | rfl | rfl | rfl | rfl | rfl | rfl <;> simp [ax_fv, ax_gf, ax_vl, e]
theorem ax_gf_ok {q : Nat × Nat × Nat} {a : Int} {c f : Nat} (hLy : ax_lay L) (hcan : ax_can L M) (hk : ax_fk q) (ha : 0 ≤ a ∧ L[a.toNat]? = some (2, c)) (hf : (ax_fs c)[f]? = some q) : ax_ok L (ax_gf q a (M a.toNat f)) := by
  have hc : ∀ f q, (ax_fs c)[f]? = some q → ax_fok L q (M a.toNat f) := hcan _ _ ha.2
  have h1 := hc f q hf
  have h2 := hLy _ _ ha.2 q (List.mem_of_getElem? hf)
  obtain ⟨k, u, δ⟩ := q
  have e : (a + (δ : Int)).toNat = a.toNat + δ := by omega
  have e0 : 0 ≤ a + (δ : Int) := by omega
  unfold ax_fk at hk
  dsimp only at hk h2
  rcases hk with rfl | rfl | rfl | rfl | rfl | rfl | rfl | rfl
  · exact h1.1
  · have h1 : 0 ≤ M a.toNat f ∧ M a.toNat f ≤ 1 := h1
    show ax_r32 (M a.toNat f)
    unfold ax_r32; omega
  · exact h1
  all_goals (refine ⟨e0, ?_⟩; show L[(a + (δ : Int)).toNat]? = _; rw [e]; exact h2 (by simp))
theorem ax_getf {c f i N : Nat} {a : Int} {C : String} {T : u_T} {ty : Nat → FieldType} {q : Nat × Nat × Nat} (hd : decode (ax_cc G) pc = .ok (.getfield i, 3)) (hLy : ax_lay L) (hcl : ax_cls c C T N ty) (hf : (ax_fs c)[f]? = some q) (hfN : f < N) (hk : ax_fk q)
    (hw : Cond.fieldLink (ax_own G) i (T f).1 (T f).2.1 (T f).2.2.1 ∈ ax_T) (k : ax_W L G d (pc + 3) lc (ax_gf q a (M a.toNat f) :: st) M Q) : ax_W L G d pc lc ((2, c, a) :: st) M Q := by
  intro p l e s m args below meth c' X H locs ls hC hl hok hR hS
  have hs : 0 ≤ a ∧ L[a.toNat]? = some (2, c) := hok.top
  have hg := ax_ws_get (X := X) (M := M) hs.2
  have k2 := k p l e s m args below meth c' X H locs ls hC hl (hok.pop.push (ax_gf_ok hLy hR.2.2.2 hk hs hf)) hR hS
  rw [List.map_cons, ← ax_gf_vl hk hs.1] at k2
  exact va_get hC.1 hC.2.1 hC.2.2.2.2.2.1 (fun w hw => List.mem_cons_of_mem _ (hcl.2.1 w hw)) hC.2.2.2.2.1 hR.2.1 hR.1 a.toNat hg hcl.1 f hfN (hC.2.2.2.2.2.1 _ (List.mem_cons_of_mem _ hw)) (fun _ h => h) (ax_fl_get hf) hd k2
theorem ax_getfN {c f i N : Nat} {a : Int} {C host : String} {T : u_T} {ty : Nat → FieldType} {q : Nat × Nat × Nat} (hd : decode (ax_cc G) pc = .ok (.getfield i, 3)) (hLy : ax_lay L) (hcl : ax_cls c C T N ty) (hf : (ax_fs c)[f]? = some q) (hfN : f < N) (hk : ax_fk q)
    (hw : Cond.fieldLinkNest (ax_own G) i (T f).1 (T f).2.1 (T f).2.2.1 host ∈ lw_tbl) (k : ax_W L G d (pc + 3) lc (ax_gf q a (M a.toNat f) :: st) M Q) : ax_W L G d pc lc ((2, c, a) :: st) M Q := by
  intro p l e s m args below meth c' X H locs ls hC hl hok hR hS
  have hs : 0 ≤ a ∧ L[a.toNat]? = some (2, c) := hok.top
  have hg := ax_ws_get (X := X) (M := M) hs.2
  have k2 := k p l e s m args below meth c' X H locs ls hC hl (hok.pop.push (ax_gf_ok hLy hR.2.2.2 hk hs hf)) hR hS
  rw [List.map_cons, ← ax_gf_vl hk hs.1] at k2
  exact va_getN hC.1 hC.2.1 hC.2.2.2.2.2.1 (fun w hw => List.mem_cons_of_mem _ (hcl.2.1 w hw)) hC.2.2.2.2.1 hR.2.1 hR.1 a.toNat hg hcl.1 f hfN (va_Nw.use rfl (hC.2.2.2.2.2.2.2.1 _ hw rfl)) (fun _ h => h) (ax_fl_get hf) hd k2
/-- what may be stored in a field -/
def ax_pfok (q : Nat × Nat × Nat) (v : ax_V) : Prop := (q.1 = 0 ∧ v.1 = 0 ∧ (q.2.1 ≠ 0 → 0 ≤ v.2.2 ∧ v.2.2 < q.2.1)) ∨ (q.1 = 8 ∧ v.1 = 0 ∧ 0 ≤ v.2.2 ∧ v.2.2 ≤ 1) ∨ (q.1 = 9 ∧ v.1 = 2 ∧ v.2.1 = q.2.1)
def ax_pty (q : Nat × Nat × Nat) (ty : FieldType) : Prop := (q.1 = 0 ∧ ty = .int) ∨ (q.1 = 8 ∧ ty = .boolean) ∨ (q.1 = 9 ∧ ∃ n, ty = .object n)
theorem ax_pf_fv {X : ax_X} {q : Nat × Nat × Nat} {v : ax_V} {k : Nat} (h : ax_pfok q v) : ax_vl X v = ax_fv X k q v.2.2 := by
  obtain ⟨k, u, δ⟩ := q
  obtain ⟨a, b, n⟩ := v
  unfold ax_pfok at h
  dsimp only at h
  rcases h with ⟨rfl, rfl, -⟩ | ⟨rfl, rfl, -⟩ | ⟨rfl, rfl, -⟩ <;> simp [ax_fv, ax_vl]
theorem ax_pf_fit {X : ax_X} {q : Nat × Nat × Nat} {v : ax_V} {ty : FieldType} (h : ax_pfok q v) (ht : ax_pty q ty) : narrow ty (ax_vl X v) = ax_vl X v ∧ fits ty (ax_vl X v) = true := by
  obtain ⟨k, u, δ⟩ := q
  obtain ⟨a, b, n⟩ := v
  unfold ax_pfok at h
  unfold ax_pty at ht
  dsimp only at h ht
  rcases h with ⟨rfl, rfl, -⟩ | ⟨rfl, rfl, h0, h1⟩ | ⟨rfl, rfl, -⟩
  · rcases ht with ⟨-, rfl⟩ | ⟨h, -⟩ | ⟨h, -⟩
    · exact ⟨rfl, rfl⟩
    · cases h
    · cases h
  · rcases ht with ⟨h, -⟩ | ⟨-, rfl⟩ | ⟨h, -⟩
    · cases h
    · have : n = 0 ∨ n = 1 := by omega
      rcases this with rfl | rfl
      · exact ⟨(by rfl : narrow .boolean (.int (Int32.ofInt 0)) = .int (Int32.ofInt 0)), (by rfl : fits .boolean (.int (Int32.ofInt 0)) = true)⟩
      · exact ⟨(by rfl : narrow .boolean (.int (Int32.ofInt 1)) = .int (Int32.ofInt 1)), (by rfl : fits .boolean (.int (Int32.ofInt 1)) = true)⟩
    · cases h
  · rcases ht with ⟨h, -⟩ | ⟨h, -⟩ | ⟨-, o, rfl⟩
    · cases h
    · cases h
    · exact ⟨rfl, rfl⟩
theorem ax_pf_can {q : Nat × Nat × Nat} {a : Int} {c f : Nat} {v : ax_V} (hcan : ax_can L M) (hs : L[a.toNat]? = some (2, c)) (hf : (ax_fs c)[f]? = some q) (hv : ax_pfok q v) (hok : ax_ok L v) : ax_can L (ax_up M a.toNat f v.2.2) := by
  refine hcan.upd hs (show ∀ f' q', (ax_fs c)[f']? = some q' → ax_fok L q' (if f' = f then v.2.2 else M a.toNat f') from fun f' q' hq' => ?_)
  have hc : ∀ f q, (ax_fs c)[f]? = some q → ax_fok L q (M a.toNat f) := hcan _ _ hs
  by_cases hff : f' = f
  · subst hff
    cases hf.symm.trans hq'
    rw [if_pos rfl]
    obtain ⟨k, u, δ⟩ := q
    obtain ⟨x, b, n⟩ := v
    unfold ax_pfok at hv
    dsimp only at hv
    rcases hv with ⟨rfl, rfl, hr⟩ | ⟨rfl, rfl, h0, h1⟩ | ⟨rfl, rfl, rfl⟩
    · exact ⟨hok, hr⟩
    · exact ⟨h0, h1⟩
    · exact hok
  · rw [if_neg hff]
    exact hc f' q' hq'
theorem ax_pf_ws {X : ax_X} {q : Nat × Nat × Nat} {a : Int} {c f : Nat} {v : ax_V} (hs : L[a.toNat]? = some (2, c)) (hf : (ax_fs c)[f]? = some q) (hv : ax_pfok q v) :
    (ax_ws L X M).set a.toNat (X.1 a.toNat, .inr (c, (ax_fl X a.toNat (ax_fs c) (M a.toNat)).set f (ax_vl X v))) = ax_ws L X (ax_up M a.toNat f v.2.2) := by
  rw [ax_pf_fv (k := a.toNat) hv, ax_fl_set hf, ← ax_ws_set hs, ax_up_at]
  rfl
theorem ax_putf {c f i N : Nat} {a : Int} {C : String} {T : u_T} {ty : Nat → FieldType} {q : Nat × Nat × Nat} {v : ax_V} (hd : decode (ax_cc G) pc = .ok (.putfield i, 3)) (hcl : ax_cls c C T N ty) (hf : (ax_fs c)[f]? = some q) (hfN : f < N) (hfin : (T f).2.2.2 = false) (hty : ax_pty q (ty f))
    (hw : Cond.fieldLink (ax_own G) i (T f).1 (T f).2.1 (T f).2.2.1 ∈ ax_T) (hv : ax_pfok q v) (k : ax_W L G d (pc + 3) lc st (ax_up M a.toNat f v.2.2) Q) : ax_W L G d pc lc (v :: (2, c, a) :: st) M Q := by
  intro p l e s m args below meth c' X H locs ls hC hl hok hR hS
  have hs : 0 ≤ a ∧ L[a.toNat]? = some (2, c) := hok.pop.top
  have hg := ax_ws_get (X := X) (M := M) hs.2
  have hfit := ax_pf_fit (X := X) hv hty
  refine va_put hC.1 hC.2.1 hC.2.2.2.2.2.1 (fun w hw => List.mem_cons_of_mem _ (hcl.2.1 w hw)) ty hcl.2.2.1 hcl.2.2.2 hC.2.2.2.2.1 hR.2.1 hR.1 hR.2.2.1 hS a.toNat hg hcl.1 f hfN (hC.2.2.2.2.2.1 _ (List.mem_cons_of_mem _ hw)) (fun _ h => h) hfin (hcl.2.2.1 f hfN) hfit.1 hfit.2 (by rw [ax_fl_len]; exact ax_ltL hf) hd (fun H1 locs1 hP1 hD1 hS1 => ?_)
  rw [ax_pf_ws hs.2 hf hv] at hP1 hD1
  exact k p l e s m args below meth c' X H1 locs1 ls hC hl hok.pop.pop ⟨hP1, hR.2.1, hD1, ax_pf_can hR.2.2.2 hs.2 hf hv hok.top⟩ hS1
theorem ax_putfN {c f i N : Nat} {a : Int} {C host : String} {T : u_T} {ty : Nat → FieldType} {q : Nat × Nat × Nat} {v : ax_V} (hd : decode (ax_cc G) pc = .ok (.putfield i, 3)) (hcl : ax_cls c C T N ty) (hf : (ax_fs c)[f]? = some q) (hfN : f < N) (hfin : (T f).2.2.2 = false) (hty : ax_pty q (ty f))
    (hw : Cond.fieldLinkNest (ax_own G) i (T f).1 (T f).2.1 (T f).2.2.1 host ∈ lw_tbl) (hv : ax_pfok q v) (k : ax_W L G d (pc + 3) lc st (ax_up M a.toNat f v.2.2) Q) : ax_W L G d pc lc (v :: (2, c, a) :: st) M Q := by
  intro p l e s m args below meth c' X H locs ls hC hl hok hR hS
  have hs : 0 ≤ a ∧ L[a.toNat]? = some (2, c) := hok.pop.top
  have hg := ax_ws_get (X := X) (M := M) hs.2
  have hfit := ax_pf_fit (X := X) hv hty
  refine va_putN hC.1 hC.2.1 hC.2.2.2.2.2.1 (fun w hw => List.mem_cons_of_mem _ (hcl.2.1 w hw)) ty hcl.2.2.1 hcl.2.2.2 hC.2.2.2.2.1 hR.2.1 hR.1 hR.2.2.1 hS a.toNat hg hcl.1 f hfN (va_Nw.use rfl (hC.2.2.2.2.2.2.2.1 _ hw rfl)) (fun _ h => h) hfin (hcl.2.2.1 f hfN) hfit.1 hfit.2 (by rw [ax_fl_len]; exact ax_ltL hf) hd (fun H1 locs1 hP1 hD1 hS1 => ?_)
  rw [ax_pf_ws hs.2 hf hv] at hP1 hD1
  exact k p l e s m args below meth c' X H1 locs1 ls hC hl hok.pop.pop ⟨hP1, hR.2.1, hD1, ax_pf_can hR.2.2.2 hs.2 hf hv hok.top⟩ hS1
/-- a constant row is loaded -/
theorem ax_gets {i j : Nat} {q : String × List Int} (hd : decode (ax_cc G) pc = .ok (.getstatic i, 3)) (hj : ax_cs[j]? = some q) (hw : Cond.fieldLink (ax_own G) i "FlashFolio" q.1 "[I" ∈ ax_T) (k : ax_W L G d (pc + 3) lc ((10, j, 0) :: st) M Q) : ax_W L G d pc lc st M Q := by
  intro p l e s m args below meth c X H locs ls hC hl hok hR hS
  obtain ⟨a1, a2⟩ := hC.2.2.2.2.2.2.2.2.1 j q hj
  exact va_gets hC.1 hC.2.1 a1 hS hC.2.2.2.2.1 (hC.2.2.2.2.2.1 _ (List.mem_cons_of_mem _ hw)) (fun _ h => h) hd (k p l e s m args below meth c X H locs ls hC hl (hok.push (v := (10, j, 0)) trivial) hR hS)
/-- a constant text is loaded -/
theorem ax_ldcS {i j : Nat} {tx : String} (hd : decode (ax_cc G) pc = .ok (.ldc i, 2)) (hj : (ax_own G, i, j, tx) ∈ ax_tr) (k : ax_W L G d (pc + 2) lc ((7, j, 0) :: st) M Q) : ax_W L G d pc lc st M Q := by
  intro p l e s m args below meth c X H locs ls hC hl hok hR hS
  exact va_ldcS hC.1 hC.2.1 hC.2.2.2.2.1 (hC.2.2.2.2.2.2.2.2.2.2.1 _ hj) hd (k p l e s m args below meth c X H locs ls hC hl (hok.push (v := (7, j, 0)) trivial) hR hS)
/-! returns -/
theorem ax_Q_of {X : ax_X} {s t : State} {H : Heap} {locs : List Loc} {args : Array Value} {r : Option ax_V} (hr : ax_okr L r) (hq : Q r M) (hR : ax_R L X M s H) (hS : va_S (ax_A L X) s.heap H locs) (ht : t.heap = H) (hW : s.WarmedH t.vm) : ax_Q L X Q args s (.returned (r.map (ax_vl X))) t :=
  ⟨⟨r, M, rfl, hq, hr, (ht ▸ hR.moved hW.alike : ax_R L X M t t.heap)⟩, hS.F ht⟩
theorem ax_iret {u : Nat} {n : Int} (hd : decode (ax_cc G) pc = .ok (.ireturn, 1)) (hret : ax_ret G = some .int) (hq : Q (some (0, u, n)) M) : ax_W L G d pc lc [(0, u, n)] M Q := by
  intro p l e s m args below meth c X H locs ls hC hl hok hR hS
  have hlocks := hC.2.2.2.2.2.2.1
  exact W.iret hC.1 hC.2.1 (hC.2.2.1.trans hret) (fun t ht hW => ax_Q_of (r := some (0, u, n)) (fun v hv => by cases hv; exact hok.top) hq hR hS ht hW) hS.2.2 hd
theorem ax_zret {u : Nat} {n : Int} (hd : decode (ax_cc G) pc = .ok (.ireturn, 1)) (hret : ax_ret G = some .boolean) (hn : 0 ≤ n ∧ n ≤ 1) (hq : Q (some (0, u, n)) M) : ax_W L G d pc lc [(0, u, n)] M Q := by
  intro p l e s m args below meth c X H locs ls hC hl hok hR hS
  have hlocks := hC.2.2.2.2.2.2.1
  have hnar : narrow .boolean (.int (Int32.ofInt n)) = .int (Int32.ofInt n) := by
    have : n = 0 ∨ n = 1 := by omega
    rcases this with rfl | rfl <;> rfl
  exact W.zret hC.1 hC.2.1 (hC.2.2.1.trans hret) hnar (fun t ht hW => ax_Q_of (r := some (0, u, n)) (fun v hv => by cases hv; exact hok.top) hq hR hS ht hW) hS.2.2 hd
theorem ax_lret {u : Nat} {n : Int} (hd : decode (ax_cc G) pc = .ok (.lreturn, 1)) (hret : ax_ret G = some .long) (hq : Q (some (1, u, n)) M) : ax_W L G d pc lc [(1, u, n)] M Q := by
  intro p l e s m args below meth c X H locs ls hC hl hok hR hS
  have hlocks := hC.2.2.2.2.2.2.1
  exact W.lret hC.1 hC.2.1 (hC.2.2.1.trans hret) (fun t ht hW => ax_Q_of (r := some (1, u, n)) (fun v hv => by cases hv; exact hok.top) hq hR hS ht hW) hS.2.2 hd
theorem ax_vret (hd : decode (ax_cc G) pc = .ok (.return_, 1)) (hret : ax_ret G = none) (hq : Q none M) : ax_W L G d pc lc [] M Q := by
  intro p l e s m args below meth c X H locs ls hC hl hok hR hS
  have hlocks := hC.2.2.2.2.2.2.1
  exact W.vret hC.1 hC.2.1 (hC.2.2.1.trans hret) (fun t ht hW => ax_Q_of (r := none) (fun v hv => by cases hv) hq hR hS ht hW) hS.2.2 hd
theorem ax_aret {v : ax_V} (hd : decode (ax_cc G) pc = .ok (.areturn, 1)) (hv : ax_isR v = true) {ty : FieldType} (hret : ax_ret G = some (.array ty)) (hq : Q (some v) M) : ax_W L G d pc lc [v] M Q := by
  intro p l e s m args below meth c X H locs ls hC hl hok hR hS
  have hlocks := hC.2.2.2.2.2.2.1
  exact W.aret hC.1 hC.2.1 (hC.2.2.1.trans hret) (Or.inr ⟨_, rfl⟩) (Or.inr (ax_vl_ref hv)) (fun t ht hW => ax_Q_of (r := some v) (fun w hw => by cases hw; exact hok.top) hq hR hS ht hW) hS.2.2 hd
end AXF
