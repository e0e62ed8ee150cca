/-! ===== rule and law, side by side ===== -/
section RUL
variable {C D : Int} {Mc Mm Nc Nm X Y Z V M : ax_M} {r τ : fo_R}
theorem rr_G {b : Nat} (hCD : C ≤ D) (hb : b = 28 ∨ b = 31) (h : pr_G C Mc Mm) (hc : ∀ t, t ≠ 0 → t ≠ b → t ≠ b + 1 → t ≠ b + 2 → Nc t = Mc t) (hc0 : ∀ f, f ≠ 7 → f ≠ 8 → f ≠ 10 → Nc 0 f = Mc 0 f) (hm : ∀ t, t ≠ 0 → t ≠ 3 → t ≠ 4 → t ≠ 19 → Nm t = Mm t) (hm0 : ∀ f, f ≠ 0 → f ≠ 4 → f ≠ 5 → f ≠ 6 → f ≠ 7 → f ≠ 10 → f ≠ 11 → Nm 0 f = Mm 0 f) (hX : pr_X Nc Nm) (hR : D < 2000000000 → pr_R Nc Nm) : pr_G D Nc Nm := by
  obtain ⟨⟨hN, hP, hK, hH, _, _⟩, hT⟩ := h
  have ec : ∀ t, t ≠ 0 → (t < 28 ∨ 33 < t) → Nc t = Mc t := fun t t0 t1 => hc t t0 (by omega) (by omega) (by omega)
  have em : ∀ t, t = 1 ∨ t = 7 ∨ t = 8 ∨ t = 13 ∨ t = 17 ∨ t = 18 ∨ t = 20 ∨ t = 21 → Nm t = Mm t := fun t ht => hm t (by omega) (by omega) (by omega) (by omega)
  exact ⟨⟨pr_N_cg hCD ⟨fun k k1 k2 => ec k (by omega) (by omega), cS.e (ec 1 (by decide) (by decide)), cS.e (ec 13 (by decide) (by decide))⟩ ⟨em 7 (by decide), fun j _ => by rw [em 8 (by decide)]⟩ hN,
    pr_P_cg hCD ⟨hc0 3 (by decide) (by decide) (by decide), hc0 4 (by decide) (by decide) (by decide), fun i _ => by rw [ec 25 (by decide) (by decide)]⟩ ⟨hm0 24 (by decide) (by decide) (by decide) (by decide) (by decide) (by decide) (by decide), fun i _ => by rw [em 13 (by decide)]⟩ hP,
    pr_K_cg hCD (ec 27 (by decide) (by decide)) (ec 26 (by decide) (by decide)) (em 20 (by decide)) (em 21 (by decide)) hK,
    pr_H_cg (hc0 15 (by decide) (by decide) (by decide)) (ec 36 (by decide) (by decide)) (ec 37 (by decide) (by decide)) (hm0 32 (by decide) (by decide) (by decide) (by decide) (by decide) (by decide) (by decide)) (em 17 (by decide)) (em 18 (by decide)) hH, hX, hR⟩,
    pr_T_cg (hc0 12 (by decide) (by decide) (by decide)) (ec 35 (by decide) (by decide)) (hm0 1 (by decide) (by decide) (by decide) (by decide) (by decide) (by decide) (by decide)) (em 1 (by decide)) hT⟩
theorem rr_X0 (h1 : Nc 0 10 = 0) (h2 : Nm 0 4 = 0) : pr_X Nc Nm := ⟨by rw [h1, h2], by rw [h2]; decide, by rw [h2]; decide, fun i hi => by rw [h2] at hi; omega⟩
/-! laying a code -/
theorem ly_L {w2 : Int} : ∀ (k i : Nat) (M : ax_M) (a1 : Nat), a1 ≠ 3 → (∀ t, t ≠ 3 → f_X3_laysCode_L7 a1 w2 k (i : Int) M (fun M3 => M3) t = M t) ∧ ∀ j, f_X3_laysCode_L7 a1 w2 k (i : Int) M (fun M3 => M3) 3 j = if i ≤ j ∧ j < i + k then M a1 j else M 3 j := by
  intro k
  induction k with
  | zero => intro i M a1 _; exact ⟨fun _ _ => rfl, fun j => by rw [if_neg (by omega)]; rfl⟩
  | succ k ih =>
    intro i M a1 ha
    rw [f_X3_laysCode_L7]
    unfold f_X3_laysCode_B7
    simp only [ax_bd_e]
    rw [fo_t0, show (i : Int) + 1 = ((i + 1 : Nat) : Int) by omega]
    obtain ⟨q1, q2⟩ := ih (i + 1) (ax_up M 3 i (M a1 i)) a1 ha
    refine ⟨fun t ht => by rw [q1 t ht, ax_up_ne ht], fun j => ?_⟩
    rw [q2 j, ax_up_ne ha, fo_up_at, fo_u_eq]
    by_cases e : j = i
    · subst e
      rw [if_neg (by omega), if_pos rfl, if_pos (by omega)]
    · rw [if_neg e]
      by_cases h : i + 1 ≤ j ∧ j < i + 1 + k
      · rw [if_pos h, if_pos (by omega)]
      · rw [if_neg h, if_neg (by omega)]
theorem ly_code {a1 n : Nat} (ha : a1 ≠ 3) (ha0 : a1 ≠ 0) : (∀ t, t ≠ 0 → t ≠ 3 → f_X3_laysCode a1 (n : Int) M t = M t) ∧ (∀ f, f ≠ 10 → f_X3_laysCode a1 (n : Int) M 0 f = M 0 f) ∧ f_X3_laysCode a1 (n : Int) M 0 10 = (n : Int) ∧ ∀ j, j < n → f_X3_laysCode a1 (n : Int) M 3 j = M a1 j := by
  obtain ⟨q1, q2⟩ := ly_L (w2 := (n : Int)) n 0 (ax_up M 0 10 (n : Int)) a1 ha
  have e : f_X3_laysCode a1 (n : Int) M = f_X3_laysCode_L7 a1 (n : Int) n ((0 : Nat) : Int) (ax_up M 0 10 (n : Int)) (fun M3 => M3) := by
    unfold f_X3_laysCode
    simp only [ax_bd_e]
    rw [show ((n : Int) - 0).toNat = n by omega]
    rfl
  rw [e]
  refine ⟨fun t t0 t3 => by rw [q1 t t3, ax_up_ne t0], fun f hf => by rw [q1 0 (by decide), fo_up_at, fo_u_o hf], by rw [q1 0 (by decide), fo_up_at, fo_u_s], fun j hj => ?_⟩
  rw [q2 j, if_pos (by omega), ax_up_ne ha0]
/-- the code read is laid down: the class's, the model's -/
theorem rr_cM {cs : List Int} (hcs : cs.length ≤ 40) (h : (M 0 11 = 0 ∧ cs = [1000, 4, 2001]) ∨ (cs.length ≠ 0 ∧ ml_S cs M)) : pr_cM cs (f_X3_laysCode 4 (M 0 11) M) ∧ (∀ t, t ≠ 0 → t ≠ 3 → f_X3_laysCode 4 (M 0 11) M t = M t) ∧ ∀ f, f ≠ 10 → f_X3_laysCode 4 (M 0 11) M 0 f = M 0 f := by
  rcases h with ⟨h1, h2⟩ | ⟨h1, h2, h3⟩
  · rw [h1]
    obtain ⟨q1, q2, q3, q4⟩ := ly_code (M := M) (a1 := 4) (n := 0) (by decide) (by decide)
    exact ⟨Or.inl ⟨q3, h2⟩, q1, q2⟩
  · rw [h2]
    obtain ⟨q1, q2, q3, q4⟩ := ly_code (M := M) (a1 := 4) (n := cs.length) (by decide) (by decide)
    exact ⟨Or.inr ⟨h1, q3, fun i hi => by rw [q4 i hi]; exact h3 i hi⟩, q1, q2⟩
theorem rr_cC {b : Nat} {cs : List Int} (h : cl_S b (cs.map fo_sgn) [] M) : pr_cC b cs M := by
  obtain ⟨h1, h2, _, _⟩ := h
  rw [List.length_map] at h1 h2
  refine ⟨h1, fun i hi => ?_⟩
  have := h2 i hi
  rw [List.getElem?_map] at this
  cases hc : cs[i]? with
  | none => rw [hc] at this; cases this
  | some c => rw [hc] at this; exact ⟨c, rfl, (Option.some.inj this).symm⟩
theorem rr_cC_cg {a : Nat} {cs : List Int} (h1 : Nc a 1 = Mc a 1) (h2 : Nc (a + 1) = Mc (a + 1)) (h : pr_cC a cs Mc) : pr_cC a cs Nc := by
  unfold pr_cC at *
  rw [h1, h2]
  exact h
theorem rr_cM_cg {cs : List Int} (h1 : Nm 0 10 = Mm 0 10) (h2 : Nm 3 = Mm 3) (h : pr_cM cs Mm) : pr_cM cs Nm := by
  unfold pr_cM at *
  rw [h1, h2]
  exact h
theorem rr_Wm {cs : List Int} (hw : fo_wf cs 0) (hcs : cs.length ≤ 40) (h : pr_cM cs Nm) : fo_Wm (fo_ev cs) Nm := by
  rcases h with ⟨e1, e2⟩ | ⟨e1, e2, e3⟩
  · rw [e2]
    exact fm_Wm0 e1
  · exact fm_Wm (by omega) e1 hw e2 e3
/-- both have read the other rule -/
def rr_p (C : Int) (A B : Prop × Int × ax_M) : Prop := A.1 ∧ B.1 ∧ pr_G C A.2.2 B.2.2 ∧ A.2.2 0 10 = 0 ∧ B.2.2 0 4 = 0 ∧ ((∃ l : Nat, l ≤ 40 ∧ A.2.1 = (l : Int) ∧ B.2.1 = -1 - (l : Int)) ∨ (A.2.1 = -1 ∧ B.2.1 = 0 ∧ ∃ (a b : Nat) (cs0 cs : List Int), ((a = 28 ∧ b = 31) ∨ (a = 31 ∧ b = 28)) ∧ A.2.2 0 7 = (a : Int) ∧ A.2.2 0 8 = (b : Int) ∧ cs0.length ≤ 40 ∧ fo_wf cs0 0 ∧ pr_cC a cs0 A.2.2 ∧ pr_cM cs0 B.2.2 ∧ cs.length ≤ 40 ∧ fo_wf cs 0 ∧ pr_cC b cs A.2.2 ∧ ((B.2.2 0 11 = 0 ∧ cs = [1000, 4, 2001]) ∨ (cs.length ≠ 0 ∧ ml_S cs B.2.2))))
theorem rr_other (hC : C < 2000000000) (h : pr_G C Mc Mm) : rr_p C (f_X2_readOtherRule Mc) (f_X3_readsRule Mm) := by
  have hG := h
  obtain ⟨⟨hN, hP, hK, hH, hX, hR⟩, hT⟩ := h
  obtain ⟨x1, x2, x3, x4⟩ := hX
  obtain ⟨a, cs0, ha, e7, e8, l0, w0, c0, m0⟩ := hR hC
  obtain ⟨n, en⟩ : ∃ n : Nat, Mm 0 4 = (n : Int) := ⟨(Mm 0 4).toNat, by omega⟩
  obtain ⟨b, hb⟩ : ∃ b : Nat, b = 59 - a := ⟨_, rfl⟩
  rw [← hb] at e8
  have hb' : b = 28 ∨ b = 31 := by omega
  have hq := rr_read (a := b) (n := n) (M := ax_up Mc 0 10 0) (Mm := Mm) hb' (fun i hi => by rw [ax_up_ne (by decide)]; exact (x4 i (by omega)).1) (fun i hi => (x4 i (by omega)).2) en
  have eA : f_X2_readOtherRule Mc = ax_rc (f_X1_read (b : Int) 80 34 (n : Int) (ax_up Mc 0 10 0)) (fun y5 => (True, (y5.1, y5.2))) := by
    unfold f_X2_readOtherRule
    simp only [ax_bd]
    rw [show ax_up Mc 0 10 0 0 8 = (b : Int) by rw [fo_up_at, fo_u_o (by decide), e8], x1, en]
  rw [eA]
  generalize f_X1_read (b : Int) 80 34 (n : Int) (ax_up Mc 0 10 0) = A at hq ⊢
  generalize f_X3_readsRule Mm = B at hq ⊢
  obtain ⟨q1, q2, q3, q4, q5⟩ := hq
  revert q5
  unfold ax_rc
  dsimp only
  have f0 : ∀ f, f ≠ 10 → A.2.2 0 f = Mc 0 f := fun f hf => by rw [q3.1 0 (by omega) (by omega) (by omega), fo_up_at, fo_u_o hf]
  have ft : ∀ t, t ≠ 0 → t ≠ b → t ≠ b + 1 → t ≠ b + 2 → A.2.2 t = Mc t := fun t t0 t1 t2 t3 => by rw [q3.1 t t1 t2 t3, ax_up_ne t0]
  have f10 : A.2.2 0 10 = 0 := by rw [q3.1 0 (by omega) (by omega) (by omega), fo_up_at, fo_u_s]
  have k7 : A.2.2 0 7 = (a : Int) := by rw [f0 7 (by decide), e7]
  have k8 : A.2.2 0 8 = (b : Int) := by rw [f0 8 (by decide), e8]
  have kC : pr_cC a cs0 A.2.2 := rr_cC_cg (by rw [ft a (by omega) (by omega) (by omega) (by omega)]) (ft (a + 1) (by omega) (by omega) (by omega) (by omega)) c0
  have kM : pr_cM cs0 B.2.2 := rr_cM_cg (q4.2.2 10 (by decide) (by decide) (by decide) (by decide) (by decide)) (q4.1 3 (by decide) (by decide)) m0
  have g : pr_G C A.2.2 B.2.2 := rr_G (Int.le_refl _) hb' hG ft (fun f f7 f8 f10 => f0 f f10) (fun t t0 t3 t4 _ => q4.1 t t0 t4) (fun f _ f4 f5 f6 f7 _ f11 => q4.2.2 f f4 f5 f6 f7 f11) (rr_X0 f10 q4.2.1) (fun _ => ⟨a, cs0, ha, k7, by rw [k8, hb], l0, w0, kC, kM⟩)
  intro q5
  refine ⟨⟨q1, trivial⟩, q2, g, f10, q4.2.1, ?_⟩
  rcases q5 with q5 | ⟨c1, c2, cs, c3, c4, c5, c6⟩
  · exact Or.inl q5
  · exact Or.inr ⟨c1, c2, a, b, cs0, cs, by omega, k7, k8, l0, w0, kC, kM, c3, c4, rr_cC c5, c6⟩
theorem pq_rule (hC : C < 2000000000) (h : pr_G C Mc Mm) : pq C (f_X2_rule Mc) (f_X3_rule Mm) := by
  have hp := rr_other hC (h.th (x := 0))
  unfold f_X2_rule f_X3_rule
  simp only [ax_bd]
  generalize f_X2_readOtherRule Mc = A at hp ⊢
  generalize f_X3_readsRule (ax_up Mm 0 0 0) = B at hp ⊢
  obtain ⟨p1, p2, g, f10, f4, p5⟩ := hp
  unfold pq ax_rc
  dsimp only
  rcases p5 with ⟨l, l1, l2, l3⟩ | ⟨c1, c2, a, b, cs0, cs, hab, k7, k8, l0, w0, kC, kM, l1, w1, kC1, kM1⟩
  · rw [if_neg (show ¬ A.2.1 = -1 by omega), if_pos (show B.2.1 ≠ 0 by omega)]
    exact ⟨⟨p1, trivial⟩, ⟨p2, trivial⟩, by dsimp only; omega, g⟩
  · rw [if_pos c1, if_neg (show ¬ B.2.1 ≠ 0 by omega)]
    obtain ⟨z1, z2, z3⟩ := rr_cM l1 kM1
    refine ⟨⟨p1, trivial⟩, ⟨p2, trivial⟩, c2.symm, ?_⟩
    rw [k7, k8]
    have n7 : ax_up (ax_up A.2.2 0 7 (b : Int)) 0 8 (a : Int) 0 7 = (b : Int) := by rw [fo_up_at, fo_u_o (by decide), fo_up_at, fo_u_s]
    have n8 : ax_up (ax_up A.2.2 0 7 (b : Int)) 0 8 (a : Int) 0 8 = (a : Int) := by rw [fo_up_at, fo_u_s]
    have n10 : ax_up (ax_up A.2.2 0 7 (b : Int)) 0 8 (a : Int) 0 10 = 0 := by rw [fo_up_at, fo_u_o (by decide), fo_up_at, fo_u_o (by decide), f10]
    have nt : ∀ t, t ≠ 0 → ax_up (ax_up A.2.2 0 7 (b : Int)) 0 8 (a : Int) t = A.2.2 t := fun t ht => by rw [ax_up_ne ht, ax_up_ne ht]
    show pr_G C (ax_up (ax_up A.2.2 0 7 (b : Int)) 0 8 (a : Int)) (f_X3_laysCode 4 (B.2.2 0 11) B.2.2)
    exact rr_G (Int.le_refl _) (b := 28) (Or.inl rfl) g (fun t t0 _ _ _ => nt t t0) (fun f f7 f8 _ => by rw [fo_up_at, fo_u_o f8, fo_up_at, fo_u_o f7]) (fun t t0 t3 _ _ => z2 t t0 t3) (fun f _ _ _ _ _ f10 _ => z3 f f10) (rr_X0 n10 (by rw [z3 4 (by decide), f4])) (fun _ => ⟨b, cs, by omega, n7, by rw [n8]; omega, l1, w1, rr_cC_cg (by rw [nt b (by omega)]) (nt (b + 1) (by omega)) kC1, z1⟩)
/-! the law -/
theorem lw_L {w1 w3 w4 w5 : Int} {n : Nat} (hn : n ≤ 80) {kx : ax_M → Prop × Int × ax_M} {A : Prop × Int × ax_M} : ∀ (f i : Nat) (M : ax_M), M 0 10 = (n : Int) → n < f + i → i ≤ n → (∀ M' : ax_M, (∀ t, t ≠ 19 → M' t = M t) → (∀ j, i ≤ j → j < n → M' 19 j = M 3 j) → (∀ j, j < i → M' 19 j = M 19 j) → pq C A (kx M')) → pq C A (f_X3_law_L61 w1 w3 w4 w5 f (i : Int) M kx) := by
  intro f
  induction f with
  | zero =>
    intro i M h10 hf hin hk
    omega
  | succ f ih =>
    intro i M h10 hf hin hk
    rw [f_X3_law_L61]
    unfold f_X3_law_B61
    simp only [ax_bd_e]
    rw [h10, fo_t0]
    by_cases h : n ≤ i
    · rw [if_pos (by omega)]
      exact hk M (fun _ _ => rfl) (fun j h1 h2 => by omega) (fun _ _ => rfl)
    · rw [if_neg (by omega), show (i : Int) + 1 = ((i + 1 : Nat) : Int) by omega]
      refine pq_rq (by omega) (pq_rq (by omega) ?_)
      refine ih (i + 1) (ax_up M 19 i (M 3 i)) (by rw [ax_up_ne (by decide), h10]) (by omega) (by omega) (fun M' h1 h2 h3 => hk M' (fun t ht => by rw [h1 t ht, ax_up_ne ht]) (fun j j1 j2 => ?_) (fun j hj => by rw [h3 j (by omega), fo_up_at, fo_u_o (by omega)]))
      by_cases e : j = i
      · subst e
        rw [h3 j (by omega), fo_up_at, fo_u_s]
      · rw [h2 j (by omega) j2, ax_up_ne (by decide)]
theorem rr_cA {a : Nat} (ha : a = 28 ∨ a = 31) (h : dr_C a X V) : cA X V := by
  refine ⟨fun f hf => h.2.2.1 f (by omega), fun s hs => h.1 s (by omega) (by omega) (by omega) (by omega) (by omega), fun f hf => ?_⟩
  rcases ha with e | e
  · subst e
    exact ⟨h.2.1 f hf, by rw [h.1 31 (by omega) (by omega) (by omega) (by omega) (by omega)]⟩
  · subst e
    exact ⟨by rw [h.1 28 (by omega) (by omega) (by omega) (by omega) (by omega)], h.2.1 f hf⟩
theorem rr_cP {a : Nat} (ha : a = 28 ∨ a = 31) (h : dr_C a X V) : cP X V := ⟨h.2.2.1 3 (by decide), h.2.2.1 4 (by decide), fun i _ => by rw [h.1 25 (by omega) (by omega) (by omega) (by omega) (by omega)]⟩
theorem rr_cQ {a : Nat} (ha : a = 28 ∨ a = 31) (h : dr_C a X V) : cQ X V :=
  ⟨rr_cA ha h, rr_cP ha h, fun k k1 k2 => h.1 k (by omega) (by omega) (by omega) (by omega) (by omega), cS.e (h.1 1 (by omega) (by omega) (by omega) (by omega) (by omega)), h.2.2.2⟩
theorem cA.symm (h : cA X V) : cA V X := by
  obtain ⟨a1, a2, a3⟩ := h
  exact ⟨fun f hf => (a1 f hf).symm, fun s hs => (a2 s hs).symm, fun f hf => ⟨((a3 f hf).1).symm, ((a3 f hf).2).symm⟩⟩
theorem cP.symm (h : cP X V) : cP V X := by
  obtain ⟨p1, p2, p3⟩ := h
  exact ⟨p1.symm, p2.symm, fun i hi => (p3 i (by rw [p1, p2] at hi; exact hi)).symm⟩
/-- the class's memory may change as a run of days changes it -/
theorem rr_B {a : Nat} (ha : a = 28 ∨ a = 31) (h1 : pr_B C r X Y) (h : dr_C a X V) : pr_B C r V Y :=
  pr_B_q (rr_cQ ha h) mQ.rf (h.1 25 (by omega) (by omega) (by omega) (by omega) (by omega)) (h.2.2.1 12 (by decide)) (h.1 35 (by omega) (by omega) (by omega) (by omega) (by omega)) rfl rfl h1
theorem rr_B' {a : Nat} {W : ax_M} (ha : a = 28 ∨ a = 31) (h1 : pr_B C r V Y) (h2 : pr_G C X W) (h : dr_C a X V) : pr_B C r X Y :=
  pr_B_g (Int.le_refl _) (rr_cA ha h).symm (rr_cP ha h).symm (fun k k1 k2 => (h.1 k (by omega) (by omega) (by omega) (by omega) (by omega)).symm) h2.1.1.2.2.1 h2.1.1.2.2.2.1 mQ.rf (h.1 25 (by omega) (by omega) (by omega) (by omega) (by omega)).symm (h.2.2.1 12 (by decide)).symm (h.1 35 (by omega) (by omega) (by omega) (by omega) (by omega)).symm rfl rfl h1
/-- two of the model's memories that the class's stands for -/
theorem rr_mix (h : pr_G C X Y) (g : pr_G D X Z) (hR : C < 2000000000 → pr_R X Z) : pr_G C X Z := by
  obtain ⟨⟨hN, hP, hK, _, _, _⟩, _⟩ := h
  obtain ⟨⟨gN, gP, gK, gH, gX, _⟩, gT⟩ := g
  refine ⟨⟨⟨gN.1, by rw [← gN.1, hN.1]; exact hN.2.1, hN.2.2.1, hN.2.2.2.1, gN.2.2.2.2⟩, ⟨gP.1, gP.2.1, gP.2.2.1, gP.2.2.2.1, gP.2.2.2.2.1, fun i hi => ?_⟩, fun i hi => ?_, gH, gX, hR⟩, gT⟩
  · obtain ⟨q1, _⟩ := gP.2.2.2.2.2 i hi
    have h2 : (i : Int) < Y 0 24 := by rw [← hP.1, gP.1]; exact hi
    obtain ⟨q3, q4⟩ := hP.2.2.2.2.2 i h2
    exact ⟨q1, by rw [← q1, q3]; exact q4⟩
  · obtain ⟨q1, q2⟩ := gK i hi
    obtain ⟨q3, q4⟩ := hK i hi
    refine ⟨q1, fun hk => ⟨(q2 hk).1, ?_⟩⟩
    have hk' : Y 20 i ≠ 0 := by rw [← q3, q1]; exact hk
    rw [← (q2 hk).1, (q4 hk').1]
    exact (q4 hk').2
end RUL
