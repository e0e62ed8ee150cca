/-! ===== again; the text; what was heard; side by side ===== -/
section PRF
variable {C D : Int} {Mc Mm Nc Nm X Y Z W M : ax_M} {r q q' : fo_R}
theorem pq_again {x : Int} (h : pr_G C Mc Mm) : pq C (True, f_X2_again x Mc) (True, f_X3_again x Mm) := by
  unfold f_X2_again f_X3_again
  simp only [ax_bd_e]
  rcases fx_keep x with ⟨k, hk, e, h1⟩ | ⟨h0, h1⟩
  · subst e
    obtain ⟨q1, q2⟩ := h.1.2.2.1 k hk
    rw [h1, if_neg (by omega), if_neg (by omega), if_neg (show ¬ ((1 : Int) = 0) by decide), fo_t0, q1, show ax_up Mm 0 0 0 20 k = Mm 20 k by rw [ax_up_ne (by decide)]]
    by_cases h20 : Mm 20 k ≠ 0
    · obtain ⟨q3, q4⟩ := q2 h20
      rw [if_pos h20, if_pos h20, show (k : Int) * 274 = ((k * 274 : Nat) : Int) by omega]
      obtain ⟨l1, l2⟩ := fc_load (b := 1) (s := 26) (n := 548) (o := k * 274) (M := Mc) (Or.inr (by omega)) (by omega)
      obtain ⟨N, u2, u3, u4⟩ := fm_againL (w := k) (kx := fun M6 => (1, ax_up M6 0 24 0)) 274 0 (ax_up Mm 0 0 0) rfl
      rw [u2]
      generalize f_X0_load 1 548 26 ((k * 274 : Nat) : Int) Mc = O at l1 l2 ⊢
      have n7 : N 7 = fo_mw Mm 21 (274 * k) := by
        funext j
        rw [u4 j, ax_up_ne (by decide), ax_up_ne (by decide)]
        unfold fo_mw
        by_cases hj : j < 274
        · rw [if_pos ⟨by omega, hj⟩, if_pos hj]
        · rw [if_neg (fun h => hj h.2), if_neg hj]
          exact pr_7hi h.1.1 j (by omega)
      have ms : ∀ t, t ≠ 0 → t ≠ 7 → ax_up N 0 24 0 t = Mm t := fun t t1 t2 => by rw [ax_up_ne t1, u3 t t2, ax_up_ne t1]
      have m0 : ∀ f, f ≠ 0 → f ≠ 24 → ax_up N 0 24 0 0 f = Mm 0 f := fun f f1 f2 => by rw [fo_up_at, fo_u_o f2, u3 0 (by decide), fo_up_at, fo_u_o f1]
      have m7 : ax_up N 0 24 0 7 = fo_mw Mm 21 (274 * k) := by rw [ax_up_ne (by decide), n7]
      have m24 : ax_up N 0 24 0 0 24 = 0 := by rw [fo_up_at, fo_u_s]
      have cs : ∀ t, t ≠ 0 → (t ≤ 1 ∨ 10 < t) → ax_up O 0 4 0 t = Mc t := fun t t1 t2 => by rw [ax_up_ne t1, l1 t (by omega)]
      have c0 : ∀ f, f ≠ 4 → ax_up O 0 4 0 0 f = Mc 0 f := fun f hf => by rw [fo_up_at, fo_u_o hf, l1 0 (by omega)]
      have c4 : ax_up O 0 4 0 0 4 = 0 := by rw [fo_up_at, fo_u_s]
      have ccr : fo_cr 1 (ax_up O 0 4 0) = fo_mw Mm 21 (274 * k) := by rw [fo_cr_o (by omega), l2, q3]
      generalize ax_up N 0 24 0 = N' at ms m0 m7 m24 ⊢
      generalize ax_up O 0 4 0 = O' at cs c0 c4 ccr ⊢
      have hN := h.1.1
      have hP := h.1.2.1
      refine pq_i rfl ?_
      exact ⟨pr_U_mk (Int.le_refl _) ⟨fun f hf => c0 f (by omega), fun s hs => cs s (by omega) (by omega), fun f _ => ⟨by rw [cs 28 (by omega) (by omega)], by rw [cs 31 (by omega) (by omega)]⟩⟩ ⟨fun f hf => m0 f (by omega) (by omega), fun s hs => ms s (by omega) (by omega)⟩ h.1
        ⟨by rw [ccr, m7], by rw [m7]; exact q4, hN.2.2.1.e (cs 1 (by omega) (by omega)) (Int.le_refl _), hN.2.2.2.1.e (cs 13 (by omega) (by omega)) (Int.le_refl _), fun j hj => by rw [ms 8 (by decide) (by decide)]; exact hN.2.2.2.2 j hj⟩
        ⟨by rw [c4, m24], by rw [c0 3 (by decide)]; exact hP.2.1, by rw [c0 3 (by decide)]; exact hP.2.2.1, by rw [m24]; decide, by rw [m24]; decide, fun i hi => by rw [m24] at hi; omega⟩,
        pr_T_cg (c0 12 (by decide)) (cs 35 (by omega) (by omega)) (m0 1 (by decide) (by decide)) (ms 1 (by decide) (by decide)) h.2⟩
    · rw [if_neg h20, if_neg h20]
      exact ⟨trivial, trivial, rfl, h.th⟩
  · have hc : ∀ A : Int × ax_M, (if x < 0 then ((0 : Int), Mc) else if 2 ≤ x then (0, Mc) else A) = (0, Mc) := fun A => by
      by_cases hx : x < 0
      · rw [if_pos hx]
      · rw [if_neg hx, if_pos (by omega)]
    rw [hc, h1, if_pos rfl]
    exact ⟨trivial, trivial, rfl, h.th⟩
theorem pq_denies (h : pr_G C Mc Mm) : pq C (True, f_X2_denies Mc) (True, f_X3_denies Mm) := by
  obtain ⟨⟨hN, hP, hK, hH, hX, hR⟩, hT⟩ := h
  unfold f_X2_denies f_X3_denies
  simp only [ax_bd_e]
  have ms : ∀ t, t ≠ 0 → ax_up (ax_up Mm 0 0 0) 0 32 0 t = Mm t := fun t t1 => by rw [ax_up_ne t1, ax_up_ne t1]
  have m0 : ∀ f, f ≠ 0 → f ≠ 32 → ax_up (ax_up Mm 0 0 0) 0 32 0 0 f = Mm 0 f := fun f f1 f2 => by rw [fo_up_at, fo_u_o f2, fo_up_at, fo_u_o f1]
  have m32 : ax_up (ax_up Mm 0 0 0) 0 32 0 0 32 = 0 := by rw [fo_up_at, fo_u_s]
  have cs : ∀ t, t ≠ 0 → ax_up Mc 0 15 0 t = Mc t := fun t t1 => ax_up_ne t1
  have c0 : ∀ f, f ≠ 15 → ax_up Mc 0 15 0 0 f = Mc 0 f := fun f f1 => by rw [fo_up_at, fo_u_o f1]
  have c15 : ax_up Mc 0 15 0 0 15 = 0 := by rw [fo_up_at, fo_u_s]
  have ea : Mc 0 15 = ax_up Mm 0 0 0 0 32 := by rw [fo_up_at, fo_u_o (by decide)]; exact hH.1
  refine pq_i ea ?_
  generalize ax_up (ax_up Mm 0 0 0) 0 32 0 = N at ms m0 m32 ⊢
  generalize ax_up Mc 0 15 0 = O at cs c0 c15 ⊢
  exact ⟨⟨pr_N_cg (Int.le_refl _) ⟨fun k _ _ => cs k (by omega), cS.e (cs 1 (by decide)), cS.e (cs 13 (by decide))⟩ ⟨ms 7 (by decide), fun j _ => by rw [ms 8 (by decide)]⟩ hN,
      pr_P_cg (Int.le_refl _) ⟨c0 3 (by decide), c0 4 (by decide), fun i _ => by rw [cs 25 (by decide)]⟩ ⟨m0 24 (by decide) (by decide), fun i _ => by rw [ms 13 (by decide)]⟩ hP,
      pr_K_cg (Int.le_refl _) (cs 27 (by decide)) (cs 26 (by decide)) (ms 20 (by decide)) (ms 21 (by decide)) hK,
      ⟨by rw [c15, m32], by rw [m32]; decide, by rw [m32]; decide, fun i hi => by rw [m32] at hi; omega⟩,
      pr_X_cg (c0 10 (by decide)) (cs 34 (by decide)) (m0 4 (by decide) (by decide)) (ms 2 (by decide)) hX,
      pr_R_cg2 (c0 7 (by decide)) (c0 8 (by decide)) (fun f _ => ⟨by rw [cs 28 (by decide)], by rw [cs 31 (by decide)]⟩) (cs 29 (by decide)) (cs 32 (by decide)) (m0 10 (by decide) (by decide)) (ms 3 (by decide)) hR⟩,
      pr_T_cg (c0 12 (by decide)) (cs 35 (by decide)) (m0 1 (by decide) (by decide)) (ms 1 (by decide)) hT⟩
theorem pq_end {x : Int} (h : pr_G C Mc Mm) : pq C (True, f_X2_end x Mc) (True, f_X3_end x Mm) := by
  have hG := h.th (x := 0)
  obtain ⟨⟨hN, hP, hK, hH, hX, hR⟩, hT⟩ := h
  obtain ⟨x1, x2, x3, x4⟩ := hX
  unfold f_X2_end f_X3_end
  simp only [ax_bd_e]
  have e4 : ax_up Mm 0 0 0 0 4 = Mm 0 4 := by rw [fo_up_at, fo_u_o (by decide)]
  rw [fm_inE, e4]
  by_cases hx : 0 ≤ x ∧ x ≤ Mm 0 4
  · rw [if_neg (by omega), if_pos (by omega), if_pos hx, if_pos (show (1 : Int) ≠ 0 by decide)]
    have ms : ∀ t, t ≠ 0 → ax_up (ax_up Mm 0 0 0) 0 4 x t = Mm t := fun t t1 => by rw [ax_up_ne t1, ax_up_ne t1]
    have m0 : ∀ f, f ≠ 0 → f ≠ 4 → ax_up (ax_up Mm 0 0 0) 0 4 x 0 f = Mm 0 f := fun f f1 f2 => by rw [fo_up_at, fo_u_o f2, fo_up_at, fo_u_o f1]
    have m4 : ax_up (ax_up Mm 0 0 0) 0 4 x 0 4 = x := by rw [fo_up_at, fo_u_s]
    have cs : ∀ t, t ≠ 0 → ax_up Mc 0 10 x t = Mc t := fun t t1 => ax_up_ne t1
    have c0 : ∀ f, f ≠ 10 → ax_up Mc 0 10 x 0 f = Mc 0 f := fun f f1 => by rw [fo_up_at, fo_u_o f1]
    have c10 : ax_up Mc 0 10 x 0 10 = x := by rw [fo_up_at, fo_u_s]
    refine pq_i rfl ?_
    generalize ax_up (ax_up Mm 0 0 0) 0 4 x = N at ms m0 m4 ⊢
    generalize ax_up Mc 0 10 x = O at cs c0 c10 ⊢
    exact ⟨⟨pr_N_cg (Int.le_refl _) ⟨fun k _ _ => cs k (by omega), cS.e (cs 1 (by decide)), cS.e (cs 13 (by decide))⟩ ⟨ms 7 (by decide), fun j _ => by rw [ms 8 (by decide)]⟩ hN,
      pr_P_cg (Int.le_refl _) ⟨c0 3 (by decide), c0 4 (by decide), fun i _ => by rw [cs 25 (by decide)]⟩ ⟨m0 24 (by decide) (by decide), fun i _ => by rw [ms 13 (by decide)]⟩ hP,
      pr_K_cg (Int.le_refl _) (cs 27 (by decide)) (cs 26 (by decide)) (ms 20 (by decide)) (ms 21 (by decide)) hK,
      pr_H_cg (c0 15 (by decide)) (cs 36 (by decide)) (cs 37 (by decide)) (m0 32 (by decide) (by decide)) (ms 17 (by decide)) (ms 18 (by decide)) hH,
      ⟨by rw [c10, m4], by rw [m4]; exact hx.1, by rw [m4]; omega, fun i hi => by rw [m4] at hi; rw [cs 34 (by decide), ms 2 (by decide)]; exact x4 i (by omega)⟩,
      pr_R_cg2 (c0 7 (by decide)) (c0 8 (by decide)) (fun f _ => ⟨by rw [cs 28 (by decide)], by rw [cs 31 (by decide)]⟩) (cs 29 (by decide)) (cs 32 (by decide)) (m0 10 (by decide) (by decide)) (ms 3 (by decide)) hR⟩,
      pr_T_cg (c0 12 (by decide)) (cs 35 (by decide)) (m0 1 (by decide) (by decide)) (ms 1 (by decide)) hT⟩
  · have hc : (if x < 0 then ((0 : Int), Mc) else if x ≤ Mc 0 10 then (1, ax_up Mc 0 10 x) else (0, Mc)) = (0, Mc) := by
      by_cases h0 : x < 0
      · rw [if_pos h0]
      · rw [if_neg h0, if_neg (by omega)]
    rw [hc, if_neg hx, if_neg (fun h => h rfl)]
    exact ⟨trivial, trivial, rfl, hG⟩
theorem pq_heard {x v : Int} (h : pr_G C Mc Mm) : pq C (True, f_X2_heard x v Mc) (True, f_X3_heard x v Mm) := by
  have hG := h.th (x := 0)
  obtain ⟨⟨hN, hP, hK, hH, hX, hR⟩, hT⟩ := h
  obtain ⟨x1, x2, x3, x4⟩ := hH
  unfold f_X2_heard f_X3_heard
  simp only [ax_bd_e]
  have e32 : ax_up Mm 0 0 0 0 32 = Mm 0 32 := by rw [fo_up_at, fo_u_o (by decide)]
  have hhi : 0 ≤ x ∧ x ≤ 3 → (ax_cs.getD 2 ("", [])).2.getD x.toNat 0 = f_X3_highest x (ax_up Mm 0 0 0) ∧ f_X3_highest x (ax_up Mm 0 0 0) ≤ 9 ∧ (x = 3 → f_X3_highest x (ax_up Mm 0 0 0) = 5) := fun hx => by
    rcases (by omega : x = 0 ∨ x = 1 ∨ x = 2 ∨ x = 3) with e | e | e | e <;> subst e
    · exact ⟨rfl, show (4 : Int) ≤ 9 by decide, fun h => absurd h (by decide)⟩
    · exact ⟨rfl, show (9 : Int) ≤ 9 by decide, fun h => absurd h (by decide)⟩
    · exact ⟨rfl, show (4 : Int) ≤ 9 by decide, fun h => absurd h (by decide)⟩
    · exact ⟨rfl, show (5 : Int) ≤ 9 by decide, fun _ => rfl⟩
  rw [fm_inE, fm_inE, e32]
  by_cases hok : (0 ≤ x ∧ x ≤ 3) ∧ (0 ≤ v ∧ v ≤ f_X3_highest x (ax_up Mm 0 0 0)) ∧ Mm 0 32 ≠ 12
  · obtain ⟨k1, k2, k3⟩ := hok
    obtain ⟨e1, e2, e3⟩ := hhi k1
    rw [e1, if_neg (show ¬ (x < 0) by omega), if_neg (show ¬ (4 ≤ x) by omega), if_neg (show ¬ (v < 0) by omega), if_neg (Int.not_lt.mpr k2.2), if_pos (show Mc 0 15 < 12 by omega), if_pos k1, if_neg (show ¬ ((1 : Int) = 0) by decide), if_pos k2, if_neg (show ¬ ((1 : Int) = 0) by decide), if_pos k3]
    obtain ⟨n, en⟩ : ∃ n : Nat, Mm 0 32 = (n : Int) := ⟨(Mm 0 32).toNat, by omega⟩
    have c15 : Mc 0 15 = (n : Int) := by rw [x1, en]
    have a1 : ax_up Mc 36 (Mc 0 15).toNat x 0 15 = (n : Int) := by rw [ax_up_ne (by decide), c15]
    have a2 : ax_up (ax_up Mc 36 n x) 37 n v 0 15 = (n : Int) := by rw [ax_up_ne (by decide), ax_up_ne (by decide), c15]
    have b1 : ax_up (ax_up Mm 0 0 0) 17 n x 0 32 = (n : Int) := by rw [ax_up_ne (by decide), e32, en]
    have b2 : ax_up (ax_up (ax_up Mm 0 0 0) 17 n x) 18 n v 0 32 = (n : Int) := by rw [ax_up_ne (by decide), ax_up_ne (by decide), e32, en]
    rw [a1, c15, en, fo_t0, a2, b1, fo_t0, b2]
    have cs : ∀ t, t ≠ 0 → t ≠ 36 → t ≠ 37 → ax_up (ax_up (ax_up Mc 36 n x) 37 n v) 0 15 ((n : Int) + 1) t = Mc t := fun t t1 t2 t3 => by rw [ax_up_ne t1, ax_up_ne t3, ax_up_ne t2]
    have c0 : ∀ f, f ≠ 15 → ax_up (ax_up (ax_up Mc 36 n x) 37 n v) 0 15 ((n : Int) + 1) 0 f = Mc 0 f := fun f f1 => by rw [fo_up_at, fo_u_o f1, ax_up_ne (by decide), ax_up_ne (by decide)]
    have c15' : ax_up (ax_up (ax_up Mc 36 n x) 37 n v) 0 15 ((n : Int) + 1) 0 15 = (n : Int) + 1 := by rw [fo_up_at, fo_u_s]
    have c36 : ∀ i, ax_up (ax_up (ax_up Mc 36 n x) 37 n v) 0 15 ((n : Int) + 1) 36 i = if i = n then x else Mc 36 i := fun i => by rw [ax_up_ne (by decide), ax_up_ne (by decide), fo_up_at, fo_u_eq]
    have c37 : ∀ i, ax_up (ax_up (ax_up Mc 36 n x) 37 n v) 0 15 ((n : Int) + 1) 37 i = if i = n then v else Mc 37 i := fun i => by rw [ax_up_ne (by decide), fo_up_at, fo_u_eq, ax_up_ne (by decide)]
    have ms : ∀ t, t ≠ 0 → t ≠ 17 → t ≠ 18 → ax_up (ax_up (ax_up (ax_up Mm 0 0 0) 17 n x) 18 n v) 0 32 ((n : Int) + 1) t = Mm t := fun t t1 t2 t3 => by rw [ax_up_ne t1, ax_up_ne t3, ax_up_ne t2, ax_up_ne t1]
    have m0 : ∀ f, f ≠ 0 → f ≠ 32 → ax_up (ax_up (ax_up (ax_up Mm 0 0 0) 17 n x) 18 n v) 0 32 ((n : Int) + 1) 0 f = Mm 0 f := fun f f1 f2 => by rw [fo_up_at, fo_u_o f2, ax_up_ne (by decide), ax_up_ne (by decide), fo_up_at, fo_u_o f1]
    have m32 : ax_up (ax_up (ax_up (ax_up Mm 0 0 0) 17 n x) 18 n v) 0 32 ((n : Int) + 1) 0 32 = (n : Int) + 1 := by rw [fo_up_at, fo_u_s]
    have m17 : ∀ i, ax_up (ax_up (ax_up (ax_up Mm 0 0 0) 17 n x) 18 n v) 0 32 ((n : Int) + 1) 17 i = if i = n then x else Mm 17 i := fun i => by rw [ax_up_ne (by decide), ax_up_ne (by decide), fo_up_at, fo_u_eq, ax_up_ne (by decide)]
    have m18 : ∀ i, ax_up (ax_up (ax_up (ax_up Mm 0 0 0) 17 n x) 18 n v) 0 32 ((n : Int) + 1) 18 i = if i = n then v else Mm 18 i := fun i => by rw [ax_up_ne (by decide), fo_up_at, fo_u_eq, ax_up_ne (by decide), ax_up_ne (by decide)]
    generalize ax_up (ax_up (ax_up (ax_up Mm 0 0 0) 17 n x) 18 n v) 0 32 ((n : Int) + 1) = N at ms m0 m32 m17 m18 ⊢
    generalize ax_up (ax_up (ax_up Mc 36 n x) 37 n v) 0 15 ((n : Int) + 1) = O at cs c0 c15' c36 c37 ⊢
    refine pq_i (by rw [c15', m32]) ?_
    refine ⟨⟨pr_N_cg (Int.le_refl _) ⟨fun k _ _ => cs k (by omega) (by omega) (by omega), cS.e (cs 1 (by decide) (by decide) (by decide)), cS.e (cs 13 (by decide) (by decide) (by decide))⟩ ⟨ms 7 (by decide) (by decide) (by decide), fun j _ => by rw [ms 8 (by decide) (by decide) (by decide)]⟩ hN,
      pr_P_cg (Int.le_refl _) ⟨c0 3 (by decide), c0 4 (by decide), fun i _ => by rw [cs 25 (by decide) (by decide) (by decide)]⟩ ⟨m0 24 (by decide) (by decide), fun i _ => by rw [ms 13 (by decide) (by decide) (by decide)]⟩ hP,
      pr_K_cg (Int.le_refl _) (cs 27 (by decide) (by decide) (by decide)) (cs 26 (by decide) (by decide) (by decide)) (ms 20 (by decide) (by decide) (by decide)) (ms 21 (by decide) (by decide) (by decide)) hK,
      ⟨by rw [c15', m32], by rw [m32]; omega, by rw [m32]; omega, fun i hi => ?_⟩,
      pr_X_cg (c0 10 (by decide)) (cs 34 (by decide) (by decide) (by decide)) (m0 4 (by decide) (by decide)) (ms 2 (by decide) (by decide) (by decide)) hX,
      pr_R_cg2 (c0 7 (by decide)) (c0 8 (by decide)) (fun f _ => ⟨by rw [cs 28 (by decide) (by decide) (by decide)], by rw [cs 31 (by decide) (by decide) (by decide)]⟩) (cs 29 (by decide) (by decide) (by decide)) (cs 32 (by decide) (by decide) (by decide)) (m0 10 (by decide) (by decide)) (ms 3 (by decide) (by decide) (by decide)) hR⟩,
      pr_T_cg (c0 12 (by decide)) (cs 35 (by decide) (by decide) (by decide)) (m0 1 (by decide) (by decide)) (ms 1 (by decide) (by decide) (by decide)) hT⟩
    rw [m32] at hi
    rw [c36, c37, m17, m18]
    by_cases e : i = n
    · rw [if_pos e, if_pos e, if_pos e, if_pos e]
      exact ⟨rfl, rfl, k1.1, k1.2, k2.1, by omega, fun e => by have := e3 e; omega⟩
    · rw [if_neg e, if_neg e, if_neg e, if_neg e]
      exact x4 i (by omega)
  · have hc : ∀ A : Int × ax_M, (if x < 0 then ((-1 : Int), Mc) else if 4 ≤ x then (-1, Mc) else if v < 0 then (-1, Mc) else if (ax_cs.getD 2 ("", [])).2.getD x.toNat 0 < v then (-1, Mc) else if Mc 0 15 < 12 then A else (-1, Mc)) = (-1, Mc) := fun A => by
      by_cases h0 : x < 0
      · rw [if_pos h0]
      rw [if_neg h0]
      by_cases h1 : 4 ≤ x
      · rw [if_pos h1]
      rw [if_neg h1]
      by_cases h2 : v < 0
      · rw [if_pos h2]
      rw [if_neg h2, (hhi ⟨by omega, by omega⟩).1]
      by_cases h3 : f_X3_highest x (ax_up Mm 0 0 0) < v
      · rw [if_pos h3]
      rw [if_neg h3]
      by_cases h4 : Mc 0 15 < 12
      · exact absurd ⟨⟨by omega, by omega⟩, ⟨by omega, by omega⟩, by omega⟩ hok
      rw [if_neg h4]
    have hm : ∀ A : Int × ax_M, (if (if 0 ≤ x ∧ x ≤ 3 then (1 : Int) else 0) = 0 then ((-1 : Int), ax_up Mm 0 0 0) else if (if 0 ≤ v ∧ v ≤ f_X3_highest x (ax_up Mm 0 0 0) then (1 : Int) else 0) = 0 then (-1, ax_up Mm 0 0 0) else if Mm 0 32 ≠ 12 then A else (-1, ax_up Mm 0 0 0)) = (-1, ax_up Mm 0 0 0) := fun A => by
      by_cases h1 : 0 ≤ x ∧ x ≤ 3
      · rw [if_pos h1, if_neg (show ¬ ((1 : Int) = 0) by decide)]
        by_cases h2 : 0 ≤ v ∧ v ≤ f_X3_highest x (ax_up Mm 0 0 0)
        · rw [if_pos h2, if_neg (show ¬ ((1 : Int) = 0) by decide)]
          by_cases h3 : Mm 0 32 ≠ 12
          · exact absurd ⟨h1, h2, h3⟩ hok
          · rw [if_neg h3]
        · rw [if_neg h2, if_pos rfl]
      · rw [if_neg h1, if_pos rfl]
    rw [hc, hm]
    exact ⟨trivial, trivial, rfl, hG⟩
end PRF
