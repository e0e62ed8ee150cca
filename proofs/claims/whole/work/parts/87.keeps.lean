/-! ===== undo, keep, again; the text; what was heard; side by side ===== -/
section PRF
variable {C D : Int} {Mc Mm Nc Nm X Y Z W M : ax_M} {r q q' : fo_R}
theorem ax_bd_e {α β : Type} (a : α) (k : α → β) : ax_bd a k = k a := Eq.trans (Eq.refl _) (Eq.refl _)
theorem pq_i {a b : Int} (e : a = b) (h : pr_G C X Y) : pq C (True, a, X) (True, b, Y) := ⟨trivial, trivial, e, h⟩
theorem pq_undo (h : pr_G C Mc Mm) : pq C (True, f_X2_undo Mc) (f_X3_undo Mm) := by
  obtain ⟨u, hu, eu⟩ := h.1.2.1.u
  have hP := h.1.2.1
  obtain ⟨h1, h2, h3, _, _, h6⟩ := hP
  rw [eu] at h1 h6
  unfold f_X2_undo f_X3_undo
  simp only [ax_bd]
  have e24 : ax_up Mm 0 0 0 0 24 = (u : Int) := by rw [fo_up_at, fo_u_o (by decide), eu]
  rw [h1, e24]
  by_cases h0 : u = 0
  · subst h0
    rw [if_neg (fun h => h rfl), if_neg (fun h => h rfl)]
    exact ⟨trivial, trivial, rfl, h.th⟩
  · obtain ⟨w, rfl⟩ : ∃ w, u = w + 1 := ⟨u - 1, by omega⟩
    rw [if_pos (show ((w + 1 : Nat) : Int) ≠ 0 by omega), if_pos (show ((w + 1 : Nat) : Int) ≠ 0 by omega), show ((w + 1 : Nat) : Int) - 1 = (w : Int) by omega]
    have k4 : ax_up Mc 0 4 (w : Int) 0 4 = (w : Int) := by rw [fo_up_at, fo_u_s]
    have k3 : ax_up Mc 0 4 (w : Int) 0 3 = Mc 0 3 := by rw [fo_up_at, fo_u_o (by decide)]
    have ks : ∀ t, t ≠ 0 → ax_up Mc 0 4 (w : Int) t = Mc t := fun t ht => ax_up_ne ht
    have k0 : ∀ f, f ≠ 4 → ax_up Mc 0 4 (w : Int) 0 f = Mc 0 f := fun f hf => by rw [fo_up_at, fo_u_o hf]
    have m24 : ax_up (ax_up Mm 0 0 0) 0 24 (w : Int) 0 24 = (w : Int) := by rw [fo_up_at, fo_u_s]
    have ms : ∀ t, t ≠ 0 → ax_up (ax_up Mm 0 0 0) 0 24 (w : Int) t = Mm t := fun t ht => by rw [ax_up_ne ht, ax_up_ne ht]
    have m0 : ∀ f, f ≠ 24 → f ≠ 0 → ax_up (ax_up Mm 0 0 0) 0 24 (w : Int) 0 f = Mm 0 f := fun f f1 f2 => by rw [fo_up_at, fo_u_o f1, fo_up_at, fo_u_o f2]
    generalize ax_up Mc 0 4 (w : Int) = M3 at k4 k3 ks k0 ⊢
    generalize ax_up (ax_up Mm 0 0 0) 0 24 (w : Int) = M4 at m24 ms m0 ⊢
    have esl : fo_sl M3 = ((Mc 0 3).toNat + w) % 9 * 274 := by unfold fo_sl; rw [k3, k4, fo_t0]
    have hps : f_X2_pastSlot M3 = ((fo_sl M3 : Nat) : Int) := by unfold f_X2_pastSlot; rw [esl, k3, k4]; omega
    rw [hps]
    obtain ⟨l1, l2⟩ := fc_load (b := 1) (s := 25) (n := 2466) (o := fo_sl M3) (M := M3) (Or.inr (by omega)) (by rw [esl]; omega)
    obtain ⟨u1, N, u2, u3, u4⟩ := fm_undoL (u := w) (by omega) (kx := fun M10 => (M10 0 24, M10)) 274 0 M4 rfl m24
    generalize f_X0_load 1 2466 25 ((fo_sl M3 : Nat) : Int) M3 = O at l1 l2 ⊢
    obtain ⟨g1, g2⟩ := h6 w (by omega)
    have hcr : fo_cr 1 O = fo_mw Mm 13 (274 * w) := by
      rw [l2, esl, ← g1]
      exact fo_vw_cg (fun i _ _ => by rw [ks 25 (by decide)])
    have h7 : N 7 = fo_mw Mm 13 (274 * w) := by
      funext j
      rw [u4 j, ms 13 (by decide), ms 7 (by decide)]
      unfold fo_mw
      by_cases hj : j < 274
      · rw [if_pos ⟨by omega, hj⟩, if_pos hj]
      · rw [if_neg (fun h => hj h.2), if_neg hj]
        exact pr_7hi h.1.1 j (by omega)
    have n0 : ∀ f, f ≠ 24 → f ≠ 0 → N 0 f = Mm 0 f := fun f f1 f2 => by rw [u3 0 (by decide), m0 f f1 f2]
    have ns : ∀ t, t ≠ 0 → t ≠ 7 → N t = Mm t := fun t t1 t2 => by rw [u3 t t2, ms t t1]
    have o0 : ∀ f, f ≠ 4 → O 0 f = Mc 0 f := fun f hf => by rw [l1 0 (by omega), k0 f hf]
    have os : ∀ t, t ≠ 0 → (t ≤ 1 ∨ 10 < t) → O t = Mc t := fun t t1 t2 => by rw [l1 t (by omega), ks t t1]
    have hmA : mA Mm N := ⟨fun f hf => n0 f (by omega) (by omega), fun s hs => ns s (by omega) (by omega)⟩
    have hcA : cA Mc O := ⟨fun f hf => o0 f (by omega), fun s hs => os s (by omega) (by omega), fun f _ => ⟨by rw [os 28 (by omega) (by omega)], by rw [os 31 (by omega) (by omega)]⟩⟩
    have hN := h.1.1
    have hN' : pr_N C O N := ⟨by rw [hcr, h7], by rw [h7]; exact g2, hN.2.2.1.e (os 1 (by omega) (by omega)) (Int.le_refl _), hN.2.2.2.1.e (os 13 (by omega) (by omega)) (Int.le_refl _), fun j hj => by rw [ns 8 (by decide) (by decide)]; exact hN.2.2.2.2 j hj⟩
    have hP' : pr_P C O N := by
      refine ⟨by rw [l1 0 (by omega), k4, u3 0 (by decide), m24], by rw [o0 3 (by decide)]; exact h2, by rw [o0 3 (by decide)]; exact h3, by rw [u3 0 (by decide), m24]; omega, by rw [u3 0 (by decide), m24]; omega, fun i hi => ?_⟩
      rw [u3 0 (by decide), m24] at hi
      obtain ⟨q1, q2⟩ := h6 i (by omega)
      rw [o0 3 (by decide), fo_vw_cg (M := Mc) (fun j _ _ => by rw [os 25 (by omega) (by omega)]), fo_mw_cg (M := Mm) (t := 13) (p := 274 * i) (fun j _ => by rw [ns 13 (by decide) (by decide)])]
      exact ⟨q1, q2⟩
    refine ⟨trivial, u1, ?_, ?_⟩
    · rw [u2]
      show O 0 4 = N 0 24
      rw [l1 0 (by omega), k4, u3 0 (by decide), m24]
    · rw [u2]
      show pr_G C O N
      exact ⟨pr_U_mk (Int.le_refl _) hcA hmA h.1 hN' hP', pr_T_cg (o0 12 (by decide)) (os 35 (by omega) (by omega)) (n0 1 (by decide) (by decide)) (ns 1 (by decide) (by decide)) h.2⟩
theorem pr_R_cg2 (h7 : Nc 0 7 = Mc 0 7) (h8 : Nc 0 8 = Mc 0 8) (ha : ∀ f, f ≠ 3 → Nc 28 f = Mc 28 f ∧ Nc 31 f = Mc 31 f) (h29 : Nc 29 = Mc 29) (h32 : Nc 32 = Mc 32) (m10 : Nm 0 10 = Mm 0 10) (m3 : Nm 3 = Mm 3) (hq : C < 2000000000 → pr_R Mc Mm) : C < 2000000000 → pr_R Nc Nm := by
  intro hlt
  have h := hq hlt
  obtain ⟨a, cs, e, h1, h2, h3, h4, ⟨h5, h6⟩, h9⟩ := h
  have e1 : Nc a 1 = Mc a 1 := by
    obtain ⟨z, z'⟩ := ha 1 (by decide)
    rcases e with rfl | rfl
    · exact z
    · exact z'
  have e2 : Nc (a + 1) = Mc (a + 1) := by
    rcases e with rfl | rfl
    · exact h29
    · exact h32
  refine ⟨a, cs, e, by rw [h7]; exact h1, by rw [h8]; exact h2, h3, h4, ⟨by rw [e1]; exact h5, by rw [e2]; exact h6⟩, ?_⟩
  unfold pr_cM at *
  rw [m10, m3]
  exact h9
theorem fx_keep (x : Int) : (∃ k : Nat, k < 2 ∧ x = (k : Int) ∧ ∀ M, f_X3_in x 0 1 M = 1) ∨ ((x < 0 ∨ 2 ≤ x) ∧ ∀ M, f_X3_in x 0 1 M = 0) := by
  by_cases h : 0 ≤ x ∧ x ≤ 1
  · exact Or.inl ⟨x.toNat, by omega, by omega, fun M => by rw [fm_inE, if_pos h]⟩
  · exact Or.inr ⟨by omega, fun M => by rw [fm_inE, if_neg h]⟩
theorem pq_keep {x : Int} (h : pr_G C Mc Mm) : pq C (True, f_X2_keep x Mc) (True, f_X3_keep x Mm) := by
  unfold f_X2_keep f_X3_keep
  simp only [ax_bd_e]
  rcases fx_keep x with ⟨k, hk, e, h1⟩ | ⟨h0, h1⟩
  · subst e
    rw [h1, if_neg (by omega), if_pos (by omega), if_pos (show (1 : Int) ≠ 0 by decide), fo_t0, show (k : Int) * 274 = ((k * 274 : Nat) : Int) by omega]
    obtain ⟨s1, s2, s3⟩ := fc_save (b := 1) (s := 26) (n := 548) (o := k * 274) (M := Mc) (Or.inr (by omega)) (by omega)
    obtain ⟨N, u2, u3, u4⟩ := fm_keepL (w := k) (kx := fun M6 => (1, M6)) 274 0 (ax_up (ax_up Mm 0 0 0) 20 k 1) rfl
    rw [u2]
    generalize f_X0_save 1 548 26 ((k * 274 : Nat) : Int) Mc = O at s1 s2 s3 ⊢
    have os : ∀ t, t ≠ 27 → ax_up O 27 k 1 t = O t := fun t ht => ax_up_ne ht
    have o27 : ∀ j, ax_up O 27 k 1 27 j = if j = k then 1 else O 27 j := fun j => by rw [fo_up_at, fo_u_eq]
    generalize ax_up O 27 k 1 = O' at os o27 ⊢
    have ms : ∀ t, t ≠ 0 → t ≠ 20 → t ≠ 21 → N t = Mm t := fun t t1 t2 t3 => by rw [u3 t t3, ax_up_ne t2, ax_up_ne t1]
    have m0 : ∀ f, f ≠ 0 → N 0 f = Mm 0 f := fun f f1 => by rw [u3 0 (by decide), ax_up_ne (by decide), fo_up_at, fo_u_o f1]
    have n20 : ∀ j, N 20 j = if j = k then 1 else Mm 20 j := fun j => by rw [u3 20 (by decide), fo_up_at, fo_u_eq, ax_up_ne (by decide)]
    have n21 : ∀ j, N 21 j = if 274 * k ≤ j ∧ j < 274 * k + 274 then Mm 7 (j - 274 * k) else Mm 21 j := fun j => by
      rw [u4 j, ax_up_ne (by decide), ax_up_ne (by decide), ax_up_ne (by decide), ax_up_ne (by decide), Nat.add_zero]
    have cs : ∀ t, t ≠ 26 → t ≠ 27 → O' t = Mc t := fun t t1 t2 => by rw [os t t2, s1 t t1]
    obtain ⟨⟨hN, hP, hK, hH, hX, hR⟩, hT⟩ := h
    refine pq_i rfl ?_
    refine ⟨⟨pr_N_cg (Int.le_refl _) ⟨fun k _ _ => cs k (by omega) (by omega), cS.e (cs 1 (by decide) (by decide)), cS.e (cs 13 (by decide) (by decide))⟩ ⟨ms 7 (by decide) (by decide) (by decide), fun j _ => by rw [ms 8 (by decide) (by decide) (by decide)]⟩ hN,
      pr_P_cg (Int.le_refl _) ⟨by rw [cs 0 (by decide) (by decide)], by rw [cs 0 (by decide) (by decide)], fun i _ => by rw [cs 25 (by decide) (by decide)]⟩ ⟨m0 24 (by decide), fun i _ => by rw [ms 13 (by decide) (by decide) (by decide)]⟩ hP, fun i hi => ?_,
      pr_H_cg (by rw [cs 0 (by decide) (by decide)]) (cs 36 (by decide) (by decide)) (cs 37 (by decide) (by decide)) (m0 32 (by decide)) (ms 17 (by decide) (by decide) (by decide)) (ms 18 (by decide) (by decide) (by decide)) hH,
      pr_X_cg (by rw [cs 0 (by decide) (by decide)]) (cs 34 (by decide) (by decide)) (m0 4 (by decide)) (ms 2 (by decide) (by decide) (by decide)) hX, ?_⟩,
      pr_T_cg (by rw [cs 0 (by decide) (by decide)]) (cs 35 (by decide) (by decide)) (m0 1 (by decide)) (ms 1 (by decide) (by decide) (by decide)) hT⟩
    · rw [o27 i, n20 i]
      by_cases hik : i = k
      · subst hik
        rw [if_pos rfl, if_pos rfl]
        refine ⟨rfl, fun _ => ?_⟩
        have e1 : fo_vw O' 26 (i * 274) = Mm 7 := by
          rw [← hN.1, ← s2]
          exact fo_vw_cg (fun j _ _ => by rw [os 26 (by decide)])
        have e2 : fo_mw N 21 (274 * i) = Mm 7 := by
          funext j
          unfold fo_mw
          by_cases hj : j < 274
          · rw [if_pos hj, n21, if_pos (by omega), show 274 * i + j - 274 * i = j by omega]
          · rw [if_neg hj]
            exact (pr_7hi hN j (by omega)).symm
        rw [e1, e2]
        exact ⟨rfl, hN.2.1⟩
      · rw [if_neg hik, if_neg hik]
        obtain ⟨q1, q2⟩ := hK i hi
        rw [s1 27 (by decide), q1]
        refine ⟨rfl, fun h20 => ?_⟩
        obtain ⟨q3, q4⟩ := q2 h20
        rw [fo_vw_cg (M := Mc) (fun j j1 j2 => by rw [os 26 (by decide), s3 j (by omega)]), fo_mw_cg (M := Mm) (t := 21) (p := 274 * i) (fun j hj => by rw [n21, if_neg (by omega)])]
        exact ⟨q3, q4⟩
    · exact pr_R_cg2 (by rw [cs 0 (by decide) (by decide)]) (by rw [cs 0 (by decide) (by decide)]) (fun f _ => ⟨by rw [cs 28 (by decide) (by decide)], by rw [cs 31 (by decide) (by decide)]⟩) (cs 29 (by decide) (by decide)) (cs 32 (by decide) (by decide)) (m0 10 (by decide)) (ms 3 (by decide) (by decide) (by decide)) hR
  · have hc : (if x < 0 then ((0 : Int), Mc) else if x < 2 then (1, ax_up (f_X0_save 1 548 26 (x * 274) Mc) 27 x.toNat 1) else (0, Mc)) = (0, Mc) := by
      by_cases hx : x < 0
      · rw [if_pos hx]
      · rw [if_neg hx, if_neg (by omega)]
    rw [hc, h1, if_neg (fun h => h rfl)]
    exact ⟨trivial, trivial, rfl, h.th⟩
end PRF
