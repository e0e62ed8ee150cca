/-! ===== how many steps acts by themselves have ===== -/
section DYA
variable {b : Nat} {K : Int} {M N : ax_M} {r r0 : fo_R} {σ : fo_S} {w : Prop}
theorem rl_end11 (h : fo_RL b K N σ r0 w) (h12 : N b 12 = 1073741824) : 0 ≤ N b 11 ∧ N b 11 ≤ r0 300 + K := by
  obtain ⟨_, h | ⟨g1, g2, _⟩⟩ := h
  · exact ⟨h.2.2.1, h.2.2.2.1⟩
  · omega
theorem rl_actM11 {f : Nat} (hf : f < 6) (hr : fo_cr b M = r) (hI : fo_I r) (h12 : M b 12 = 1073741824) (h11 : 0 ≤ M b 11 ∧ M b 11 ≤ 1000000000) : 0 ≤ (f_X0_mergeFolder b (f : Int) M).2 b 11 ∧ (f_X0_mergeFolder b (f : Int) M).2 b 11 ≤ M b 11 + 300 := by
  obtain ⟨h0, hW, hs⟩ := hI
  unfold f_X0_mergeFolder
  rw [if_neg (by omega), if_pos (by omega), fc_owned, hr]
  rcases fo_blk_spec r 1 (f : Int) with ⟨e, _⟩ | ⟨c, e, _⟩
  · rw [e, if_neg (fun h => h rfl)]
    exact ⟨h11.1, by dsimp only; omega⟩
  · rw [e, if_pos (show (c : Int) ≠ -1 by omega)]
    obtain ⟨q1, q2⟩ := rl_merge (x := (f : Int)) (σ := (r, [])) hf h0 (hs.free hW) hW (fun _ => rfl) (Int.le_refl 100) (by decide) (rl_start hr h12 h11)
    have z := fz_merge (b := b) (M := M) (f := (f : Int))
    have z9 := rl_end11 q1 (z.1.1.trans h12)
    rw [fo_u_s] at z9
    exact ⟨z9.1, Int.le_trans z9.2 (by omega)⟩
theorem rl_actS11 (hr : fo_cr b M = r) (hI : fo_I r) (h12 : M b 12 = 1073741824) (h11 : 0 ≤ M b 11 ∧ M b 11 ≤ 1000000000) : 0 ≤ (f_X0_sealRun b M).2 b 11 ∧ (f_X0_sealRun b M).2 b 11 ≤ M b 11 + 300 := by
  obtain ⟨h0, hW, hs⟩ := hI
  rcases fo_run_spec r with ⟨e, _⟩ | ⟨c, e, hc, hk⟩
  · have e1 : f_X0_sealRun b M = (-2, M) := by
      unfold f_X0_sealRun
      simp only [ax_bd]
      rw [fc_firstRun, hr, e, if_neg (by omega)]
    rw [e1]
    exact ⟨h11.1, by dsimp only; omega⟩
  · obtain ⟨q1, q2⟩ := rl_seal (σ := (r, [])) h0 hc hk hW hs (Int.le_refl 100) (by decide) (rl_start hr h12 h11)
    have z := fz_seal (b := b) (M := M)
    have z9 := rl_end11 q1 (z.1.1.trans h12)
    rw [fo_u_s] at z9
    exact ⟨z9.1, Int.le_trans z9.2 (by omega)⟩
theorem rl_actC11 {k : Int} (hk : k = 3 ∨ k = 4) (hr : fo_cr b M = r) (hI : fo_I r) (h12 : M b 12 = 1073741824) (h11 : 0 ≤ M b 11 ∧ M b 11 ≤ 1000000000) : 0 ≤ (f_X0_clearFirst b k M).2 b 11 ∧ (f_X0_clearFirst b k M).2 b 11 ≤ M b 11 + 300 := by
  obtain ⟨h0, hW, hs⟩ := hI
  rcases fo_blk_spec r k 0 with ⟨e, _⟩ | ⟨c, e, hc, h1, h2⟩
  · have e1 : f_X0_clearFirst b k M = (-2, M) := by
      have ej : f_X0_clearFirst_J12 b k M = (-2, M) := by
        unfold f_X0_clearFirst_J12
        simp only [ax_bd]
        rw [fc_owned, hr, e, if_neg (fun h => h rfl)]
      unfold f_X0_clearFirst
      rw [ej]
      rcases hk with h | h <;> subst h <;> rfl
    rw [e1]
    exact ⟨h11.1, by dsimp only; omega⟩
  · obtain ⟨q1, q2⟩ := rl_clear (σ := (r, [])) (x := k) h0 hk hW hs (by dsimp only; omega) (fun _ => rfl) (Int.le_refl 100) (by decide) (rl_start hr h12 h11)
    have z := fz_clear (b := b) (M := M) (k := k)
    have z9 := rl_end11 q1 (z.1.1.trans h12)
    rw [fo_u_s] at z9
    exact ⟨z9.1, Int.le_trans z9.2 (by omega)⟩
theorem rl_actL11 (hr : fo_cr b M = r) (hI : fo_I r) (h12 : M b 12 = 1073741824) (h11 : 0 ≤ M b 11 ∧ M b 11 ≤ 1000000000) : 0 ≤ (f_X0_level b M).2 b 11 ∧ (f_X0_level b M).2 b 11 ≤ M b 11 + 300 := by
  obtain ⟨h0, hW, hs⟩ := hI
  obtain ⟨q1, q2⟩ := rl_level (σ := (r, [])) h0 hW (Int.le_refl 100) (by decide) (rl_start hr h12 h11)
  have z := fz_level (b := b) (M := M)
  have z9 := rl_end11 q1 (z.1.1.trans h12)
  rw [fo_u_s] at z9
  exact ⟨z9.1, Int.le_trans z9.2 (by omega)⟩
end DYA
