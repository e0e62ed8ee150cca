/-! ===== acts by themselves: the model's merge; runs sealed ===== -/
section FOAD
variable {b : Nat} {M : ax_M} {r : fo_R}
/-- where an act of the model begins -/
theorem fm_start {a : Nat} (hr : M a = r) (h20 : 0 ≤ M 0 20 ∧ M 0 20 ≤ 400) : fo_MR a (M 0 20).toNat M M (r, []) := by
  refine ⟨hr, ?_, fun i q e _ => by simp at e, fun _ _ _ _ => rfl, fun _ _ => rfl⟩
  show M 0 20 = if (M 0 20).toNat + 0 < 400 then (((M 0 20).toNat + 0 : Nat) : Int) else 400
  split <;> omega
theorem fm_in {x y z : Int} (h : y ≤ x ∧ x ≤ z) : f_X3_in x y z M = 1 := by
  have e1 : ¬ (ax_lcmp x y < 0) := by
    unfold ax_lcmp
    rw [if_neg (by omega)]
    split <;> omega
  have e2 : ¬ (0 < ax_lcmp x z) := by
    unfold ax_lcmp
    by_cases hx : x < z
    · rw [if_pos hx]; decide
    · rw [if_neg hx, if_pos (by omega)]; decide
  unfold f_X3_in
  rw [if_neg e1, if_neg e2]
theorem fo_any_blk {f : Nat} (hI : fo_I r) : (∃ l, l < 64 ∧ r l ≠ 0 ∧ (r l - 1) / 4 = (f : Int)) ↔ 0 ≤ fo_blk r 1 f := by
  obtain ⟨h0, hW, hs⟩ := hI
  constructor
  · rintro ⟨l, hl, g1, g2⟩
    obtain ⟨c, hc, k1, k2⟩ := hs.ha l hl g1
    rcases fo_blk_spec r 1 (f : Int) with ⟨_, h⟩ | ⟨d, e, _⟩
    · exact absurd ⟨k1, by rw [k2, g2]⟩ (h c hc)
    · omega
  · intro h
    rcases fo_blk_spec r 1 (f : Int) with ⟨e, _⟩ | ⟨c, e, hc, k1, k2⟩
    · omega
    · obtain ⟨l, hl, g1, g2⟩ := hs.hb c hc k1
      exact ⟨l, hl, g1, by rw [g2, k2]⟩
theorem fm_actM {f : Nat} (hf : f < 6) (hr : M 7 = r) (hI : fo_I r) (hclk : r 270 ≤ 2147483647) (h20 : 0 ≤ M 0 20 ∧ M 0 20 ≤ 400) :
    (f_X3_mergesOf (f : Int) M).1 ∧ (f_X3_mergesOf (f : Int) M).2.1 = (fo_actM f r).1 ∧ ∃ n0, fo_MR 7 n0 M (f_X3_mergesOf (f : Int) M).2.2 (fo_actM f r).2 := by
  have hany := fm_isAny (M := M) (f := f) (by rw [hr]; exact hI.2.1.pg)
  rw [hr, fo_any_blk hI] at hany
  have g := fm_start (a := 7) hr h20
  unfold f_X3_mergesOf fo_actM
  rw [fm_in (by omega), if_pos (by decide)]
  by_cases h : 0 ≤ fo_blk r 1 (f : Int)
  · rw [if_neg (hany.mpr h), if_pos h]
    obtain ⟨r1, r2, r3⟩ := fm_merges (a := 7) ⟨by decide, Or.inl (by decide)⟩ hf hI.1 hclk (hI.2.2.free hI.2.1) hI.2.1 g
    unfold ax_rc
    exact ⟨⟨r1, trivial⟩, r2, _, r3⟩
  · have hz : f_X3_isAny 7 (f : Int) M = 0 := Classical.byContradiction (fun h' => h (hany.mp h'))
    rw [if_pos hz, if_neg h]
    exact ⟨trivial, rfl, _, g⟩
/-- the run sealed, if there is one -/
def fo_actS (r : fo_R) : Int × fo_S := if 0 ≤ fo_run r then fo_seal (r, []) else (-2, (r, []))
theorem rl_actS (hr : fo_cr b M = r) (hI : fo_I r) (h12 : M b 12 = 1073741824) (h11 : 0 ≤ M b 11 ∧ M b 11 ≤ 1000000000) :
    (f_X0_sealRun b M).1 = (fo_actS r).1 ∧ fo_cr b (f_X0_sealRun b M).2 = (fo_actS r).2.1 ∧ fo_Fr b M (f_X0_sealRun b M).2 := by
  obtain ⟨h0, hW, hs⟩ := hI
  unfold fo_actS
  rcases fo_run_spec r with ⟨e, _⟩ | ⟨c, e, hc, hk⟩
  · rw [if_neg (by omega)]
    have e1 : f_X0_sealRun b M = (-2, M) := by
      unfold f_X0_sealRun
      simp only [ax_bd]
      rw [fc_firstRun, hr, e, if_neg (by omega)]
    rw [e1]
    exact ⟨rfl, hr, fo_Fr.rf⟩
  · rw [if_pos (by omega)]
    obtain ⟨q1, q2⟩ := rl_seal (σ := (r, [])) h0 hc hk hW hs (Int.le_refl 100) (by decide) (rl_start hr h12 h11)
    have z := fz_seal (b := b) (M := M)
    have es : fo_seal (r, []) = fo_sealA c (r (208 + c)).toNat (r, []) := by
      unfold fo_seal
      dsimp only
      rw [e, fo_t0]
    rw [es]
    exact ⟨q2 hr, rl_end q1 (z.1.1.trans h12), z.2⟩
theorem fm_actS (hr : M 7 = r) (hI : fo_I r) (hclk : r 270 ≤ 2147483647) (h20 : 0 ≤ M 0 20 ∧ M 0 20 ≤ 400) :
    (f_X3_sealsNow M).1 ∧ (f_X3_sealsNow M).2.1 = (fo_actS r).1 ∧ ∃ n0, fo_MR 7 n0 M (f_X3_sealsNow M).2.2 (fo_actS r).2 := by
  have g := fm_start (a := 7) hr h20
  unfold f_X3_sealsNow fo_actS
  rw [fm_theRun, hr]
  rcases fo_run_spec r with ⟨e, _⟩ | ⟨c, e, hc, hk⟩
  · have h : ¬ (0 ≤ fo_run r) := by omega
    rw [if_neg h, if_neg h]
    exact ⟨trivial, rfl, _, g⟩
  · have h : 0 ≤ fo_run r := by omega
    rw [if_pos h, if_pos h]
    obtain ⟨r1, r2, r3⟩ := fm_seal (a := 7) (σ := (r, [])) ⟨by decide, Or.inl (by decide)⟩ hI.1 hclk hc hk hI.2.1 hI.2.2 g
    unfold ax_rc
    exact ⟨⟨r1, trivial⟩, r2, _, r3⟩
theorem fo_actS_I (hI : fo_I r) : fo_I (fo_actS r).2.1 := by
  obtain ⟨h0, hW, hs⟩ := hI
  unfold fo_actS
  rcases fo_run_spec r with ⟨e, _⟩ | ⟨c, e, hc, hk⟩
  · rw [if_neg (by omega)]
    exact ⟨h0, hW, hs⟩
  · rw [if_pos (by omega)]
    have es : fo_seal (r, []) = fo_sealA c (r (208 + c)).toNat (r, []) := by
      unfold fo_seal
      dsimp only
      rw [e, fo_t0]
    rw [es]
    obtain ⟨hd, eo⟩ := fo_run_dst hW hs hc hk
    obtain ⟨x1, x2⟩ := fo_WI_seal (σ := (r, [])) h0 hd hk hW hs
    obtain ⟨k1, k2, k3⟩ := fo_seal_keep (σ := (r, [])) h0 hc hk hW hs
    have e270 : (fo_sealA c (r (208 + c)).toNat (r, [])).2.1 270 = r 270 := k2 270 (by omega)
    exact ⟨by rw [e270]; exact h0, by rw [e270]; exact x1, x2⟩
end FOAD
