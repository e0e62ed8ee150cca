/-! ===== acts by themselves: a log cleared, a home levelled ===== -/
section FOAE
variable {b : Nat} {M : ax_M} {r : fo_R}
theorem fo_sg_tail {f : Nat → Int} {n : Nat} (h : ∀ i, n ≤ i → f i = 0) : ∀ m, fo_sg f (n + m) = fo_sg f n := by
  intro m
  induction m with
  | zero => rfl
  | succ m ih =>
    show fo_sg f (n + m) + f (n + m) = fo_sg f n
    rw [ih, h _ (by omega)]
    omega
theorem fo_fi_cnt {c : Nat} (hP : fo_Pg r) (hc : c < 16) : f_J_bitCount (fo_fi r c) M = fo_clears r c := by
  have hno : ∀ f, 6 ≤ f → fo_hasF r c f = false := fun f hf => by
    rw [← Bool.not_eq_true, fo_hasF_iff]
    rintro ⟨k, hk, h1, h2, h3⟩
    have := hP (4 * c + k) (by omega)
    omega
  have hr : ax_r32 (fo_fi r c) := by
    unfold fo_fi
    rw [fo_fold_s, fo_fold_s, fo_fold_s, fo_fold_s, fo_fold_z]
    exact fo_or_r _ _
  rw [fo_popS hr (fun i h1 h2 => by rw [fo_fi_bit hP hc h2]; exact hno i (by omega))]
  rw [fo_sg_congr (g := fo_id (fo_hasF r c)) 24 (fun i hi => by unfold fo_id; rw [fo_fi_bit hP hc (by omega)])]
  have ht := fo_sg_tail (f := fo_id (fo_hasF r c)) (n := 6) (fun i hi => by unfold fo_id; rw [hno i hi]; rfl) 18
  have hs := fo_cs_sg (c := fo_hasF r c) 6 0 0
  have h0 : fo_sg (fo_id (fo_hasF r c)) 0 = 0 := rfl
  rw [h0, Int.add_zero, Int.zero_add] at hs
  unfold fo_clears
  rw [hs]
  exact ht
def fo_actC (k : Int) (r : fo_R) : Int × fo_S := if 0 ≤ fo_blk r k 0 then (fo_clears r (fo_blk r k 0).toNat, fo_clear k (r, [])) else (-2, (r, []))
theorem rl_actC {k : Int} (hk : k = 3 ∨ k = 4) (hr : fo_cr b M = r) (hI : fo_I r) (h12 : M b 12 = 1073741824) (h11 : 0 ≤ M b 11 ∧ M b 11 ≤ 1000000000) :
    (f_X0_clearFirst b k M).1 = (fo_actC k r).1 ∧ fo_cr b (f_X0_clearFirst b k M).2 = (fo_actC k r).2.1 ∧ fo_Fr b M (f_X0_clearFirst b k M).2 := by
  obtain ⟨h0, hW, hs⟩ := hI
  unfold fo_actC
  rcases fo_blk_spec r k 0 with ⟨e, _⟩ | ⟨c, e, hc, h1, h2⟩
  · rw [if_neg (by omega)]
    have e1 : f_X0_clearFirst b k M = (-2, M) := by
      have ej : f_X0_clearFirst_J12 b k M = (-2, M) := by
        unfold f_X0_clearFirst_J12
        simp only [ax_bd]
        rw [fc_owned, hr, e, if_neg (fun h => h rfl)]
      unfold f_X0_clearFirst
      rw [ej]
      rcases hk with h | h <;> subst h <;> rfl
    rw [e1]
    exact ⟨rfl, hr, fo_Fr.rf⟩
  · rw [if_pos (by omega)]
    obtain ⟨q1, q2⟩ := rl_clear (σ := (r, [])) (x := k) h0 hk hW hs (by dsimp only; omega) (fun _ => rfl) (Int.le_refl 100) (by decide) (rl_start hr h12 h11)
    have z := fz_clear (b := b) (M := M) (k := k)
    refine ⟨?_, rl_end q1 (z.1.1.trans h12), z.2⟩
    rw [q2 hr]
    dsimp only
    rw [e, fo_t0]
    exact fo_fi_cnt hW.pg hc
theorem fm_actC {x : Nat} (hx : x < 2) (hr : M 7 = r) (hI : fo_I r) (hclk : r 270 ≤ 2147483647) (h20 : 0 ≤ M 0 20 ∧ M 0 20 ≤ 400) :
    (f_X3_clearsOf (x : Int) M).1 ∧ (f_X3_clearsOf (x : Int) M).2.1 = (fo_actC (3 + (x : Int)) r).1 ∧ ∃ n0, fo_MR 7 n0 M (f_X3_clearsOf (x : Int) M).2.2 (fo_actC (3 + (x : Int)) r).2 := by
  obtain ⟨h0, hW, hs⟩ := hI
  have g := fm_start (a := 7) hr h20
  unfold f_X3_clearsOf fo_actC
  rw [fm_in (by omega), if_pos (by decide), fm_kindMany, hr]
  rcases fo_blk_spec r (3 + (x : Int)) 0 with ⟨e, hn⟩ | ⟨c, e, hc, h1, h2⟩
  · have h : ¬ (0 ≤ fo_blk r (3 + (x : Int)) 0) := by omega
    have hm : ¬ (fo_many r (3 + (x : Int)) ≠ 0) := fun hm => by
      have hp := fo_many_pos (r := r) (k := 3 + (x : Int))
      obtain ⟨c, hc, a1, a2⟩ := hs.ls (3 + (x : Int)) 0 (by omega) (Int.le_refl 0) (by generalize fo_many r (3 + (x : Int)) = m at *; omega)
      exact hn c hc ⟨a1, a2⟩
    rw [if_neg hm, if_neg h]
    exact ⟨trivial, rfl, _, g⟩
  · have h : 0 ≤ fo_blk r (3 + (x : Int)) 0 := by omega
    have hm : fo_many r (3 + (x : Int)) ≠ 0 := fun hm => by
      have := hs.lo c hc (by omega)
      rw [h1, h2, hm] at this
      exact absurd this.2 (Int.lt_irrefl 0)
    rw [if_pos hm, if_pos h]
    obtain ⟨r1, r2, r3⟩ := fm_clear (a := 7) (σ := (r, [])) ⟨by decide, Or.inl (by decide)⟩ h0 hclk hW hs (show 3 ≤ 3 + (x : Int) by omega) e hc h1 h2 g
    unfold ax_rc
    refine ⟨⟨r1, trivial⟩, ?_, _, r3⟩
    show (f_X3_clearsLog 7 (3 + (x : Int)) M).2.1 = _
    rw [r2, e, fo_t0]
/-- one home levelled -/
def fo_actL (r : fo_R) : Int × fo_S := (if fo_lvlOk r = true then fo_lvl r 0 else -2, fo_level (r, []))
theorem rl_actL (hr : fo_cr b M = r) (hI : fo_I r) (h12 : M b 12 = 1073741824) (h11 : 0 ≤ M b 11 ∧ M b 11 ≤ 1000000000) :
    (f_X0_level b M).1 = (fo_actL r).1 ∧ fo_cr b (f_X0_level b M).2 = (fo_actL r).2.1 ∧ fo_Fr b M (f_X0_level b M).2 ∧ (fo_lvlOk r = true → (f_X0_level b M).2 b 17 = fo_lvl r 1) := by
  obtain ⟨h0, hW, hs⟩ := hI
  obtain ⟨q1, q2⟩ := rl_level (σ := (r, [])) h0 hW (Int.le_refl 100) (by decide) (rl_start hr h12 h11)
  obtain ⟨q3, q4⟩ := q2 hr
  have z := fz_level (b := b) (M := M)
  refine ⟨q3, rl_end q1 (z.1.1.trans h12), z.2, fun h => ?_⟩
  rw [q4]
  exact if_pos h
theorem fm_actL (hr : M 7 = r) (hI : fo_I r) (h20 : 0 ≤ M 0 20 ∧ M 0 20 ≤ 400) :
    (f_X3_levelsNow M).1 ∧ (f_X3_levelsNow M).2.1 = (fo_actL r).1 ∧ ∃ n0, fo_MR 7 n0 (if fo_lvlOk r = true then ax_up M 0 21 (fo_lvl r 1) else M) (f_X3_levelsNow M).2.2 (fo_actL r).2 := by
  obtain ⟨h0, hW, hs⟩ := hI
  obtain ⟨r1, r2, r3⟩ := fm_level (a := 7) (σ := (r, [])) ⟨by decide, Or.inl (by decide)⟩ h0 hW (hs.free hW) (fm_start (a := 7) hr h20)
  unfold f_X3_levelsNow fo_actL
  unfold ax_rc
  dsimp only at r2 r3 ⊢
  generalize f_X3_levelsOne 7 M = y at r1 r2 r3 ⊢
  by_cases ok : fo_lvlOk r = true
  · rw [if_pos ok] at r2
    obtain ⟨g, f, q, p, _⟩ := fo_lvlOk_spec ok
    rw [if_pos (show 0 ≤ y.2.1 by omega), if_pos ok]
    exact ⟨⟨r1, trivial⟩, r2, _, r3⟩
  · rw [if_neg ok] at r2
    rw [if_neg (show ¬ (0 ≤ y.2.1) by omega), if_neg ok]
    exact ⟨⟨r1, trivial⟩, rfl, _, r3⟩
end FOAE
