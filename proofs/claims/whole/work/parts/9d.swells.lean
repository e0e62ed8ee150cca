/-! ===== swells, side by side ===== -/
theorem sw_rem {a b : Int} (ha : 0 ≤ a) : ax_rem a b = a % b := by
  unfold ax_rem
  exact Int.tmod_eq_emod_of_nonneg ha
theorem sw_step {a b : Int} {n : Nat} (hb : 0 < b) (hab : b ≤ a) (h : a * b < 2 ^ (n + 1)) : 0 ≤ a % b ∧ a % b < b ∧ b * (a % b) < 2 ^ n := by
  have h1 := Int.emod_nonneg a (show b ≠ 0 by omega)
  have h2 := Int.emod_lt_of_pos a hb
  have h3 : a % b + b * (a / b) = a := Int.emod_add_mul_ediv a b
  have h4 : 1 ≤ a / b := Int.le_ediv_of_mul_le hb (by omega)
  have h5 : b * 1 ≤ b * (a / b) := Int.mul_le_mul_of_nonneg_left h4 (by omega)
  have h6 : 2 * (a % b) ≤ a := by omega
  have h7 : b * (2 * (a % b)) ≤ b * a := Int.mul_le_mul_of_nonneg_left h6 (by omega)
  have h8 : b * (2 * (a % b)) = 2 * (b * (a % b)) := by rw [Int.mul_left_comm]
  have h9 : b * a = a * b := Int.mul_comm b a
  have h10 : (2 : Int) ^ (n + 1) = 2 * 2 ^ n := by rw [Int.pow_succ]; omega
  refine ⟨h1, h2, ?_⟩
  omega
theorem sw_zero {a b : Int} (hb : 0 ≤ b) (hab : b ≤ a) (h : a * b < 2 ^ 0) : b = 0 := by
  rcases Int.lt_or_le 0 b with h1 | h1
  · have h2 : 1 * b ≤ a * b := Int.mul_le_mul_of_nonneg_right (by omega) (by omega)
    have h3 : (2 : Int) ^ 0 = 1 := by decide
    omega
  · omega
theorem sw_gcd_rem {a b : Int} (ha : 0 ≤ a) (hb : 0 ≤ b) : (Int.gcd b (a % b) : Int) = (Int.gcd a b : Int) := by
  obtain ⟨m, rfl⟩ := Int.eq_ofNat_of_zero_le ha
  obtain ⟨n, rfl⟩ := Int.eq_ofNat_of_zero_le hb
  show ((Nat.gcd n (m % n) : Nat) : Int) = ((Nat.gcd m n : Nat) : Int)
  rw [Nat.gcd_comm m n, Nat.gcd_rec n m, Nat.gcd_comm]
theorem sw_class (M : ax_M) (kx : Int → Int) : ∀ (n i : Nat) (a b : Int), 0 ≤ b → b ≤ a → a * b < 2 ^ n → f_X2_greatestShared_L7 M (n + 1) i a b kx = kx (Int.gcd a b) := by
  intro n
  induction n with
  | zero =>
    intro i a b hb hab h
    have h0 := sw_zero hb hab h
    subst h0
    rw [f_X2_greatestShared_L7, f_X2_greatestShared_B7, if_pos rfl, Int.gcd_zero_right, Int.natAbs_of_nonneg hab]
  | succ n ih =>
    intro i a b hb hab h
    rw [f_X2_greatestShared_L7, f_X2_greatestShared_B7]
    by_cases h0 : b = 0
    · subst h0
      rw [if_pos rfl, Int.gcd_zero_right, Int.natAbs_of_nonneg hab]
    · obtain ⟨h1, h2, h3⟩ := sw_step (n := n) (show 0 < b by omega) hab h
      rw [if_neg h0, ax_bd, sw_rem (by omega), ih (i + 1) b (a % b) h1 (by omega) h3, sw_gcd_rem (by omega) hb]
theorem sw_lrem {a b : Int} (ha : 0 ≤ a ∧ a ≤ 1000000) (hb : 0 < b ∧ b ≤ 1000000) : ax_lrem a b = a % b ∧ ax_ldiv a b = a / b := by
  have r1 : ax_r64 a := by unfold ax_r64; omega
  have r2 : ax_r64 b := by unfold ax_r64; omega
  have hd : (Int64.ofInt a / Int64.ofInt b).toInt = a / b := by
    rw [Int64.toInt_div, ax_toL r1, ax_toL r2, Int.tdiv_eq_ediv_of_nonneg ha.1]
    have q1 := Int.ediv_nonneg ha.1 (show 0 ≤ b by omega)
    have q2 := Int.ediv_le_self b ha.1
    exact Int.bmod_eq_of_le (by omega) (by omega)
  refine ⟨?_, hd⟩
  unfold ax_lrem
  rw [Int64.toInt_sub, Int64.toInt_mul, hd, ax_toL r1, ax_toL r2]
  have h3 : a % b + b * (a / b) = a := Int.emod_add_mul_ediv a b
  have h4 : a / b * b = b * (a / b) := Int.mul_comm _ _
  have h1 := Int.emod_nonneg a (show b ≠ 0 by omega)
  have h2 := Int.emod_lt_of_pos a hb.1
  have h5 : (a / b * b).bmod (2 ^ 64) = a / b * b := Int.bmod_eq_of_le (by omega) (by omega)
  rw [h5, show a - a / b * b = a % b by omega]
  exact Int.bmod_eq_of_le (by omega) (by omega)
theorem sw_lcmp {b : Int} : ax_lcmp b 0 ≠ 0 ↔ b ≠ 0 := by
  unfold ax_lcmp
  split
  · simp; omega
  · split <;> simp_all
theorem sw_model : ∀ (n : Nat) (a b : Int), 0 ≤ b → b ≤ a → a ≤ 1000000 → a * b < 2 ^ n → f_X3_common_N (n + 1) a b = (True, (Int.gcd a b : Int)) ∨ ((f_X3_common_N (n + 1) a b).1 ∧ (f_X3_common_N (n + 1) a b).2 = (Int.gcd a b : Int)) := by
  intro n
  induction n with
  | zero =>
    intro a b hb hab ha h
    have h0 := sw_zero hb hab h
    subst h0
    left
    rw [f_X3_common_N, if_neg (fun h => (sw_lcmp.mp h) rfl), Int.gcd_zero_right, Int.natAbs_of_nonneg hab]
  | succ n ih =>
    intro a b hb hab ha h
    right
    rw [f_X3_common_N]
    by_cases h0 : b = 0
    · subst h0
      rw [if_neg (fun h => (sw_lcmp.mp h) rfl), Int.gcd_zero_right, Int.natAbs_of_nonneg hab]
      exact ⟨trivial, rfl⟩
    · obtain ⟨h1, h2, h3⟩ := sw_step (n := n) (show 0 < b by omega) hab h
      rw [if_pos (sw_lcmp.mpr h0), (sw_lrem ⟨by omega, ha⟩ ⟨by omega, by omega⟩).1]
      have e := ih b (a % b) h1 (by omega) (by omega) h3
      rw [sw_gcd_rem (by omega) hb] at e
      rcases e with e | e
      · unfold ax_rq ax_rc
        rw [e]
        exact ⟨⟨h0, trivial, trivial⟩, rfl⟩
      · exact ⟨⟨h0, e.1, trivial⟩, e.2⟩
theorem sw_div {a b : Int} (ha : 0 ≤ a) (hb : 0 < b) (hs : a ≤ 1000000) : (a.tdiv b).bmod 4294967296 = a / b := by
  rw [Int.tdiv_eq_ediv_of_nonneg ha]
  have q1 := Int.ediv_nonneg ha (show 0 ≤ b by omega)
  have q2 := Int.ediv_le_self b ha
  exact Int.bmod_eq_of_le (by omega) (by omega)
section SWL
variable {C : Int} {Mc Mm : ax_M}
theorem pq_swells (h : pr_G C Mc Mm) : pq C (f_X2_swells Mc) (f_X3_swells Mm) := by
  have hI := h.I
  have s0 := h.a
  have hct := hI.2.1.ct
  have a1 := hct 264 (by decide) (by decide)
  have a2 := hct 265 (by decide) (by decide)
  have e1 : Mc 10 1 = Mm 7 264 := fr_ct (b := 1) h.c (by decide) (by decide)
  have e2 : Mc 10 2 = Mm 7 265 := fr_ct (b := 1) h.c (by decide) (by decide)
  have e3 : ax_up Mm 0 0 0 7 = Mm 7 := ax_up_ne (by decide)
  unfold f_X2_swells f_X3_swells pq
  simp only [ax_bd]
  rw [e1, e2, e3]
  by_cases h0 : Mm 7 264 = 0
  · rw [if_neg (show ¬ 1 ≤ Mm 7 264 by omega), if_neg (show ¬ Mm 7 264 ≠ 0 by omega)]
    exact ⟨trivial, trivial, rfl, h.th⟩
  · rw [if_pos (show 1 ≤ Mm 7 264 by omega), if_pos h0]
    rw [ax_wr_id (by omega) (by omega)]
    generalize hu : Mm 7 264 + Mm 7 265 = u
    generalize hw : Mm 7 264 = w
    have hp : u * w < 2 ^ 59 := by
      have q1 : u * w ≤ 200000 * w := Int.mul_le_mul_of_nonneg_right (by omega) (by omega)
      have q2 : (2 : Int) ^ 59 = 576460752303423488 := by decide
      omega
    have hp2 : u * w < 2 ^ 63 := by
      have q1 : (2 : Int) ^ 59 = 576460752303423488 := by decide
      have q2 : (2 : Int) ^ 63 = 9223372036854775808 := by decide
      omega
    have hg0 : (0 : Int) < Int.gcd u w := by
      have := Int.gcd_pos_of_ne_zero_right u (show w ≠ 0 by omega)
      omega
    have hg1 : (Int.gcd u w : Int) ≤ w := Int.le_of_dvd (by omega) (Int.gcd_dvd_right _ _)
    have hgs : f_X2_greatestShared u w Mc = (Int.gcd u w : Int) := by
      unfold f_X2_greatestShared
      rw [sw_class Mc _ 63 0 u w (by omega) (by omega) hp2]
      split <;> omega
    have hcm : (f_X3_common u w (ax_up Mm 0 0 0)).1 ∧ (f_X3_common u w (ax_up Mm 0 0 0)).2 = (Int.gcd u w : Int) := by
      unfold f_X3_common
      rcases sw_model 59 u w (by omega) (by omega) (by omega) hp with e | e
      · rw [e]; exact ⟨trivial, rfl⟩
      · exact e
    rw [hgs]
    unfold ax_rc ax_rq
    dsimp only
    rw [hcm.2]
    generalize f_X3_common u w (ax_up Mm 0 0 0) = cm at hcm
    generalize hgg : (Int.gcd u w : Int) = g at hg0 hg1
    generalize f_X2_tellAnew Mc = Nc0 at s0 ⊢
    generalize ax_up (ax_up Mm 0 0 0) 0 1 0 = Nm0 at s0 ⊢
    have d1 : ax_ldiv u g = u / g ∧ ax_div u g = u / g := ⟨(sw_lrem ⟨by omega, by omega⟩ ⟨hg0, by omega⟩).2, by unfold ax_div; exact sw_div (by omega) hg0 (by omega)⟩
    have d2 : ax_ldiv w g = w / g ∧ ax_div w g = w / g := ⟨(sw_lrem ⟨by omega, by omega⟩ ⟨hg0, by omega⟩).2, by unfold ax_div; exact sw_div (by omega) hg0 (by omega)⟩
    rw [d1.1, d1.2, d2.2]
    obtain ⟨q1, s1⟩ := ps_tell (x := u / g) s0 (by decide)
    have e7 : (f_X3_enters (u / g) Nm0).2 7 = Mm 7 := s1.2.2
    generalize f_X2_tell (u / g) Nc0 = Nc1 at s1 ⊢
    generalize f_X3_enters (u / g) Nm0 = y1 at q1 s1 e7 ⊢
    rw [e7, hw, d2.1]
    obtain ⟨q2, s2⟩ := ps_tell (x := w / g) s1 (by decide)
    generalize f_X2_tell (w / g) Nc1 = Nc2 at s2 ⊢
    generalize f_X3_enters (w / g) y1.2 = y2 at q2 s2 ⊢
    exact ⟨⟨by omega, by omega, trivial⟩, ⟨hcm.1, by omega, q1, by omega, q2, trivial⟩, rfl, s2.g⟩
end SWL
