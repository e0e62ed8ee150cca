/-- a mask of 24 bits, as a number -/
theorem fo_mask {v : Int} (hv : ax_r32 v) (h : ∀ i, 24 ≤ i → i < 32 → fo_bit v i = false) : ∃ n : Nat, n < 16777216 ∧ v = (n : Int) ∧ ∀ i, i < 24 → ((n / 2 ^ i % 2 : Nat) : Int) = fo_id (fo_bit v) i := by
  have hb : ∀ i, fo_bit v i = (Int32.ofInt v).toBitVec.toNat.testBit i := fun i => rfl
  have ht := ax_toI hv
  have ht' : (Int32.ofInt v).toBitVec.toInt = v := ht
  have h32 : (Int32.ofInt v).toBitVec.toNat < 2 ^ 32 := (Int32.ofInt v).toBitVec.isLt
  have hn : (Int32.ofInt v).toBitVec.toNat < 2 ^ 24 := by
    refine Nat.lt_pow_two_of_testBit _ (fun i hi => ?_)
    by_cases h2 : i < 32
    · rw [← hb]; exact h i hi h2
    · exact Nat.testBit_lt_two_pow (Nat.lt_of_lt_of_le h32 (Nat.pow_le_pow_right (by decide) (by omega)))
  rw [BitVec.toInt_eq_toNat_of_lt (by omega)] at ht'
  refine ⟨(Int32.ofInt v).toBitVec.toNat, by omega, ht'.symm, fun i hi => ?_⟩
  unfold fo_id
  rw [hb]
  generalize (Int32.ofInt v).toBitVec.toNat = n
  rw [Nat.testBit_eq_decide_div_mod_eq]
  have h2 : n / 2 ^ i % 2 < 2 := Nat.mod_lt _ (by decide)
  generalize n / 2 ^ i % 2 = x at *
  by_cases hx : x = 1
  · rw [if_pos (decide_eq_true hx), hx]; rfl
  · rw [if_neg (by rw [decide_eq_true_eq]; exact hx)]
    have : x = 0 := by omega
    rw [this]; rfl
theorem pb_8 (n : Nat) : pb_p (n % 256) = n / 1 % 2 + n / 2 % 2 + n / 4 % 2 + n / 8 % 2 + n / 16 % 2 + n / 32 % 2 + n / 64 % 2 + n / 128 % 2 := by
  rw [pb_6 _ (Nat.mod_lt _ (by decide))]
  have h0 : n % 256 % 2 = n / 1 % 2 := by omega
  have h1 : n % 256 / 2 % 2 = n / 2 % 2 := by omega
  have h2 : n % 256 / 4 % 2 = n / 4 % 2 := by omega
  have h3 : n % 256 / 8 % 2 = n / 8 % 2 := by omega
  have h4 : n % 256 / 16 % 2 = n / 16 % 2 := by omega
  have h5 : n % 256 / 32 % 2 = n / 32 % 2 := by omega
  have h6 : n % 256 / 64 % 2 = n / 64 % 2 := by omega
  have h7 : n % 256 / 128 % 2 = n / 128 % 2 := by omega
  rw [h0, h1, h2, h3, h4, h5, h6, h7]
theorem pb_9 {n : Nat} : ((n / 1 % 2 : Nat) : Int) + ((n / 2 % 2 : Nat) : Int) + ((n / 4 % 2 : Nat) : Int) + ((n / 8 % 2 : Nat) : Int) + ((n / 16 % 2 : Nat) : Int) + ((n / 32 % 2 : Nat) : Int) + ((n / 64 % 2 : Nat) : Int) + ((n / 128 % 2 : Nat) : Int) + ((n / 256 % 2 : Nat) : Int) + ((n / 512 % 2 : Nat) : Int) + ((n / 1024 % 2 : Nat) : Int) + ((n / 2048 % 2 : Nat) : Int) + ((n / 4096 % 2 : Nat) : Int) + ((n / 8192 % 2 : Nat) : Int) + ((n / 16384 % 2 : Nat) : Int) + ((n / 32768 % 2 : Nat) : Int) + ((n / 65536 % 2 : Nat) : Int) + ((n / 131072 % 2 : Nat) : Int) + ((n / 262144 % 2 : Nat) : Int) + ((n / 524288 % 2 : Nat) : Int) + ((n / 1048576 % 2 : Nat) : Int) + ((n / 2097152 % 2 : Nat) : Int) + ((n / 4194304 % 2 : Nat) : Int) + ((n / 8388608 % 2 : Nat) : Int) = fo_sg (fun i => ((n / 2 ^ i % 2 : Nat) : Int)) 24 := by
  show _ = 0 + ((n / 2 ^ 0 % 2 : Nat) : Int) + ((n / 2 ^ 1 % 2 : Nat) : Int) + ((n / 2 ^ 2 % 2 : Nat) : Int) + ((n / 2 ^ 3 % 2 : Nat) : Int) + ((n / 2 ^ 4 % 2 : Nat) : Int) + ((n / 2 ^ 5 % 2 : Nat) : Int) + ((n / 2 ^ 6 % 2 : Nat) : Int) + ((n / 2 ^ 7 % 2 : Nat) : Int) + ((n / 2 ^ 8 % 2 : Nat) : Int) + ((n / 2 ^ 9 % 2 : Nat) : Int) + ((n / 2 ^ 10 % 2 : Nat) : Int) + ((n / 2 ^ 11 % 2 : Nat) : Int) + ((n / 2 ^ 12 % 2 : Nat) : Int) + ((n / 2 ^ 13 % 2 : Nat) : Int) + ((n / 2 ^ 14 % 2 : Nat) : Int) + ((n / 2 ^ 15 % 2 : Nat) : Int) + ((n / 2 ^ 16 % 2 : Nat) : Int) + ((n / 2 ^ 17 % 2 : Nat) : Int) + ((n / 2 ^ 18 % 2 : Nat) : Int) + ((n / 2 ^ 19 % 2 : Nat) : Int) + ((n / 2 ^ 20 % 2 : Nat) : Int) + ((n / 2 ^ 21 % 2 : Nat) : Int) + ((n / 2 ^ 22 % 2 : Nat) : Int) + ((n / 2 ^ 23 % 2 : Nat) : Int)
  simp only [Nat.reducePow, Int.zero_add]
theorem fo_popS {v : Int} {M : ax_M} (hv : ax_r32 v) (h : ∀ i, 24 ≤ i → i < 32 → fo_bit v i = false) : f_J_bitCount v M = fo_sg (fo_id (fo_bit v)) 24 := by
  obtain ⟨n, hn, e, hb⟩ := fo_mask hv h
  rw [← fo_sg_congr 24 hb, e, ← pb_9]
  have hp := fo_pop (a := n % 256) (b := n / 256 % 256) (c := n / 65536 % 256) (M := M) (by omega) (by omega) (by omega)
  have e2 : ((n % 256 + 256 * (n / 256 % 256 + 256 * (n / 65536 % 256)) : Nat) : Int) = (n : Int) := by omega
  rw [e2] at hp
  rw [hp, pb_8 n, pb_8 (n / 256), pb_8 (n / 65536)]
  simp only [Nat.div_div_eq_div_mul, Nat.reduceMul]

  generalize n / 1 % 2 = t0
  generalize n / 2 % 2 = t1
  generalize n / 4 % 2 = t2
  generalize n / 8 % 2 = t3
  generalize n / 16 % 2 = t4
  generalize n / 32 % 2 = t5
  generalize n / 64 % 2 = t6
  generalize n / 128 % 2 = t7
  generalize n / 256 % 2 = t8
  generalize n / 512 % 2 = t9
  generalize n / 1024 % 2 = t10
  generalize n / 2048 % 2 = t11
  generalize n / 4096 % 2 = t12
  generalize n / 8192 % 2 = t13
  generalize n / 16384 % 2 = t14
  generalize n / 32768 % 2 = t15
  generalize n / 65536 % 2 = t16
  generalize n / 131072 % 2 = t17
  generalize n / 262144 % 2 = t18
  generalize n / 524288 % 2 = t19
  generalize n / 1048576 % 2 = t20
  generalize n / 2097152 % 2 = t21
  generalize n / 4194304 % 2 = t22
  generalize n / 8388608 % 2 = t23
  omega
section FOT
variable {b : Nat} {M : ax_M}
theorem fc_writtenLeaves (hP : fo_Pg (fo_cr b M)) : f_X0_writtenLeaves b M = fo_sg (fo_id (fun l => decide (fo_cr b M l ≠ 0))) 64 := by
  have h : f_X0_writtenLeaves b M = fo_fold (fo_cs (fun l => decide (fo_cr b M l ≠ 0))) 64 0 0 := by
    refine fo_loop (L := fun n i v => f_X0_writtenLeaves_L4 b M n i v (fun z => z)) (out := fun z => z) (N := 64) (fun _ _ => True) (fun _ _ => rfl) (fun n i v hi _ => ⟨?_, trivial⟩) 64 0 0 (by omega) trivial
    have e : fo_cr b M i = M (b + 1) i + 1 := fo_dPg (by omega)
    simp only [f_X0_writtenLeaves_L4, f_X0_writtenLeaves_B4, fo_cs, decide_eq_true_eq]
    rw [e]
    by_cases hx : M (b + 1) i = -1
    · rw [if_pos hx, if_neg (by omega), Int.add_zero]
    · rw [if_neg hx, if_pos (by omega)]
  rw [h]
  have g := fo_cs_sg (c := fun l => decide (fo_cr b M l ≠ 0)) 64 0 0
  have g0 : fo_sg (fo_id (fun l => decide (fo_cr b M l ≠ 0))) 0 = 0 := rfl
  rw [g0, Int.add_zero, Int.zero_add] at g
  exact g
theorem fc_writtenPages (hP : fo_Pg (fo_cr b M)) : f_X0_writtenPages b M = fo_sg (fo_id (fun p => decide (0 ≤ fo_lat (fo_cr b M) (p : Int)))) 24 := by
  have h : f_X0_writtenPages b M = f_J_bitCount (fo_fold (fo_oq (fun l => decide (fo_cr b M l ≠ 0)) (fun l => (fo_cr b M l - 1).toNat)) 64 0 0) M := by
    refine fo_loop (L := fun n i v => f_X0_writtenPages_L4 b M n i v (fun z => f_J_bitCount z M)) (out := fun z => f_J_bitCount z M) (N := 64) (fun _ _ => True) (fun _ _ => rfl) (fun n i v hi _ => ⟨?_, trivial⟩) 64 0 0 (by omega) trivial
    have e : fo_cr b M i = M (b + 1) i + 1 := fo_dPg (by omega)
    have hp := hP i (by omega)
    simp only [f_X0_writtenPages_L4, f_X0_writtenPages_B4, fo_oq, decide_eq_true_eq, ax_bd]
    by_cases hx : M (b + 1) i = -1
    · rw [if_pos hx, if_neg (by omega)]
    · rw [if_neg hx, if_pos (by omega), show (((fo_cr b M i - 1).toNat : Nat) : Int) = M (b + 1) i by omega]
  rw [h]
  have hbit : ∀ f, f < 32 → (fo_bit (fo_fold (fo_oq (fun l => decide (fo_cr b M l ≠ 0)) (fun l => (fo_cr b M l - 1).toNat)) 64 0 0) f = true ↔ ∃ l, l < 64 ∧ fo_cr b M l = (f : Int) + 1) := by
    intro f hf
    rw [fo_oq_bit hf 64 0 0 (fun j _ hj _ => by have := hP j (by omega); omega)]
    constructor
    · rintro (h | ⟨j, _, hj, h1, h2⟩)
      · rw [fo_bit_0] at h; cases h
      · have := hP j (by omega)
        rw [decide_eq_true_eq] at h1
        exact ⟨j, by omega, by omega⟩
    · rintro ⟨l, hl, e⟩
      exact Or.inr ⟨l, by omega, by omega, by rw [decide_eq_true_eq]; omega, by omega⟩
  have hr : ax_r32 (fo_fold (fo_oq (fun l => decide (fo_cr b M l ≠ 0)) (fun l => (fo_cr b M l - 1).toNat)) 64 0 0) := by
    have : ∀ n i v, ax_r32 v → ax_r32 (fo_fold (fo_oq (fun l => decide (fo_cr b M l ≠ 0)) (fun l => (fo_cr b M l - 1).toNat)) n i v) := by
      intro n
      induction n with
      | zero => intro i v hv; rw [fo_fold_z]; exact hv
      | succ n ih => intro i v _; rw [fo_fold_s]; exact ih _ _ (fo_or_r _ _)
    exact this 64 0 0 ⟨by decide, by decide⟩
  generalize fo_fold (fo_oq (fun l => decide (fo_cr b M l ≠ 0)) (fun l => (fo_cr b M l - 1).toNat)) 64 0 0 = v at hbit hr ⊢
  rw [fo_popS hr (fun i h1 h2 => by
    rw [← Bool.not_eq_true, hbit i h2]
    rintro ⟨l, hl, e⟩
    have := hP l hl
    omega)]
  refine fo_sg_congr 24 (fun p hp => ?_)
  unfold fo_id
  have e : fo_bit v p = true ↔ decide (0 ≤ fo_lat (fo_cr b M) (p : Int)) = true := by
    rw [hbit p (by omega), decide_eq_true_eq]
    rcases fo_lat_spec (fo_cr b M) (p : Int) with ⟨e, g⟩ | ⟨l, e, hl, g, _⟩
    · constructor
      · rintro ⟨l, hl, el⟩
        exact absurd el (g l hl)
      · intro h; omega
    · exact ⟨fun _ => by omega, fun _ => ⟨l, hl, g⟩⟩
  by_cases hx : fo_bit v p = true
  · rw [if_pos hx, if_pos (e.mp hx)]
  · rw [if_neg hx, if_neg (fun h => hx (e.mpr h))]
theorem fo_sg_r {f : Nat → Int} (h : ∀ i, 0 ≤ f i ∧ f i ≤ 1) : ∀ n : Nat, 0 ≤ fo_sg f n ∧ fo_sg f n ≤ (n : Int) := by
  intro n
  induction n with
  | zero => exact ⟨Int.le_refl _, Int.le_refl _⟩
  | succ n ih =>
    have := h n
    show 0 ≤ fo_sg f n + f n ∧ fo_sg f n + f n ≤ ((n + 1 : Nat) : Int)
    omega
theorem fo_id_r {c : Nat → Bool} (i : Nat) : 0 ≤ fo_id c i ∧ fo_id c i ≤ 1 := by
  unfold fo_id
  split <;> omega
theorem fc_staleNow (hP : fo_Pg (fo_cr b M)) : ax_wr (f_X0_writtenLeaves b M - f_X0_writtenPages b M) = fo_stale (fo_cr b M) := by
  have h1 := fc_writtenLeaves hP
  have h2 := fc_writtenPages hP
  have h3 := fo_isL_pages hP
  have h4 := fo_stale_sum hP
  have r1 := fo_sg_r (f := fo_id (fun l => decide (fo_cr b M l ≠ 0))) fo_id_r 64
  have r2 := fo_sg_r (f := fo_id (fun p => decide (0 ≤ fo_lat (fo_cr b M) (p : Int)))) fo_id_r 24
  rw [h1, h2]
  rw [h3] at h4
  rw [ax_wr_id (by omega) (by omega)]
  omega
/-- the things -/
theorem fc_things {B : Int} (hW : fo_WI B (fo_cr b M)) : ∀ i, i < 6 → (f_X0_thingsNow b M) (b + 11) i = fo_things (fo_cr b M) i := by
  have k : ∀ (N : ax_M), (∀ s, s ≠ b + 11 → N s = M s) → fo_cr b N = fo_cr b M := fun N h => fo_cr_eqM (fun s h1 h2 => h s (by omega))
  have u : ∀ (N : ax_M) (i : Nat) (v : Int), (∀ s, s ≠ b + 11 → N s = M s) → ∀ s, s ≠ b + 11 → ax_up N (b + 11) i v s = M s := fun N i v h s hs => by rw [ax_up_ne hs, h s hs]
  unfold f_X0_thingsNow
  simp only [ax_bd]
  have q1 := u M 0 (f_X0_wear b M) (fun _ _ => rfl)
  generalize hM1 : ax_up M (b + 11) 0 (f_X0_wear b M) = M1 at q1 ⊢
  rw [fc_howMany, k M1 q1]
  have q2 := u M1 1 (fo_many (fo_cr b M) 0) q1
  generalize hM2 : ax_up M1 (b + 11) 1 (fo_many (fo_cr b M) 0) = M2 at q2 ⊢
  rw [q2 (b + 9) (by omega)]
  have q3 := u M2 2 (ax_rem (M (b + 9) 1) 10) q2
  generalize hM3 : ax_up M2 (b + 11) 2 (ax_rem (M (b + 9) 1) 10) = M3 at q3 ⊢
  rw [q3 (b + 9) (by omega)]
  have q4 := u M3 3 (ax_rem (M (b + 9) 2) 10) q3
  generalize hM4 : ax_up M3 (b + 11) 3 (ax_rem (M (b + 9) 2) 10) = M4 at q4 ⊢
  rw [fc_howMany, fc_howMany, k M4 q4]
  have q5 := u M4 4 (fo_many (fo_cr b M) 3 + fo_many (fo_cr b M) 4) q4
  generalize hM5 : ax_up M4 (b + 11) 4 (fo_many (fo_cr b M) 3 + fo_many (fo_cr b M) 4) = M5 at q5 ⊢
  rw [fc_staleNow (M := M5) (by rw [k M5 q5]; exact hW.pg), k M5 q5]
  have c1 : fo_cr b M 264 = M (b + 9) 1 := fo_dCt (k := 1) (by omega) (by omega)
  have c2 : fo_cr b M 265 = M (b + 9) 2 := fo_dCt (k := 2) (by omega) (by omega)
  have d1 := hW.ct 264 (by omega) (by omega)
  have d2 := hW.ct 265 (by omega) (by omega)
  intro i hi
  rw [← hM5, ← hM4, ← hM3, ← hM2, ← hM1, fc_wear hW.wi]
  have er : ∀ x : Int, 0 ≤ x → ax_rem x 10 = x % 10 := fun x hx => Int.tmod_eq_emod_of_nonneg hx
  rw [er _ (by omega), er _ (by omega), ← c1, ← c2]
  simp only [fo_up_at, fo_u, fo_things]
  rcases (by omega : i = 0 ∨ i = 1 ∨ i = 2 ∨ i = 3 ∨ i = 4 ∨ i = 5) with e | e | e | e | e | e <;> subst e <;> rfl
end FOT
