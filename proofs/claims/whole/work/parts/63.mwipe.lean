/-! ===== the model's wipe ===== -/
section FOMW
variable {a n0 : Nat} {M0 M : ax_M} {σ : fo_S}
def fo_rho (c : Nat) (r : fo_R) (j : Nat) : Int := if 3 ≤ r (192 + c) ∧ r (j - 16) = r (192 + c) ∧ r (208 + c) < r j then r j - 1 else r j
def fo_Ri (c : Nat) (r : fo_R) (i : Nat) : fo_R := fun j => if 208 ≤ j ∧ j < 208 + i then fo_rho c r j else r j
theorem fo_Ri_s {c i : Nat} {r : fo_R} : fo_u (fo_Ri c r i) (208 + i) (fo_rho c r (208 + i)) = fo_Ri c r (i + 1) := by
  funext j
  rw [fo_u_eq]
  unfold fo_Ri
  by_cases h : j = 208 + i
  · rw [if_pos h, if_pos ⟨by omega, by omega⟩, h]
  · rw [if_neg h]
    by_cases h2 : 208 ≤ j ∧ j < 208 + i
    · rw [if_pos h2, if_pos ⟨h2.1, by omega⟩]
    · rw [if_neg h2, if_neg (fun h3 => h2 ⟨h3.1, by omega⟩)]
theorem fo_rho_c {c : Nat} {r : fo_R} : fo_rho c r (208 + c) = r (208 + c) := by
  unfold fo_rho
  rw [if_neg (fun h => absurd h.2.2 (Int.lt_irrefl _))]
theorem fo_rho_r {c i : Nat} {r : fo_R} (hO : fo_Ow r) (hc : c < 16) (hi : i < 16) : 0 ≤ fo_rho c r (208 + i) ∧ fo_rho c r (208 + i) ≤ 6 := by
  have h1 := hO c hc
  have h2 := hO i hi
  unfold fo_rho
  split <;> omega
theorem fm_ren (ha : fo_Na a) {c : Nat} {r : fo_R} {t : List fo_T} (kx : ax_M → ax_M) (hc : c < 16) (hO : fo_Ow r) : ∀ (n i : Nat) (M : ax_M), i + n = 16 → fo_MR a n0 M0 M (fo_Ri c r i, t) → ∃ N, f_X3_wipes_L2 a (c : Int) n i M kx = kx N ∧ fo_MR a n0 M0 N (fo_Ri c r 16, t) := by
  intro n
  induction n with
  | zero =>
    intro i M hi h
    have : i = 16 := by omega
    subst this
    exact ⟨M, rfl, h⟩
  | succ n ih =>
    intro i M hi h
    have e0 : M a = fo_Ri c r i := h.1
    have ec : M a (192 + c) = r (192 + c) := by rw [e0]; unfold fo_Ri; rw [if_neg (by omega)]
    have ei : M a (192 + i) = r (192 + i) := by rw [e0]; unfold fo_Ri; rw [if_neg (by omega)]
    have eo : M a (208 + i) = r (208 + i) := by rw [e0]; unfold fo_Ri; rw [if_neg (by omega)]
    have eoc : M a (208 + c) = r (208 + c) := by
      rw [e0]
      unfold fo_Ri
      split
      · exact fo_rho_c
      · rfl
    have f0 : f_X3_flag 0 M = 0 := rfl
    have f1 : f_X3_flag 1 M = 1 := rfl
    have hoi := hO i (by omega)
    have e16 : 208 + i - 16 = 192 + i := by omega
    have hstep : ∀ N, N = ax_up M a (208 + i) (fo_rho c r (208 + i)) → ∃ N', f_X3_wipes_L2 a (c : Int) n (i + 1) N kx = kx N' ∧ fo_MR a n0 M0 N' (fo_Ri c r 16, t) := by
      intro N hN
      refine ih (i + 1) N (by omega) ?_
      have := fo_MR_up ha (208 + i) (fo_rho c r (208 + i)) h
      rw [← hN] at this
      rw [← fo_Ri_s]
      exact this
    have hno : ∀ q : ¬ (3 ≤ r (192 + c) ∧ r (192 + i) = r (192 + c) ∧ r (208 + c) < r (208 + i)), fo_rho c r (208 + i) = r (208 + i) := fun q => by
      unfold fo_rho
      rw [e16, if_neg q]
    simp only [f_X3_wipes_L2, f_X3_wipes_B2, ax_bd]
    rw [fo_t192, fo_t192, fo_t208, fo_t208, ec, ei, eo, eoc, f0, f1, Int.sub_zero, ax_wr_id (by omega) (by omega), ax_wr_id (by omega) (by omega)]
    by_cases h1 : r (192 + c) < 3
    · rw [if_pos h1]
      exact hstep _ (by rw [hno (by omega)])
    · rw [if_neg h1]
      by_cases h2 : r (192 + i) = r (192 + c)
      · rw [if_neg (fun h => h h2)]
        by_cases h3 : r (208 + i) ≤ r (208 + c)
        · rw [if_pos h3]
          exact hstep _ (by rw [hno (by omega)])
        · rw [if_neg h3]
          refine hstep _ ?_
          unfold fo_rho
          rw [e16, if_pos ⟨by omega, h2, by omega⟩]
      · rw [if_pos h2]
        exact hstep _ (by rw [hno (fun h => h2 h.2.1)])
/-- leaves emptied -/
def fo_emp (c : Nat) (r : fo_R) : fo_R := fun j => if j < 192 ∧ j % 64 / 4 = c then 0 else r j
theorem fm_empties (ha : fo_Na a) {c : Nat} (hc : c < 16) (h : fo_MR a n0 M0 M σ) : fo_MR a n0 M0 (f_X3_emptiesBlock a (c : Int) M) (fo_emp c σ.1, σ.2) := by
  have st : ∀ (i : Nat) (N : ax_M) (τ : fo_S), i < 4 → fo_MR a n0 M0 N τ → fo_MR a n0 M0 (ax_up (ax_up (ax_up N a (4 * c + i) 0) a (64 + (4 * c + i)) 0) a (128 + (4 * c + i)) 0) (fo_u (fo_u (fo_u τ.1 (4 * c + i) 0) (64 + (4 * c + i)) 0) (128 + (4 * c + i)) 0, τ.2) := fun i N τ hi g => fo_MR_up ha _ _ (fo_MR_up ha _ _ (fo_MR_up ha _ _ g))
  unfold f_X3_emptiesBlock
  simp only [f_X3_emptiesBlock_L2, f_X3_emptiesBlock_B2, ax_bd]
  have e1 : ∀ i : Nat, ((4 : Int) * (c : Int) + (i : Int)).toNat = 4 * c + i := fun i => by omega
  have e2 : ∀ i : Nat, ((64 : Int) + ((4 : Int) * (c : Int) + (i : Int))).toNat = 64 + (4 * c + i) := fun i => by omega
  have e3 : ∀ i : Nat, ((128 : Int) + ((4 : Int) * (c : Int) + (i : Int))).toNat = 128 + (4 * c + i) := fun i => by omega
  have z1 := st 0 M σ (by omega) h
  have z2 := st 1 _ _ (by omega) z1
  have z3 := st 2 _ _ (by omega) z2
  have z4 := st 3 _ _ (by omega) z3
  rw [e1 0, e2 0, e3 0, e1 (0 + 1), e2 (0 + 1), e3 (0 + 1), e1 (0 + 1 + 1), e2 (0 + 1 + 1), e3 (0 + 1 + 1), e1 (0 + 1 + 1 + 1), e2 (0 + 1 + 1 + 1), e3 (0 + 1 + 1 + 1)]
  refine Eq.mp (congrArg (fun r => fo_MR a n0 M0 _ (r, σ.2)) ?_) z4
  funext j
  unfold fo_emp
  simp only [fo_u_eq]
  by_cases hj : j < 192 ∧ j % 64 / 4 = c
  · rw [if_pos hj]
    have : ∃ k, k < 4 ∧ (j = 4 * c + k ∨ j = 64 + (4 * c + k) ∨ j = 128 + (4 * c + k)) := ⟨j % 4, by omega, by omega⟩
    obtain ⟨k, hk, hjk⟩ := this
    rcases (by omega : k = 0 ∨ k = 1 ∨ k = 2 ∨ k = 3) with e | e | e | e <;> subst e <;> rcases hjk with e | e | e <;> subst e <;> simp
  · rw [if_neg hj]
    repeat rw [if_neg (by omega)]
theorem fm_wipes (ha : fo_Na a) {c : Nat} (hc : c < 16) (hO : fo_Ow σ.1) (hw : fo_Wi σ.1) (hct : 0 ≤ σ.1 266 ∧ σ.1 266 ≤ 99999) (h : fo_MR a n0 M0 M σ) : fo_MR a n0 M0 (f_X3_wipes a (c : Int) M) (fo_wipe c σ) := by
  have hwc := hw c hc
  have er : fo_Ri c σ.1 0 = σ.1 := by
    funext j
    unfold fo_Ri
    rw [if_neg (by omega)]
  unfold f_X3_wipes
  obtain ⟨N, eN, g⟩ := fm_ren (M0 := M0) ha (r := σ.1) (t := σ.2) (fun M12 => ax_bd (f_X3_emptiesBlock a (c : Int) M12) (fun M13 => ax_bd (ax_up M13 a (192 + (c : Int)).toNat 0) (fun M14 => ax_bd (ax_up M14 a (208 + (c : Int)).toNat 0) (fun M15 => ax_bd (ax_up M15 a (224 + (c : Int)).toNat (if (ax_wr ((M15 a (224 + (c : Int)).toNat) + 1)) < 999 then (ax_wr ((M15 a (224 + (c : Int)).toNat) + 1)) else 999)) (fun M16 => ax_bd (f_X3_counts a 266 M16) (fun M17 => ax_bd (f_X3_tellsStep (64 + (c : Int)) 0 0 0 M17) (fun M18 => M18))))))) hc hO 16 0 M rfl (by rw [er]; exact h)
  rw [eN]
  simp only [ax_bd]
  rw [fo_t192, fo_t208, fo_t224]
  have g1 := fm_empties ha hc g
  generalize f_X3_emptiesBlock a (c : Int) N = N1 at g1 ⊢
  have g2 := fo_MR_up ha (192 + c) 0 g1
  have g3 := fo_MR_up ha (208 + c) 0 g2
  have e224 : (ax_up (ax_up N1 a (192 + c) 0) a (208 + c) 0) a (224 + c) = σ.1 (224 + c) := by
    rw [g3.1]
    show fo_u (fo_u (fo_emp c (fo_Ri c σ.1 16)) (192 + c) 0) (208 + c) 0 (224 + c) = _
    rw [fo_u_o (by omega), fo_u_o (by omega)]
    unfold fo_emp fo_Ri
    rw [if_neg (by omega), if_neg (by omega)]
  rw [e224, ax_wr_id (by omega) (by omega)]
  have g4 := fo_MR_up ha (224 + c) (if σ.1 (224 + c) + 1 < 999 then σ.1 (224 + c) + 1 else 999) g3
  have erow : fo_u (fo_u (fo_u (fo_emp c (fo_Ri c σ.1 16)) (192 + c) 0) (208 + c) 0) (224 + c) (if σ.1 (224 + c) + 1 < 999 then σ.1 (224 + c) + 1 else 999) = fo_wp c σ.1 := by
    funext j
    simp only [fo_u_eq, fo_emp, fo_Ri, fo_rho, fo_wp]
    by_cases h1 : j < 192
    · rw [if_neg (by omega), if_neg (by omega), if_neg (by omega), if_pos h1]
      by_cases h2 : j % 64 / 4 = c
      · rw [if_pos ⟨h1, h2⟩, if_pos h2]
      · rw [if_neg (fun h => h2 h.2), if_neg (by omega), if_neg h2]
    · rw [if_neg h1]
      by_cases h3 : j < 208
      · rw [if_neg (by omega), if_neg (by omega), if_pos h3]
        by_cases h4 : j = 192 + c
        · rw [if_pos h4, if_pos h4]
        · rw [if_neg h4, if_neg h4, if_neg (by omega), if_neg (by omega)]
      · rw [if_neg h3]
        by_cases h5 : j < 224
        · rw [if_neg (by omega), if_pos h5]
          by_cases h4 : j = 208 + c
          · rw [if_pos h4, if_pos h4]
          · rw [if_neg h4, if_neg h4, if_neg (by omega), if_neg (by omega), if_pos (by omega)]
        · rw [if_neg h5]
          by_cases h4 : j = 224 + c
          · rw [if_pos h4, if_pos h4, h4]
            split <;> split <;> omega
          · rw [if_neg h4, if_neg h4, if_neg (by omega), if_neg (by omega), if_neg (by omega), if_neg (by omega)]
  have g5 : fo_MR a n0 M0 (ax_up (ax_up (ax_up N1 a (192 + c) 0) a (208 + c) 0) a (224 + c) (if σ.1 (224 + c) + 1 < 999 then σ.1 (224 + c) + 1 else 999)) (fo_wp c σ.1, σ.2) := by
    rw [← erow]
    exact g4
  have g6 := fm_counts (k := 266) ha (by dsimp only; rw [fo_wp_hi hc (by omega)]; exact hct) g5
  exact fm_tells ha (64 + (c : Int), 0, 0, 0) g6
end FOMW
