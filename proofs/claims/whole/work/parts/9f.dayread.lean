/-! ===== a day's text, read by both ===== -/
section DYR
variable {M X Nm : ax_M}
def dp_sz (c : Int) : Nat := if c = 99 then 2 else if c = 104 then 1 else if c = 108 then 1 else if c = 109 then 2 else if c = 113 then 1 else if c = 119 then 5 else 0
theorem dp_sz_eq {c : Int} : f_X2_actSize c M = (dp_sz c : Int) := by
  unfold f_X2_actSize dp_sz
  repeat' split
  all_goals rfl
theorem dw_0 {w v2 : Int} {k p : Nat} {kx : Int → Int} (hp : p < 80) : f_X2_wrongInDay_L8 w X (k + 1) (p : Int) v2 0 kx = if 1 ≤ dp_sz (X 34 p) then f_X2_wrongInDay_L8 w X k ((p + 1 : Nat) : Int) (X 34 p) ((dp_sz (X 34 p) : Int) - 1) kx else (p : Int) := by
  rw [f_X2_wrongInDay_L8, f_X2_wrongInDay_B8, if_neg (by omega)]
  simp only [ax_bd]
  rw [fo_t0, dp_sz_eq, if_pos (by decide)]
  by_cases h : 1 ≤ dp_sz (X 34 p)
  · rw [if_pos h, if_pos (by omega)]
    rfl
  · rw [if_neg h, if_neg (by omega)]
theorem dw_1 {w v2 v3 : Int} {k p : Nat} {kx : Int → Int} (hp : p < 80) (h3 : 0 < v3) : f_X2_wrongInDay_L8 w X (k + 1) (p : Int) v2 v3 kx = if 48 ≤ X 34 p ∧ X 34 p ≤ (if v2 = 99 then 49 else 57) then f_X2_wrongInDay_L8 w X k ((p + 1 : Nat) : Int) v2 (v3 - 1) kx else (p : Int) := by
  rw [f_X2_wrongInDay_L8, f_X2_wrongInDay_B8, if_neg (by omega)]
  simp only [ax_bd]
  rw [fo_t0, if_neg (by omega)]
  by_cases h9 : v2 = 99
  · rw [if_neg (fun h => h h9), if_pos h9]
    by_cases h1 : X 34 p < 48
    · rw [if_pos h1, if_neg (by omega)]
    · rw [if_neg h1]
      by_cases h2 : X 34 p ≤ 49
      · rw [if_pos h2, if_pos ⟨by omega, h2⟩]; rfl
      · rw [if_neg h2, if_neg (by omega)]
  · rw [if_pos h9, if_neg h9]
    by_cases h1 : X 34 p < 48
    · rw [if_pos h1, if_neg (by omega)]
    · rw [if_neg h1]
      by_cases h2 : X 34 p ≤ 57
      · rw [if_pos h2, if_pos ⟨by omega, h2⟩]; rfl
      · rw [if_neg h2, if_neg (by omega)]
theorem dw_z {w v2 v3 p : Int} {kx : Int → Int} : f_X2_wrongInDay_L8 w X 0 p v2 v3 kx = kx v3 := rfl
theorem dn_dig {p n : Nat} (hat : M 0 5 = (p : Int)) (hto : M 0 6 = (n : Int)) : f_X3_isDigit M = if p < n ∧ 48 ≤ M 2 p ∧ M 2 p ≤ 57 then 1 else 0 := by
  unfold f_X3_isDigit
  rw [hat, hto, fo_t0, fm_inE]
  by_cases h : p < n
  · rw [if_neg (by omega)]
    by_cases h2 : 48 ≤ M 2 p ∧ M 2 p ≤ 57
    · rw [if_pos h2, if_neg (show ¬ (1 : Int) = 0 by decide), if_pos ⟨h, h2⟩]
    · rw [if_neg h2, if_pos rfl, if_neg (fun h3 => h2 h3.2)]
  · rw [if_pos (by omega), if_neg (fun h3 => h h3.1)]
theorem dn_num {p n : Nat} (hat : M 0 5 = (p : Int)) (hto : M 0 6 = (n : Int)) (hn : n ≤ 80) : (f_X3_number 1 M).1 ∧ (f_X3_number 1 M).2 = if p < n ∧ 48 ≤ M 2 p ∧ M 2 p ≤ 57 then (M 2 p - 48, ax_up M 0 5 ((p + 1 : Nat) : Int)) else (-1, M) := by
  unfold f_X3_number
  rw [dn_dig hat hto]
  by_cases h : p < n ∧ 48 ≤ M 2 p ∧ M 2 p ≤ 57
  · rw [if_pos h, if_pos (by decide), if_pos h]
    show (f_X3_number_L13 1 1 0 0 M _).1 ∧ (f_X3_number_L13 1 1 0 0 M _).2 = _
    rw [f_X3_number_L13, f_X3_number_B13, dn_dig hat hto, if_pos h, if_neg (by decide), hat, fo_t0]
    simp only [ax_bd]
    unfold ax_rq
    rw [show (10 : Int) * 0 = 0 from rfl, ax_wr_id (x := 0) (by decide) (by decide), Int.zero_add (M 2 p), ax_wr_id (x := M 2 p) (by omega) (by omega), ax_wr_id (x := M 2 p - 48) (by omega) (by omega)]
    exact ⟨⟨by omega, by omega, trivial⟩, rfl⟩
  · rw [if_neg h, if_neg (fun h => h rfl), if_neg h]
    exact ⟨trivial, rfl⟩
theorem dn_two {p n : Nat} (hat : M 0 5 = (p : Int)) (hto : M 0 6 = (n : Int)) (hn : n ≤ 80) : (f_X3_two M).1 ∧ (f_X3_two M).2 = if p < n ∧ 48 ≤ M 2 p ∧ M 2 p ≤ 57 then (if p + 1 < n ∧ 48 ≤ M 2 (p + 1) ∧ M 2 (p + 1) ≤ 57 then (10 * (M 2 p - 48) + (M 2 (p + 1) - 48), ax_up (ax_up M 0 5 ((p + 1 : Nat) : Int)) 0 5 ((p + 1 + 1 : Nat) : Int)) else (-1, ax_up M 0 5 ((p + 1 : Nat) : Int))) else (-1, M) := by
  obtain ⟨a1, a2⟩ := dn_num hat hto hn
  unfold f_X3_two ax_rc
  generalize f_X3_number 1 M = A at a1 a2 ⊢
  by_cases h : p < n ∧ 48 ≤ M 2 p ∧ M 2 p ≤ 57
  · rw [if_pos h] at a2 ⊢
    rw [a2]
    dsimp only
    rw [if_pos (show 0 ≤ M 2 p - 48 by omega)]
    have hat2 : ax_up M 0 5 ((p + 1 : Nat) : Int) 0 5 = ((p + 1 : Nat) : Int) := by rw [fo_up_at, fo_u_s]
    have hto2 : ax_up M 0 5 ((p + 1 : Nat) : Int) 0 6 = (n : Int) := by rw [fo_up_at, fo_u_o (by decide), hto]
    have e2 : ax_up M 0 5 ((p + 1 : Nat) : Int) 2 = M 2 := ax_up_ne (by decide)
    obtain ⟨b1, b2⟩ := dn_num hat2 hto2 hn
    rw [e2] at b2
    generalize f_X3_number 1 (ax_up M 0 5 ((p + 1 : Nat) : Int)) = B at b1 b2 ⊢
    by_cases h2 : p + 1 < n ∧ 48 ≤ M 2 (p + 1) ∧ M 2 (p + 1) ≤ 57
    · rw [if_pos h2] at b2 ⊢
      rw [b2]
      dsimp only
      rw [if_pos (show 0 ≤ M 2 (p + 1) - 48 by omega), ax_wr_id (x := 10 * (M 2 p - 48)) (by omega) (by omega), ax_wr_id (by omega) (by omega)]
      exact ⟨⟨a1, b1, trivial⟩, rfl⟩
    · rw [if_neg h2] at b2 ⊢
      rw [b2]
      dsimp only
      rw [if_neg (by decide)]
      exact ⟨⟨a1, b1, trivial⟩, rfl⟩
  · rw [if_neg h] at a2 ⊢
    rw [a2]
    dsimp only
    rw [if_neg (by decide)]
    exact ⟨⟨a1, trivial⟩, rfl⟩
theorem dn_of4 {p n : Nat} (hat : M 0 5 = (p : Int)) (hto : M 0 6 = (n : Int)) (hp : p < n) : (f_X3_takesOf 4 M).1 ∧ (f_X3_takesOf 4 M).2 = if M 2 p = 113 then (0, ax_up M 0 5 ((p + 1 : Nat) : Int)) else if M 2 p = 108 then (1, ax_up M 0 5 ((p + 1 : Nat) : Int)) else if M 2 p = 104 then (2, ax_up M 0 5 ((p + 1 : Nat) : Int)) else if M 2 p = 109 then (3, ax_up M 0 5 ((p + 1 : Nat) : Int)) else if M 2 p = 99 then (4, ax_up M 0 5 ((p + 1 : Nat) : Int)) else if M 2 p = 119 then (5, ax_up M 0 5 ((p + 1 : Nat) : Int)) else (-1, M) := by
  refine ⟨by show (4 : Nat) < 6; decide, ?_⟩
  show f_X3_takesOf_N 4 M 6 0 = _
  have hn : ¬ M 0 6 ≤ M 0 5 := by rw [hat, hto]; omega
  have e : M 0 5 + 1 = ((p + 1 : Nat) : Int) := by rw [hat]; omega
  have et : (M 0 5).toNat = p := by rw [hat, fo_t0]
  simp only [f_X3_takesOf_N, if_neg hn, e, et]
  have g0 : ax_sg 4 0 = 113 := by decide
  have g1 : ax_sg 4 (0 + 1) = 108 := by decide
  have g2 : ax_sg 4 (0 + 1 + 1) = 104 := by decide
  have g3 : ax_sg 4 (0 + 1 + 1 + 1) = 109 := by decide
  have g4 : ax_sg 4 (0 + 1 + 1 + 1 + 1) = 99 := by decide
  have g5 : ax_sg 4 (0 + 1 + 1 + 1 + 1 + 1) = 119 := by decide
  rw [g0, g1, g2, g3, g4, g5]
  simp only [eq_comm (a := (113 : Int)), eq_comm (a := (108 : Int)), eq_comm (a := (104 : Int)), eq_comm (a := (109 : Int)), eq_comm (a := (99 : Int)), eq_comm (a := (119 : Int))]
  rfl
theorem dn_of5 {p n : Nat} (hat : M 0 5 = (p : Int)) (hto : M 0 6 = (n : Int)) : (f_X3_takesOf 5 M).1 ∧ (f_X3_takesOf 5 M).2 = if p < n ∧ 48 ≤ M 2 p ∧ M 2 p ≤ 49 then (M 2 p - 48, ax_up M 0 5 ((p + 1 : Nat) : Int)) else (-1, M) := by
  refine ⟨by show (5 : Nat) < 6; decide, ?_⟩
  show f_X3_takesOf_N 5 M 2 0 = _
  have e : M 0 5 + 1 = ((p + 1 : Nat) : Int) := by rw [hat]; omega
  have et : (M 0 5).toNat = p := by rw [hat, fo_t0]
  by_cases hp : p < n
  · have hn : ¬ M 0 6 ≤ M 0 5 := by rw [hat, hto]; omega
    simp only [f_X3_takesOf_N, if_neg hn, e, et]
    have g0 : ax_sg 5 0 = 48 := by decide
    have g1 : ax_sg 5 (0 + 1) = 49 := by decide
    rw [g0, g1]
    by_cases h0 : M 2 p = 48
    · rw [if_pos h0.symm, if_pos ⟨hp, by omega, by omega⟩, h0]; rfl
    · rw [if_neg (fun h => h0 h.symm)]
      by_cases h1 : M 2 p = 49
      · rw [if_pos h1.symm, if_pos ⟨hp, by omega, by omega⟩, h1]; rfl
      · rw [if_neg (fun h => h1 h.symm), if_neg (by omega)]
  · have hn : M 0 6 ≤ M 0 5 := by rw [hat, hto]; omega
    rw [f_X3_takesOf_N, if_pos hn, if_neg (by omega)]
end DYR
