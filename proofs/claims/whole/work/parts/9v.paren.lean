/-! ===== a thing in parentheses ===== -/
section PAR
variable {a n p d : Nat} {Y Mc : ax_M} {cs o s : List Int} {cm dg : Int}
theorem bd_none {c : Int} (hc : 0 ≤ c ∧ c ≤ 255) (h0 : op_of 0 c < 0) (h1 : op_of 1 c < 0) (h2 : op_of 2 c < 0) : bd_of c = 0 := by
  obtain ⟨m, rfl⟩ : ∃ m : Nat, c = (m : Int) := ⟨c.toNat, by omega⟩
  have : ∀ m, m < 256 → op_of 0 (m : Nat) < 0 → op_of 1 (m : Nat) < 0 → op_of 2 (m : Nat) < 0 → bd_of (m : Nat) = 0 := by decide +kernel
  exact this m (by omega) h0 h1 h2
theorem bd_cmp {c : Int} (hc : 0 ≤ c ∧ c ≤ 255) (h0 : 0 ≤ op_of 0 c) : bd_of c = 1 ∧ ¬ (48 ≤ c ∧ c ≤ 57) ∧ c ≠ 41 := by
  obtain ⟨m, rfl⟩ : ∃ m : Nat, c = (m : Int) := ⟨c.toNat, by omega⟩
  have : ∀ m, m < 256 → 0 ≤ op_of 0 (m : Nat) → bd_of (m : Nat) = 1 ∧ ¬ (48 ≤ (m : Int) ∧ (m : Int) ≤ 57) ∧ (m : Int) ≠ 41 := by decide +kernel
  exact this m (by omega) h0
/-- behind a whole expression of rank 0, a sign that doesn't close: the class cannot go on -/
theorem sm_after {q : Nat} {N : ax_M} {o' t : List Int} {dg' cm' : Int} {d' : Nat} {c : Int} (hT : cl_T a o' t 0 (d' : Int) dg' cm' N) (hc : 0 ≤ c ∧ c ≤ 255) (h41 : c = 41 → d' = 0) (hdg : 48 ≤ c → c ≤ 57 → dg' = 0 ∨ 3 ≤ dg') (h1 : op_of 1 c < 0) (h2 : op_of 2 c < 0) (h0 : 0 ≤ op_of 0 c → ru_bit cm' d' ≠ 0) : cl_0 a (f_X1_goesOnBy (a : Int) c N) N := by
  by_cases hd : 48 ≤ c ∧ c ≤ 57
  · exact cl_0d hT hd (hdg hd.1 hd.2)
  · by_cases e : c = 41
    · have := h41 e
      subst this
      rw [e]
      exact go_close_n hT (by decide)
    · by_cases h3 : 0 ≤ op_of 0 c
      · exact go_op1_n hT hd e (bd_cmp hc h3).1 (h0 h3)
      · exact go_none hT hd e (bd_none hc (by omega) h1 h2)
end PAR
