/-! ===== where no thing stands, both stop ===== -/
section STP
variable {a n p d : Nat} {Y Mc : ax_M} {cs o s : List Int} {cm dg : Int} {R : Prop × Int × ax_M}
theorem sm_stop (h : sm_I a n p d cs o s dg cm Y Mc) (h0 : p < n → Y 2 p ≠ 45 ∧ ¬ (48 ≤ Y 2 p ∧ Y 2 p ≤ 57) ∧ it_of (Y 2 p) < 0 ∧ (Y 2 p = 40 → d = 4)) (h1 : R.1) (h2 : R.2 = (0, Y)) : sm_no a n p cs Y Mc R := by
  obtain ⟨h5, h6, h7, hS, hT, hp, hn, hd, hc, hz, hl, hb⟩ := h
  obtain ⟨R1, R2, R3⟩ := R
  cases h2
  refine sm_no_0 h1 rfl ml_F.rf h5 hp (fun hlt => ?_) (fun _ => Or.inl (by rw [hT.2.1]; decide)) hS.1
  obtain ⟨q1, q2, q3, q4⟩ := h0 hlt
  by_cases e : Y 2 p = 40
  · have e4 := q4 e
    rw [e]
    exact go_open_n hT (by omega)
  · exact go_thing_n hT q1 e q2 q3
end STP
