/-! ===== readsThing, side by side ===== -/
section THI
variable {a n : Nat}
theorem sm_thing {K : Nat} {fT : ax_M → Prop × Int × ax_M} {fR : Int → ax_M → Prop × Int × ax_M} (HT : sm_T a n K fT) (HR : sm_R a n K fR) : sm_T a n (K + 1) (f_X3_readsThing fT fR) := by
  intro p d cs o s dg cm Y Mc h hK
  have h' := h
  obtain ⟨h5, h6, h7, hS, hT, hp, hn, hd, hc, hz, hl, hb⟩ := h
  obtain ⟨t1, t2⟩ := ml_takes (c := 45) h5 h6 (by omega)
  have dj := dn_dig (M := Y) h5 h6
  obtain ⟨q1, q2⟩ := ml_of0 (M := Y) h5 h6
  obtain ⟨w1, w2⟩ := ml_takes (c := 40) h5 h6 (by omega)
  unfold f_X3_readsThing
  generalize f_X3_takes 45 Y = A at t1 t2 ⊢
  obtain ⟨A1, A2⟩ := A
  dsimp only at t1 t2
  subst t2
  by_cases c1 : p < n ∧ Y 2 p = 45
  · rw [if_pos c1]
    rcases sm_minus HT h' hK c1 with g | g
    · left
      obtain ⟨g1, g2⟩ := g
      exact ⟨⟨t1, g1⟩, g2⟩
    · right
      obtain ⟨g1, g2⟩ := g
      exact ⟨⟨t1, g1⟩, g2⟩
  · rw [if_neg c1]
    unfold ax_rc
    dsimp only
    rw [if_pos rfl, dj]
    by_cases c2 : p < n ∧ 48 ≤ Y 2 p ∧ Y 2 p ≤ 57
    · rw [if_pos c2, if_neg (show ¬ (1 : Int) = 0 by decide)]
      have g := sm_num h' c2
      unfold ax_rc at g
      obtain ⟨g1, g2⟩ := g
      exact Or.inr ⟨⟨t1, g1⟩, g2⟩
    · rw [if_neg c2, if_pos rfl]
      generalize f_X3_takesOf 0 Y = B at q1 q2 ⊢
      obtain ⟨B1, B2⟩ := B
      dsimp only at q1 q2
      subst q2
      by_cases c3 : p < n ∧ 0 ≤ it_of (Y 2 p)
      · rw [if_pos c3]
        dsimp only
        rw [if_neg (show ¬ it_of (Y 2 p) < 0 by omega)]
        have g := sm_letter h' c3
        unfold ax_rc at g
        obtain ⟨g1, g2⟩ := g
        exact Or.inr ⟨⟨t1, q1, g1⟩, g2⟩
      · rw [if_neg c3]
        dsimp only
        rw [if_pos (show (-1 : Int) < 0 by decide)]
        by_cases c4 : d = 4
        · rw [if_pos (show Y 0 7 = 4 by omega)]
          exact Or.inl (sm_stop h' (fun hlt => ⟨fun e => c1 ⟨hlt, e⟩, fun e => c2 ⟨hlt, e⟩, by have := fun e => c3 ⟨hlt, e⟩; omega, fun _ => c4⟩) ⟨t1, q1, trivial⟩ rfl)
        · rw [if_neg (show ¬ Y 0 7 = 4 by omega)]
          generalize f_X3_takes 40 Y = W at w1 w2 ⊢
          obtain ⟨W1, W2⟩ := W
          dsimp only at w1 w2
          subst w2
          by_cases c5 : p < n ∧ Y 2 p = 40
          · rw [if_pos c5]
            dsimp only
            rw [if_pos (show (1 : Int) ≠ 0 by decide)]
            have e7 : ax_up Y 0 5 ((p + 1 : Nat) : Int) 0 7 + 1 = ((d + 1 : Nat) : Int) := by rw [fo_up_at, fo_u_o (by decide), h7]; omega
            rw [e7]
            have g := sm_paren HR h' hK c5 (by omega) rfl
            unfold ax_rc at g
            unfold ax_rq
            rcases g with ⟨g1, g2⟩ | ⟨g1, g2⟩
            · exact Or.inl ⟨⟨t1, q1, w1, ⟨by omega, by omega⟩, g1⟩, g2⟩
            · exact Or.inr ⟨⟨t1, q1, w1, ⟨by omega, by omega⟩, g1⟩, g2⟩
          · rw [if_neg c5]
            dsimp only
            rw [if_neg (show ¬ (0 : Int) ≠ 0 by decide)]
            exact Or.inl (sm_stop h' (fun hlt => ⟨fun e => c1 ⟨hlt, e⟩, fun e => c2 ⟨hlt, e⟩, by have := fun e => c3 ⟨hlt, e⟩; omega, fun e => absurd ⟨hlt, e⟩ c5⟩) ⟨t1, q1, w1, trivial⟩ rfl)
end THI
