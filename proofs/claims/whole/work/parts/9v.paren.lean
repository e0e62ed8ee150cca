/-! ===== a thing in parentheses ===== -/
section PAR
variable {a n p d : Nat} {Y Mc : ax_M} {cs o s : List Int} {cm dg : Int}
theorem bd_none {c : Int} (hc : 0 ≤ c ∧ c ≤ 255) (h0 : op_of 0 c < 0) (h1 : op_of 1 c < 0) (h2 : op_of 2 c < 0) : bd_of c = 0 := by
  obtain ⟨m, rfl⟩ : ∃ m : Nat, c = (m : Int) := ⟨c.toNat, by omega⟩
  have : ∀ m, m < 256 → op_of 0 (m : Nat) < 0 → op_of 1 (m : Nat) < 0 → op_of 2 (m : Nat) < 0 → bd_of (m : Nat) = 0 := by decide +kernel
  exact this m (by omega) h0 h1 h2
theorem bd_cmp {c : Int} (hc : 0 ≤ c ∧ c ≤ 255) (h0 : 0 ≤ op_of 0 c) : bd_of c = 1 ∧ ¬ (48 ≤ c ∧ c ≤ 57) ∧ c ≠ 41 := by
  obtain ⟨m, rfl⟩ : ∃ m : Nat, c = (m : Int) := ⟨c.toNat, by omega⟩
  have : ∀ m, m < 256 → 0 ≤ op_of 0 (m : Nat) → bd_of (m : Nat) = 1 ∧ ¬ (48 ≤ (m : Int) ∧ (m : Int) ≤ 57) ∧ (m : Int) ≠ 41 := by decide +kernel
  exact this m (by omega) h0
/-- behind a whole expression of rank 0, a sign that doesn't close: the class cannot go on -/
theorem sm_after {N : ax_M} {o' t : List Int} {dg' cm' : Int} {d' : Nat} {c : Int} (hT : cl_T a o' t 0 (d' : Int) dg' cm' N) (hc : 0 ≤ c ∧ c ≤ 255) (h41 : c = 41 → d' = 0) (hdg : 48 ≤ c → c ≤ 57 → dg' = 0 ∨ 3 ≤ dg') (h1 : op_of 1 c < 0) (h2 : op_of 2 c < 0) (h0 : 0 ≤ op_of 0 c → ru_bit cm' d' ≠ 0) : cl_0 a (f_X1_goesOnBy (a : Int) c N) N := by
  by_cases hd : 48 ≤ c ∧ c ≤ 57
  · exact cl_0d hT hd (hdg hd.1 hd.2)
  · by_cases e : c = 41
    · have := h41 e
      subst this
      rw [e]
      exact go_close_n hT (by decide)
    · by_cases h3 : 0 ≤ op_of 0 c
      · exact go_op1_n hT hd e (bd_cmp hc h3).1 (h0 h3)
      · exact go_none hT hd e (bd_none hc (by omega) h1 h2)
theorem sm_paren {K : Nat} {fR : Int → ax_M → Prop × Int × ax_M} (HR : sm_R a n K fR) (h : sm_I a n p d cs o s dg cm Y Mc) (hK : (n - p) + 4 * (4 - d) < K + 1) (h0 : p < n ∧ Y 2 p = 40) (hd4 : d < 4) {R : Prop × Int × ax_M}
    (hR : R = ax_rc (fR 0 (ax_up (ax_up Y 0 5 ((p + 1 : Nat) : Int)) 0 7 ((d + 1 : Nat) : Int))) (fun y15 => (if y15.1 = 0 then (True, (0, y15.2)) else ax_rc (f_X3_takes 41 y15.2) (fun y17 => (if y17.1 ≠ 0 then ax_rq ((0 ≤ ((y17.2 0 7) - 1) ∧ ((y17.2 0 7) - 1) < ((5 : Nat) : Int))) (True, (1, ax_up y17.2 0 7 ((y17.2 0 7) - 1))) else (True, (0, y17.2))))))) :
    sm_no a n p cs Y Mc R ∨ sm_ok a n p d 3 cs o s cm Y Mc R := by
  subst hR
  obtain ⟨h5, h6, h7, hS, hT, hp, hn, hd, hc, hz, hl, hb⟩ := h
  have hg := go_open hT (by omega) (by omega)
  rw [← h0.2] at hg
  obtain ⟨N1, hr, hT1⟩ := hg.run (T := Y 2) (p := p)
  rw [h0.2] at hT1
  obtain ⟨u1, u2, u3⟩ := ru_open (d := d) hc hd4
  rw [show (d : Int) + 1 = ((d + 1 : Nat) : Int) by omega] at hT1 u1 u2 u3
  generalize ax_and cm (ax_xor (ax_shl 1 ((d + 1 : Nat) : Int)) (-1)) = cm1 at hT1 u1 u2 u3
  have e2 : ax_up (ax_up Y 0 5 ((p + 1 : Nat) : Int)) 0 7 ((d + 1 : Nat) : Int) 2 = Y 2 := by rw [ax_up_ne (by decide), ax_up_ne (by decide)]
  have hI1 : sm_I a n (p + 1) (d + 1) cs o (40 :: s) 0 cm1 (ax_up (ax_up Y 0 5 ((p + 1 : Nat) : Int)) 0 7 ((d + 1 : Nat) : Int)) N1 := ⟨by rw [fo_up_at, fo_u_o (by decide), fo_up_at, fo_u_s], by rw [fo_up_at, fo_u_o (by decide), fo_up_at, fo_u_o (by decide), h6], by rw [fo_up_at, fo_u_s], (hS.up (by decide)).up (by decide), hT1, by omega, hn, by omega, u1, by rw [List.length_cons]; omega, by omega, fun i hi => by rw [e2]; exact hb i hi⟩
  have hF : ml_F Y (ax_up (ax_up Y 0 5 ((p + 1 : Nat) : Int)) 0 7 ((d + 1 : Nat) : Int)) := (ml_F.up (by omega)).tr (ml_F.up (by omega))
  have hsub := HR 0 (p + 1) (d + 1) cs o (40 :: s) 0 cm1 _ N1 (by decide) hI1 (Or.inr ⟨40, s, rfl, by decide⟩) (fun _ => u2) (by omega)
  have hto1 : ax_up (ax_up Y 0 5 ((p + 1 : Nat) : Int)) 0 7 ((d + 1 : Nat) : Int) 0 6 = (n : Int) := by rw [fo_up_at, fo_u_o (by decide), fo_up_at, fo_u_o (by decide), h6]
  generalize ax_up (ax_up Y 0 5 ((p + 1 : Nat) : Int)) 0 7 ((d + 1 : Nat) : Int) = Y1 at e2 hF hsub hto1 ⊢
  unfold ax_rc
  dsimp only
  generalize hRR : fR 0 Y1 = R at hsub ⊢
  rcases hsub with ⟨a1, a2, a3, l, N, g1, g2, g3, g4, g5, g6, g7⟩ | ⟨a1, a2, a3, l, N, g, t, o', dg', cm', b1, b2, b3, b4, b5, b6, b7, b8, b9, b10, b11, b12, b13, b14, b15, b16, b17⟩
  · left
    rw [e2] at g1 g4
    rw [show p + 1 + l = p + (1 + l) by omega] at g2 g3 g4 g5
    rw [if_pos a2]
    exact ⟨⟨a1, trivial⟩, rfl, hF.tr a3, 1 + l, N, hr.tr g1, g2, g3, g4, g5, g6, by dsimp only; omega⟩
  · rw [if_neg (show ¬ R.2.1 = 0 by omega)]
    rw [e2] at b2 b13 b16 b17
    rw [show p + 1 + l = p + (1 + l) by omega] at b3 b4 b11 b13 b16 b17
    rw [List.length_cons] at b11
    have eT : R.2.2 2 = Y 2 := by rw [a3.1 2 (by decide) (by decide), e2]
    have e6 : R.2.2 0 6 = (n : Int) := by rw [a3.2 6 (by decide) (by decide) (by decide), hto1]
    obtain ⟨k1, k2⟩ := ml_takes (c := 41) b3 e6 (by omega)
    rw [eT] at k2
    generalize f_X3_takes 41 R.2.2 = W at k1 k2 ⊢
    by_cases hcl : p + (1 + l) < n ∧ Y 2 (p + (1 + l)) = 41
    · right
      rw [if_pos hcl] at k2
      rw [k2]
      dsimp only
      have e7 : ax_up R.2.2 0 5 ((p + (1 + l) + 1 : Nat) : Int) 0 7 = ((d + 1 : Nat) : Int) := by rw [fo_up_at, fo_u_o (by decide), b5]
      rw [e7, if_pos (by decide)]
      have hgc := go_close (u := s) b7 (by omega) (fun x hx => by have := b8 x hx; omega) (by omega)
      rw [← hcl.2] at hgc
      obtain ⟨N2, hr2, hT2⟩ := hgc.run (T := Y 2) (p := p + (1 + l))
      unfold ax_rq
      refine ⟨⟨a1, k1, by omega, trivial⟩, rfl, ((hF.tr a3).tr (ml_F.up (by omega))).tr (ml_F.up (by omega)), 1 + l + 1, N2, g, [], o' ++ t.map (fun x => 2000 + x), 0, cm', by omega, (hr.tr b2).tr hr2, ?_, by omega, ?_, (b6.up (by decide)).up (by decide), by rw [show (d : Int) = ((d + 1 : Nat) : Int) - 1 by omega]; exact hT2, fun x hx => absurd hx (by simp), ?_, b10, ?_, by omega, fun _ _ _ => Or.inl rfl, b14, fun j hj _ => by rw [b15 j (by omega) (fun _ => by omega), u3 j hj], fun q q1 q2 q3 => by omega, fun h => absurd h (by decide)⟩
      · dsimp only; rw [fo_up_at, fo_u_o (by decide), fo_up_at, fo_u_s]; rfl
      · dsimp only; rw [fo_up_at, fo_u_s]; omega
      · rw [List.map_nil, List.append_nil]; exact b9
      · rw [List.length_append, List.length_map]; simp; omega
    · left
      rw [if_neg hcl] at k2
      rw [k2]
      dsimp only
      rw [if_neg (show ¬ (0 : Int) ≠ 0 by decide)]
      refine ⟨⟨a1, k1, trivial⟩, rfl, hF.tr a3, 1 + l, N, hr.tr b2, b3, b4, fun hlt => ?_, fun _ => Or.inr (by rw [b7.2.2.1]; omega), by dsimp only; rw [b6.1]; omega, by dsimp only; rw [b6.1, List.length_append]; omega⟩
      have hbb := hb (p + (1 + l)) hlt
      exact sm_after b7 hbb (fun e => absurd ⟨hlt, e⟩ hcl) (fun q1 q2 => b13 hlt q1 q2) (b16 1 (by decide) (by decide) (by decide) hlt) (b16 2 (by decide) (by decide) (by decide) hlt) (fun q => b17 rfl hlt q)
end PAR
