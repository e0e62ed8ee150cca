/-! ===== a number, read by both ===== -/
section RNM
variable {a p n d : Nat} {M Mc : ax_M} {o s : List Int} {dp dg cm : Int}
theorem up_up {s i : Nat} {v w : Int} : ax_up (ax_up M s i v) s i w = ax_up M s i w := by
  funext s' i'
  unfold ax_up
  split <;> rfl
theorem mn_L {w : Int} {k : Nat} {i v : Int} (hat : M 0 5 = (p : Int)) (hto : M 0 6 = (n : Int)) (hn : n ≤ 80) (hv : 0 ≤ v ∧ v ≤ 1000) (kx : Int → ax_M → Prop × Int × ax_M) :
    (p < n ∧ 48 ≤ M 2 p ∧ M 2 p ≤ 57 → ((f_X3_number_L13 w k (i + 1) (10 * v + (M 2 p - 48)) (ax_up M 0 5 ((p + 1 : Nat) : Int)) kx).1 → (f_X3_number_L13 w (k + 1) i v M kx).1) ∧ (f_X3_number_L13 w (k + 1) i v M kx).2 = (f_X3_number_L13 w k (i + 1) (10 * v + (M 2 p - 48)) (ax_up M 0 5 ((p + 1 : Nat) : Int)) kx).2) ∧
    (¬ (p < n ∧ 48 ≤ M 2 p ∧ M 2 p ≤ 57) → f_X3_number_L13 w (k + 1) i v M kx = kx v M) := by
  refine ⟨fun h => ?_, fun h => ?_⟩
  · rw [f_X3_number_L13, f_X3_number_B13, dn_dig hat hto, if_pos h, if_neg (by decide), hat, fo_t0]
    simp only [ax_bd]
    unfold ax_rq
    rw [ax_wr_id (x := 10 * v) (by omega) (by omega), ax_wr_id (x := 10 * v + M 2 p) (by omega) (by omega), ax_wr_id (x := 10 * v + M 2 p - 48) (by omega) (by omega), show 10 * v + M 2 p - 48 = 10 * v + (M 2 p - 48) by omega, show (p : Int) + 1 = ((p + 1 : Nat) : Int) by omega]
    exact ⟨fun h2 => ⟨by omega, by omega, h2⟩, rfl⟩
  · rw [f_X3_number_L13, f_X3_number_B13, dn_dig hat hto, if_neg h, if_pos rfl]
theorem nm_3 (hat : M 0 5 = (p : Int)) (hto : M 0 6 = (n : Int)) (hn : n ≤ 80) (h0 : p < n ∧ 48 ≤ M 2 p ∧ M 2 p ≤ 57) (h : cl_T a o s 1 dp dg cm Mc) (ho : o.length < 40) :
    (f_X3_number 3 M).1 ∧ ∃ (k : Nat) (v : Int) (N : ax_M), 1 ≤ k ∧ k ≤ 3 ∧ p + k ≤ n ∧ (f_X3_number 3 M).2 = (v, ax_up M 0 5 ((p + k : Nat) : Int)) ∧ 0 ≤ v ∧ v ≤ 999 ∧ cl_run a (M 2) k p Mc N ∧ cl_T a (o ++ [v]) s 0 dp k cm N ∧ (p + k < n → 48 ≤ M 2 (p + k) → M 2 (p + k) ≤ 57 → k = 3) := by
  have e : f_X3_number 3 M = f_X3_number_L13 3 3 0 0 M (fun z11 M12 => (True, (z11, M12))) := by
    unfold f_X3_number
    rw [dn_dig hat hto, if_pos h0, if_pos (by decide)]
    rfl
  have hu1 : ∀ (Q : ax_M) (q : Nat), ax_up Q 0 5 ((q : Nat) : Int) 0 5 = ((q : Nat) : Int) := fun Q q => by rw [fo_up_at, fo_u_s]
  have hu6 : ∀ (Q : ax_M) (q : Nat), Q 0 6 = (n : Int) → ax_up Q 0 5 ((q : Nat) : Int) 0 6 = (n : Int) := fun Q q h => by rw [fo_up_at, fo_u_o (by decide), h]
  have hu2 : ∀ (Q : ax_M) (q : Nat), ax_up Q 0 5 ((q : Nat) : Int) 2 = Q 2 := fun Q q => ax_up_ne (by decide)
  obtain ⟨A1, A2⟩ := (mn_L (w := 3) (k := 2) (i := 0) (v := 0) hat hto hn (by decide) (fun z11 M12 => (True, (z11, M12)))).1 h0
  rw [show (10 : Int) * 0 + (M 2 p - 48) = M 2 p - 48 by omega] at A1 A2
  obtain ⟨c1, c2, c3, c4⟩ := go_d1 h h0.2 ho
  have R1 : cl_run a (M 2) 1 p Mc (f_X1_goesOnBy (a : Int) (M 2 p) Mc).2.2 := ⟨c1, c2, c4, rfl⟩
  generalize (f_X1_goesOnBy (a : Int) (M 2 p) Mc).2.2 = N1 at c3 R1
  rw [e]
  have b1 := mn_L (M := ax_up M 0 5 ((p + 1 : Nat) : Int)) (p := p + 1) (n := n) (w := 3) (k := 1) (i := 0 + 1) (v := M 2 p - 48) (hu1 _ _) (hu6 _ _ hto) hn (by omega) (fun z11 M12 => (True, (z11, M12)))
  rw [hu2, up_up] at b1
  by_cases h1 : p + 1 < n ∧ 48 ≤ M 2 (p + 1) ∧ M 2 (p + 1) ≤ 57
  · obtain ⟨B1, B2⟩ := b1.1 h1
    generalize hv2 : 10 * (M 2 p - 48) + (M 2 (p + 1) - 48) = v2 at B1 B2
    obtain ⟨d1, d2, d3, d4⟩ := go_d2 c3 h1.2 (by decide) (by omega)
    rw [hv2] at d3
    have R2 : cl_run a (M 2) 1 (p + 1) N1 (f_X1_goesOnBy (a : Int) (M 2 (p + 1)) N1).2.2 := ⟨d1, d2, d4, rfl⟩
    generalize (f_X1_goesOnBy (a : Int) (M 2 (p + 1)) N1).2.2 = N2 at d3 R2
    have R12 := R1.tr R2
    have b2 := mn_L (M := ax_up M 0 5 ((p + 1 + 1 : Nat) : Int)) (p := p + 1 + 1) (n := n) (w := 3) (k := 0) (i := 0 + 1 + 1) (v := v2) (hu1 _ _) (hu6 _ _ hto) hn (by omega) (fun z11 M12 => (True, (z11, M12)))
    rw [hu2, up_up] at b2
    by_cases h2 : p + 1 + 1 < n ∧ 48 ≤ M 2 (p + 1 + 1) ∧ M 2 (p + 1 + 1) ≤ 57
    · obtain ⟨C1, C2⟩ := b2.1 h2
      generalize hv3 : 10 * v2 + (M 2 (p + 1 + 1) - 48) = v3 at C1 C2
      obtain ⟨f1, f2, f3, f4⟩ := go_d2 d3 h2.2 (by decide) (by omega)
      rw [hv3] at f3
      have R3 : cl_run a (M 2) 1 (p + 1 + 1) N2 (f_X1_goesOnBy (a : Int) (M 2 (p + 1 + 1)) N2).2.2 := ⟨f1, f2, f4, rfl⟩
      generalize (f_X1_goesOnBy (a : Int) (M 2 (p + 1 + 1)) N2).2.2 = N3 at f3 R3
      have R123 := R12.tr R3
      exact ⟨A1 (B1 (C1 trivial)), 3, v3, N3, by decide, by decide, by omega, A2.trans (B2.trans C2), by omega, by omega, R123, f3, fun _ _ _ => rfl⟩
    · have C := b2.2 h2
      rw [C] at B1 B2
      exact ⟨A1 (B1 trivial), 2, v2, N2, by decide, by decide, by omega, A2.trans B2, by omega, by omega, R12, d3, fun g1 g2 g3 => absurd ⟨g1, g2, g3⟩ h2⟩
  · have B := b1.2 h1
    rw [B] at A1 A2
    exact ⟨A1 trivial, 1, M 2 p - 48, N1, by decide, by decide, by omega, A2, by omega, by omega, R1, c3, fun g1 g2 g3 => absurd ⟨g1, g2, g3⟩ h1⟩
end RNM
