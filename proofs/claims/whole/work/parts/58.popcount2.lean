/-! bytes of a count of bits -/
def pb_h (a : Nat) : Nat := (a / 2) &&& 85
def pb_u (a : Nat) : Nat := a - pb_h a
def pb_g (a : Nat) : Nat := (pb_u a &&& 51) + ((pb_u a / 4) &&& 51)
def pb_p (a : Nat) : Nat := (pb_g a + pb_g a / 16) &&& 15
theorem pb_1 : ∀ a, a < 256 → ∀ e, e < 2 → (a / 2 + 128 * e) &&& 85 = pb_h a := by decide +kernel
theorem pb_2 : ∀ a, a < 256 → pb_h a ≤ a := by decide +kernel
theorem pb_3 : ∀ x, x < 256 → ∀ e, e < 4 → (x / 4 + 64 * e) &&& 51 = (x / 4) &&& 51 := by decide +kernel
theorem pb_4 : ∀ a, a < 256 → pb_g a ≤ 68 ∧ pb_g a % 16 ≤ 4 ∧ pb_p a ≤ 8 := by decide +kernel
theorem pb_5 : ∀ g, g < 69 → ∀ e, e < 5 → (g + g / 16 + 16 * e) &&& 15 = (g + g / 16) &&& 15 := by decide +kernel
theorem pb_6 : ∀ a, a < 256 → pb_p a = a % 2 + a / 2 % 2 + a / 4 % 2 + a / 8 % 2 + a / 16 % 2 + a / 32 % 2 + a / 64 % 2 + a / 128 % 2 := by decide +kernel
theorem pb_7 : ∀ x, x < 256 → x &&& 51 < 52 ∧ x / 4 &&& 51 < 52 := by decide +kernel
theorem fo_split3 {x a b c m : Nat} (hm : m < 256) (ha : a < 256) (hb : b < 256) (hc : c < 256) (hx : x = a + 256 * (b + 256 * c)) : x &&& (m + 256 * (m + 256 * (m + 256 * m))) = (a &&& m) + 256 * ((b &&& m) + 256 * (c &&& m)) := by
  rw [hx, fo_and_split ha hm, fo_and_split hb hm]
  have : c &&& (m + 256 * m) = c &&& m := by
    have := fo_and_split (a := c) (m := m) (b := 0) (k := m) hc hm
    simpa using this
  rw [this]
theorem fo_pop {a b c : Nat} {M : ax_M} (ha : a < 256) (hb : b < 256) (hc : c < 256) : f_J_bitCount ((a + 256 * (b + 256 * c) : Nat) : Int) M = ((pb_p a + pb_p b + pb_p c : Nat) : Int) := by
  unfold f_J_bitCount
  simp only [ax_bd]
  have u0 := pb_2 a ha
  have u1 := pb_2 b hb
  have u2 := pb_2 c hc
  generalize hn : a + 256 * (b + 256 * c) = n
  have s1 : ax_and (ax_ushr (n : Int) 1) 1431655765 = ((pb_h a + 256 * (pb_h b + 256 * pb_h c) : Nat) : Int) := by
    rw [show ax_ushr (n : Int) 1 = ((n / 2 ^ 1 : Nat) : Int) from fo_ushr_nat (k := 1) (by omega) (by omega)]
    rw [show ax_and ((n / 2 ^ 1 : Nat) : Int) 1431655765 = ((n / 2 ^ 1 &&& 1431655765 : Nat) : Int) from fo_and_nat (b := 1431655765) (by omega)]
    rw [fo_split3 (m := 85) (a := a / 2 + 128 * (b % 2)) (b := b / 2 + 128 * (c % 2)) (c := c / 2 + 128 * 0) (by omega) (by omega) (by omega) (by omega) (by omega), pb_1 a ha _ (by omega), pb_1 b hb _ (by omega), pb_1 c hc _ (by omega)]
  rw [s1]
  have e1 : ax_wr ((n : Int) - ((pb_h a + 256 * (pb_h b + 256 * pb_h c) : Nat) : Int)) = ((pb_u a + 256 * (pb_u b + 256 * pb_u c) : Nat) : Int) := by
    rw [ax_wr_id (by omega) (by omega)]
    unfold pb_u
    omega
  rw [e1]
  have l0 : pb_u a < 256 := by unfold pb_u; omega
  have l1 : pb_u b < 256 := by unfold pb_u; omega
  have l2 : pb_u c < 256 := by unfold pb_u; omega
  have g0 := pb_4 a ha
  have g1 := pb_4 b hb
  have g2 := pb_4 c hc
  have s2 : ax_wr (ax_and ((pb_u a + 256 * (pb_u b + 256 * pb_u c) : Nat) : Int) 858993459 + ax_and (ax_ushr ((pb_u a + 256 * (pb_u b + 256 * pb_u c) : Nat) : Int) 2) 858993459) = ((pb_g a + 256 * (pb_g b + 256 * pb_g c) : Nat) : Int) := by
    rw [show ax_ushr ((pb_u a + 256 * (pb_u b + 256 * pb_u c) : Nat) : Int) 2 = (((pb_u a + 256 * (pb_u b + 256 * pb_u c)) / 2 ^ 2 : Nat) : Int) from fo_ushr_nat (k := 2) (by omega) (by omega)]
    rw [show ax_and (((pb_u a + 256 * (pb_u b + 256 * pb_u c)) / 2 ^ 2 : Nat) : Int) 858993459 = (((pb_u a + 256 * (pb_u b + 256 * pb_u c)) / 2 ^ 2 &&& 858993459 : Nat) : Int) from fo_and_nat (b := 858993459) (by omega)]
    rw [show ax_and ((pb_u a + 256 * (pb_u b + 256 * pb_u c) : Nat) : Int) 858993459 = (((pb_u a + 256 * (pb_u b + 256 * pb_u c)) &&& 858993459 : Nat) : Int) from fo_and_nat (b := 858993459) (by omega)]
    have x1 : (pb_u a + 256 * (pb_u b + 256 * pb_u c)) &&& 858993459 = (pb_u a &&& 51) + 256 * ((pb_u b &&& 51) + 256 * (pb_u c &&& 51)) := fo_split3 (m := 51) (by omega) l0 l1 l2 rfl
    have x2 : (pb_u a + 256 * (pb_u b + 256 * pb_u c)) / 2 ^ 2 &&& 858993459 = (pb_u a / 4 &&& 51) + 256 * ((pb_u b / 4 &&& 51) + 256 * (pb_u c / 4 &&& 51)) := by
      have y := fo_split3 (x := (pb_u a + 256 * (pb_u b + 256 * pb_u c)) / 2 ^ 2) (m := 51) (a := pb_u a / 4 + 64 * (pb_u b % 4)) (b := pb_u b / 4 + 64 * (pb_u c % 4)) (c := pb_u c / 4 + 64 * 0) (by omega) (by omega) (by omega) (by omega) (by omega)
      rw [pb_3 _ l0 _ (by omega), pb_3 _ l1 _ (by omega), pb_3 _ l2 _ (by omega)] at y
      exact y
    rw [x1, x2]
    have z0 := pb_7 _ l0
    have z1 := pb_7 _ l1
    have z2 := pb_7 _ l2
    rw [ax_wr_id (by omega) (by omega)]
    unfold pb_g
    omega
  rw [s2]
  generalize hga : pb_g a = A at *
  generalize hgb : pb_g b = B at *
  generalize hgc : pb_g c = C at *
  have s3 : ax_and (ax_wr (((A + 256 * (B + 256 * C) : Nat) : Int) + ax_ushr ((A + 256 * (B + 256 * C) : Nat) : Int) 4)) 252645135 = ((pb_p a + 256 * (pb_p b + 256 * pb_p c) : Nat) : Int) := by
    rw [show ax_ushr ((A + 256 * (B + 256 * C) : Nat) : Int) 4 = (((A + 256 * (B + 256 * C)) / 2 ^ 4 : Nat) : Int) from fo_ushr_nat (k := 4) (by omega) (by omega)]
    rw [ax_wr_id (by omega) (by omega), ← Int.natCast_add]
    rw [show ax_and (((A + 256 * (B + 256 * C)) + (A + 256 * (B + 256 * C)) / 2 ^ 4 : Nat) : Int) 252645135 = ((((A + 256 * (B + 256 * C)) + (A + 256 * (B + 256 * C)) / 2 ^ 4) &&& 252645135 : Nat) : Int) from fo_and_nat (b := 252645135) (by omega)]
    have y := fo_split3 (x := (A + 256 * (B + 256 * C)) + (A + 256 * (B + 256 * C)) / 2 ^ 4) (m := 15) (a := A + A / 16 + 16 * (B % 16)) (b := B + B / 16 + 16 * (C % 16)) (c := C + C / 16 + 16 * 0) (by omega) (by omega) (by omega) (by omega) (by omega)
    rw [pb_5 A (by omega) _ (by omega), pb_5 B (by omega) _ (by omega), pb_5 C (by omega) _ (by omega)] at y
    unfold pb_p
    rw [hga, hgb, hgc]
    exact congrArg (fun z : Nat => (z : Int)) y
  rw [s3]
  generalize pb_p a = P at *
  generalize pb_p b = Q at *
  generalize pb_p c = R at *
  rw [show ax_ushr ((P + 256 * (Q + 256 * R) : Nat) : Int) 8 = (((P + 256 * (Q + 256 * R)) / 2 ^ 8 : Nat) : Int) from fo_ushr_nat (k := 8) (by omega) (by omega)]
  rw [ax_wr_id (x := ((P + 256 * (Q + 256 * R) : Nat) : Int) + _) (by omega) (by omega), ← Int.natCast_add]
  rw [show ax_ushr ((P + 256 * (Q + 256 * R) + (P + 256 * (Q + 256 * R)) / 2 ^ 8 : Nat) : Int) 16 = (((P + 256 * (Q + 256 * R) + (P + 256 * (Q + 256 * R)) / 2 ^ 8) / 2 ^ 16 : Nat) : Int) from fo_ushr_nat (k := 16) (by omega) (by omega)]
  rw [ax_wr_id (by omega) (by omega), ← Int.natCast_add]
  rw [show ∀ z : Nat, z < 2147483648 → ax_and (z : Int) 63 = ((z &&& 63 : Nat) : Int) from fun z hz => fo_and_nat (b := 63) hz]
  · have : ∀ z : Nat, z &&& 63 = z % 64 := fun z => Nat.and_two_pow_sub_one_eq_mod z 6
    rw [this]
    have p0 := g0.2.2
    have p1 := g1.2.2
    have p2 := g2.2.2
    clear g0 g1 g2 s1 s2 s3 e1 hga hgb hgc u0 u1 u2 l0 l1 l2 hn
    have d1 : (P + 256 * (Q + 256 * R)) / 2 ^ 8 = Q + 256 * R := by omega
    rw [d1]
    have d2 : (P + 256 * (Q + 256 * R) + (Q + 256 * R)) / 2 ^ 16 = R := by omega
    rw [d2]
    congr 1
    omega
  · omega
