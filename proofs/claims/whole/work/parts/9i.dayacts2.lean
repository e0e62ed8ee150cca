/-! ===== a day, side by side: its acts ===== -/
section DYM
variable {C D : Int} {X Y : ax_M} {r : fo_R} {T : Nat → Int}
theorem dp_mono (i d : Nat) : dp_pos T i ≤ dp_pos T (i + d) := by
  induction d with
  | zero => exact Nat.le_refl _
  | succ d ih =>
    have : dp_pos T (i + (d + 1)) = dp_pos T (i + d) + dp_sz (T (dp_pos T (i + d))) := rfl
    omega
theorem dy_A.mono {A B : Prop × Int × ax_M} (h : dy_A C r X Y A B) (hD : C ≤ D) : dy_A D r X Y A B := by
  obtain ⟨h1, h2, h3, ⟨q, h4⟩, h5⟩ := h
  exact ⟨h1, h2, h3, ⟨q, h4.mono hD⟩, h5⟩
theorem dy_A.rc {A B : Prop × Int × ax_M} (h : dy_A C r X Y A B) : dy_A C r X Y (True, (A.2.1, A.2.2)) (ax_rc B (fun y => (True, (y.1, y.2)))) := by
  obtain ⟨h1, h2, h3, h4⟩ := h
  exact ⟨trivial, ⟨h2, trivial⟩, h3, h4⟩
theorem dl_dig {p : Nat} (hp : p < 80) (h : 48 ≤ X 34 p ∧ X 34 p ≤ 57) : f_X2_digitAt (p : Int) X = X 34 p - 48 := by
  unfold f_X2_digitAt
  rw [if_neg (by omega), if_neg (by omega), fo_t0, ax_wr_id (by omega) (by omega)]
theorem dl_one {i p n : Nat} (hn : n ≤ 80) (hC : C ≤ 900000) (h : dy_I C r X Y) (hX : ∀ q, q < n → X 34 q = T q) (hp : p + dp_sz (T p) ≤ n) (ho : dp_one T (Y 14 i) (Y 15 i) (Y 16 i) p) : dy_A (C + 1) r X Y (f_X2_doAct (p : Int) X) (f_X3_does (i : Int) Y) := by
  have hs := dp_one_sz ho
  have hXp := hX p (by omega)
  have e1 : ((p : Int) + 1) = ((p + 1 : Nat) : Int) := by omega
  have e2 : ((p : Int) + 2) = ((p + 2 : Nat) : Int) := by omega
  have e3 : ((p : Int) + 3) = ((p + 3 : Nat) : Int) := by omega
  have e4 : ((p : Int) + 4) = ((p + 4 : Nat) : Int) := by omega
  unfold f_X2_doAct f_X3_does
  simp only [ax_bd]
  rw [if_neg (by omega), if_pos (by omega), fo_t0, fo_t0, hXp]
  rcases ho with ⟨c, a⟩ | ⟨c, a⟩ | ⟨c, a⟩ | ⟨c, a, b, d1, d2⟩ | ⟨c, a, b, d1, d2⟩ | ⟨c, a, b, b2, d1, d2, d3, d4⟩
  · rw [c, a, if_neg (by decide), if_neg (by decide), if_neg (by decide), if_neg (by decide), if_pos rfl, if_pos rfl]
    exact (dy_seal (by omega) h).rc.mono (by omega)
  · rw [c, a, if_neg (by decide), if_neg (by decide), if_pos rfl, if_neg (by decide), if_pos rfl]
    exact (dy_level (by omega) h).rc.mono (by omega)
  · rw [c, a, if_neg (by decide), if_pos rfl, if_neg (by decide), if_neg (by decide), if_pos rfl]
    exact (dy_cool h).mono (by omega)
  · rw [c, show dp_sz 109 = 2 by decide] at hp
    rw [c, a, if_neg (by decide), if_neg (by decide), if_neg (by decide), if_pos rfl, if_neg (by decide), if_neg (by decide), if_neg (by decide), if_pos rfl, e1, dl_dig (by omega) (by rw [hX _ (by omega)]; exact ⟨d1, d2⟩), hX _ (by omega), ← b]
    exact (dy_merge (by omega) h).rc.mono (by omega)
  · rw [c, show dp_sz 99 = 2 by decide] at hp
    rw [c, a, if_pos rfl, if_neg (by decide), if_neg (by decide), if_neg (by decide), if_neg (by decide), if_pos rfl, e1, dl_dig (by omega) (by rw [hX _ (by omega)]; omega), hX _ (by omega), ← b]
    exact (dy_clear (by omega) (by omega) h).rc.mono (by omega)
  · rw [c, show dp_sz 119 = 5 by decide] at hp
    rw [c, a, if_neg (by decide), if_neg (by decide), if_neg (by decide), if_neg (by decide), if_neg (by decide), if_pos rfl, if_neg (by decide), if_neg (by decide), if_neg (by decide), if_neg (by decide), if_neg (by decide), e1, e2, e3, e4,
      dl_dig (p := p + 1) (by omega) (by rw [hX _ (by omega)]; exact d1), dl_dig (p := p + 2) (by omega) (by rw [hX _ (by omega)]; exact d2), dl_dig (p := p + 3) (by omega) (by rw [hX _ (by omega)]; exact d3), dl_dig (p := p + 4) (by omega) (by rw [hX _ (by omega)]; exact d4),
      hX (p + 1) (by omega), hX (p + 2) (by omega), hX (p + 3) (by omega), hX (p + 4) (by omega),
      ax_wr_id (x := 10 * (T (p + 1) - 48)) (by omega) (by omega), ax_wr_id (x := 10 * (T (p + 3) - 48)) (by omega) (by omega), ax_wr_id (x := 10 * (T (p + 1) - 48) + (T (p + 2) - 48)) (by omega) (by omega), ax_wr_id (x := 10 * (T (p + 3) - 48) + (T (p + 4) - 48)) (by omega) (by omega), ← b, ← b2]
    have g := dy_write (x := Y 15 i) (v := Y 16 i) (by omega) (by omega) h
    obtain ⟨g1, g2, g3, g4⟩ := g
    exact ⟨⟨g1, trivial⟩, g2, g3, g4⟩
/-- the acts done, one after another -/
theorem dl_acts {n m : Nat} {A14 A15 A16 : Nat → Int} (C0 : Int) (hC0 : C0 + 80 ≤ 900000) (hn : n ≤ 80) (hm : m ≤ 80) (hpm : dp_pos T m = n) (hA : ∀ i, i < m → dp_one T (A14 i) (A15 i) (A16 i) (dp_pos T i)) (kxc : Int → Int → ax_M → Prop × Int × ax_M) (kxm : Int → ax_M → Prop × Int × ax_M) : ∀ (k i : Nat) (X Y : ax_M), m - i < k → i ≤ m → dy_I (C0 + i) r X Y → (∀ q, q < n → X 34 q = T q) → Y 14 = A14 → Y 15 = A15 → Y 16 = A16 → Y 0 31 = (m : Int) → Y 0 26 = r 265 → Y 0 27 = r 266 →
    ∃ (i' : Nat) (X' Y' : ax_M), i' ≤ m ∧ dy_I (C0 + m) r X' Y' ∧ Y' 0 31 = (m : Int) ∧ Y' 0 26 = r 265 ∧ Y' 0 27 = r 266 ∧
      ((kxc i' (if i' < m then 1 else 0) X').1 → (f_X2_day_L37 (n : Int) (k + 1) (i : Int) 0 (dp_pos T i : Int) X kxc).1) ∧ (f_X2_day_L37 (n : Int) (k + 1) (i : Int) 0 (dp_pos T i : Int) X kxc).2 = (kxc i' (if i' < m then 1 else 0) X').2 ∧
      ((kxm i' Y').1 → (f_X3_day_L56 (k + 1) (i : Int) Y kxm).1) ∧ (f_X3_day_L56 (k + 1) (i : Int) Y kxm).2 = (kxm i' Y').2 := by
  intro k
  induction k with
  | zero => intro i X Y h; omega
  | succ k ih =>
    intro i X Y hk hi hI hX h14 h15 h16 h31 h26 h27
    rw [f_X2_day_L37, f_X2_day_B37, f_X3_day_L56, f_X3_day_B56, h31]
    by_cases him : i = m
    · subst him
      rw [if_pos (by omega), if_pos (by omega)]
      refine ⟨i, X, Y, Nat.le_refl _, hI, h31, h26, h27, ?_, ?_, fun h => h, rfl⟩
      · rw [if_neg (by omega)]; exact fun h => h
      · rw [if_neg (by omega)]
    · have hlt : i < m := by omega
      have ho := hA i hlt
      have hs := dp_one_sz ho
      have hpos : dp_pos T (i + 1) = dp_pos T i + dp_sz (T (dp_pos T i)) := rfl
      have hle : dp_pos T (i + 1) ≤ n := by
        have := dp_mono (T := T) (i + 1) (m - (i + 1))
        rw [show i + 1 + (m - (i + 1)) = m by omega, hpm] at this
        exact this
      rw [if_neg (by omega), if_neg (show ¬ (0 : Int) ≠ 0 by decide), if_neg (by omega)]
      have hA1 := dl_one (i := i) (p := dp_pos T i) hn (by omega) hI hX (by omega) (by rw [h14, h15, h16]; exact ho)
      unfold ax_rc ax_rq
      dsimp only
      generalize f_X2_doAct (dp_pos T i : Int) X = A at hA1 ⊢
      generalize f_X3_does (i : Int) Y = B at hA1 ⊢
      obtain ⟨a1, a2, a3, ⟨q', a4⟩, a5, a6, a7, a8, a9⟩ := hA1
      have hI' : dy_I (C0 + ((i + 1 : Nat) : Int)) r A.2.2 B.2.2 := ⟨⟨q', a4.mono (by omega)⟩, a5, a6⟩
      by_cases h0 : 0 ≤ A.2.1
      · rw [if_pos h0, if_neg (show ¬ B.2.1 < 0 by have := a3.mp h0; omega)]
        have esz : (dp_pos T i : Int) + (if 1 < f_X2_actSize (A.2.2 34 (dp_pos T i : Int).toNat) A.2.2 then f_X2_actSize (A.2.2 34 (dp_pos T i : Int).toNat) A.2.2 else 1) = (dp_pos T (i + 1) : Int) := by
          rw [fo_t0, dp_sz_eq, a7, hX _ (by omega), hpos]
          split <;> omega
        rw [esz, ax_wr_id (by omega) (by omega), show (i : Int) + 1 = ((i + 1 : Nat) : Int) by omega]
        obtain ⟨i', X', Y', b1, b2, b3, b4, b5, b6, b7, b8, b9⟩ := ih (i + 1) A.2.2 B.2.2 (by omega) (by omega) hI' (fun q hq => by rw [a7]; exact hX q hq) (by rw [a8 14 (by omega), h14]) (by rw [a8 15 (by omega), h15]) (by rw [a8 16 (by omega), h16]) (by rw [a9 31 (by omega), h31]) (by rw [a9 26 (by omega), h26]) (by rw [a9 27 (by omega), h27])
        exact ⟨i', X', Y', b1, b2, b3, b4, b5, fun h => ⟨a1, ⟨by omega, by omega⟩, b6 h⟩, b7, fun h => ⟨⟨by omega, by omega⟩, a2, b8 h⟩, b9⟩
      · rw [if_neg h0, if_pos (show B.2.1 < 0 by
          rcases Int.lt_or_le B.2.1 0 with h | h
          · exact h
          · exact absurd (a3.mpr h) h0)]
        rw [f_X2_day_L37, f_X2_day_B37, if_neg (by omega), if_pos (show (1 : Int) ≠ 0 by decide)]
        refine ⟨i, A.2.2, B.2.2, by omega, ⟨⟨q', a4.mono (by omega)⟩, a5, a6⟩, by rw [a9 31 (by omega), h31], by rw [a9 26 (by omega), h26], by rw [a9 27 (by omega), h27], ?_, ?_, fun h => ⟨⟨by omega, by omega⟩, a2, h⟩, rfl⟩
        · rw [if_pos hlt]; exact fun h => ⟨a1, h⟩
        · rw [if_pos hlt]
end DYM
