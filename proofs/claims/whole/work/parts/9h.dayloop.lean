/-! ===== a day, side by side: its text ===== -/
section DYL
variable {C D : Int} {Mc Mm X Nm N M Y : ax_M}
theorem pr_G_x0 (h : pr_G C Mc Mm) (ms : ∀ s, s ≠ 0 → s ≠ 14 → s ≠ 15 → s ≠ 16 → Nm s = Mm s) (m0 : ∀ f, f ≠ 0 → f ≠ 4 → f ≠ 5 → f ≠ 6 → f ≠ 7 → f ≠ 31 → Nm 0 f = Mm 0 f) (m4 : Nm 0 4 = 0) : pr_G C (ax_up Mc 0 10 0) Nm := by
  obtain ⟨⟨hN, hP, hK, hH, hX, hR⟩, hT⟩ := h
  have cs : ∀ t, t ≠ 0 → ax_up Mc 0 10 0 t = Mc t := fun t t1 => ax_up_ne t1
  have c0 : ∀ f, f ≠ 10 → ax_up Mc 0 10 0 0 f = Mc 0 f := fun f f1 => by rw [fo_up_at, fo_u_o f1]
  have c10 : ax_up Mc 0 10 0 0 10 = 0 := by rw [fo_up_at, fo_u_s]
  generalize ax_up Mc 0 10 0 = O at cs c0 c10 ⊢
  exact ⟨⟨pr_N_cg (Int.le_refl _) ⟨fun k _ _ => cs k (by omega), cS.e (cs 1 (by decide)), cS.e (cs 13 (by decide))⟩ ⟨ms 7 (by decide) (by decide) (by decide) (by decide), fun j _ => by rw [ms 8 (by decide) (by decide) (by decide) (by decide)]⟩ hN,
    pr_P_cg (Int.le_refl _) ⟨c0 3 (by decide), c0 4 (by decide), fun i _ => by rw [cs 25 (by decide)]⟩ ⟨m0 24 (by decide) (by decide) (by decide) (by decide) (by decide) (by decide), fun i _ => by rw [ms 13 (by decide) (by decide) (by decide) (by decide)]⟩ hP,
    pr_K_cg (Int.le_refl _) (cs 27 (by decide)) (cs 26 (by decide)) (ms 20 (by decide) (by decide) (by decide) (by decide)) (ms 21 (by decide) (by decide) (by decide) (by decide)) hK,
    pr_H_cg (c0 15 (by decide)) (cs 36 (by decide)) (cs 37 (by decide)) (m0 32 (by decide) (by decide) (by decide) (by decide) (by decide) (by decide)) (ms 17 (by decide) (by decide) (by decide) (by decide)) (ms 18 (by decide) (by decide) (by decide) (by decide)) hH,
    ⟨by rw [c10, m4], by rw [m4]; decide, by rw [m4]; decide, fun i hi => by rw [m4] at hi; exact absurd hi (by omega)⟩,
    pr_R_cg2 (c0 7 (by decide)) (c0 8 (by decide)) (fun f _ => ⟨by rw [cs 28 (by decide)], by rw [cs 31 (by decide)]⟩) (cs 29 (by decide)) (cs 32 (by decide)) (m0 10 (by decide) (by decide) (by decide) (by decide) (by decide) (by decide)) (ms 3 (by decide) (by decide) (by decide) (by decide)) hR⟩,
    pr_T_cg (c0 12 (by decide)) (cs 35 (by decide)) (m0 1 (by decide) (by decide) (by decide) (by decide) (by decide) (by decide)) (ms 1 (by decide) (by decide) (by decide) (by decide)) hT⟩
/-- where the acts stand -/
def dp_pos (T : Nat → Int) : Nat → Nat
  | 0 => 0
  | i + 1 => dp_pos T i + dp_sz (T (dp_pos T i))
theorem dp_one_sz {T : Nat → Int} {a b c : Int} {p : Nat} (h : dp_one T a b c p) : 1 ≤ dp_sz (T p) ∧ dp_sz (T p) ≤ 5 := by
  rcases h with h | h | h | h | h | h <;> rw [h.1] <;> decide
/-- acts 0 .. j - 1 are read -/
def dl_I (N : ax_M) (n j : Nat) (M : ax_M) : Prop := M 0 5 = (dp_pos (N 2) j : Int) ∧ M 0 6 = (n : Int) ∧ M 0 31 = (j : Int) ∧ dp_pos (N 2) j ≤ n ∧ j ≤ dp_pos (N 2) j ∧ (∀ s, s ≠ 0 → s ≠ 14 → s ≠ 15 → s ≠ 16 → M s = N s) ∧ (∀ f, f ≠ 5 → f ≠ 31 → M 0 f = N 0 f) ∧ ∀ i, i < j → dp_one (N 2) (M 14 i) (M 15 i) (M 16 i) (dp_pos (N 2) i)
theorem dl_read {w : Int} {n : Nat} (hn : n ≤ 80) (hX : ∀ i, i < n → X 34 i = N 2 i) (kx : ax_M → Prop × Int × ax_M) : ∀ (k j : Nat) (M : ax_M), n - dp_pos (N 2) j < k → dl_I N n j M →
    ((∀ act, f_X2_wrongInDay_L8 w X (n - dp_pos (N 2) j) (dp_pos (N 2) j : Int) act 0 (fun z => if z ≤ 0 then -1 else (n : Int)) = -1) ∧ ∃ (m : Nat) (M' : ax_M), dl_I N n m M' ∧ dp_pos (N 2) m = n ∧ ((kx M').1 → (f_X3_day_L17 k M kx).1) ∧ (f_X3_day_L17 k M kx).2 = (kx M').2) ∨
    (∃ (v : Int) (M' : ax_M), 0 ≤ v ∧ (∀ act, f_X2_wrongInDay_L8 w X (n - dp_pos (N 2) j) (dp_pos (N 2) j : Int) act 0 (fun z => if z ≤ 0 then -1 else (n : Int)) = v) ∧ (f_X3_day_L17 k M kx).1 ∧ (f_X3_day_L17 k M kx).2 = (-1 - v, M') ∧ (∀ s, s ≠ 0 → s ≠ 14 → s ≠ 15 → s ≠ 16 → M' s = N s) ∧ ∀ f, f ≠ 5 → f ≠ 31 → M' 0 f = N 0 f) := by
  intro k
  induction k with
  | zero => intro j M h; omega
  | succ k ih =>
    intro j M hk hI
    obtain ⟨i1, i2, i3, i4, i5, i6, i7, i8⟩ := hI
    rw [f_X3_day_L17, f_X3_day_B17, i1, i2]
    by_cases hp : dp_pos (N 2) j < n
    · rw [if_neg (by omega)]
      have e2 : M 2 = N 2 := i6 2 (by decide) (by decide) (by decide) (by decide)
      have hr := dr_act (w := w) (X := X) i1 i2 i3 hn hp (by omega) (fun i hi => by rw [e2]; exact hX i hi)
      obtain ⟨r1, r2, r3, r4⟩ := hr
      rw [e2] at r4
      unfold ax_rc
      dsimp only
      generalize f_X3_readsAct M = R at r1 r2 r3 r4 ⊢
      have ks : ∀ s, s ≠ 0 → s ≠ 14 → s ≠ 15 → s ≠ 16 → R.2.2 s = N s := fun s a b c d => by rw [r2.1 s a b c d, i6 s a b c d]
      have k0 : ∀ f, f ≠ 5 → f ≠ 31 → R.2.2 0 f = N 0 f := fun f a b => by rw [r2.2.2 f a b, i7 f a b]
      rcases r4 with ⟨a1, a2, a3, a4, a5⟩ | ⟨a1, a2, a3⟩
      · rw [if_pos a1]
        have hs := dp_one_sz a2
        have hJ : dl_I N n (j + 1) R.2.2 := ⟨a3, by rw [k0 6 (by decide) (by decide), ← i7 6 (by decide) (by decide), i2], r3, a4, by show j + 1 ≤ dp_pos (N 2) j + dp_sz (N 2 (dp_pos (N 2) j)); omega, ks, k0, fun i hi => by
          by_cases e : i = j
          · subst e; exact a2
          · rw [r2.2.1 14 (by omega) i e, r2.2.1 15 (by omega) i e, r2.2.1 16 (by omega) i e]
            exact i8 i (by omega)⟩
        have hstep : dp_pos (N 2) (j + 1) = dp_pos (N 2) j + dp_sz (N 2 (dp_pos (N 2) j)) := rfl
        rcases ih (j + 1) R.2.2 (by omega) hJ with ⟨b1, m, M', b2, b3, b4, b5⟩ | ⟨v, M', b1, b2, b3, b4, b5, b6⟩
        · exact Or.inl ⟨fun act => by rw [a5, ← hstep]; exact b1 _, m, M', b2, b3, fun h => ⟨r1, b4 h⟩, b5⟩
        · exact Or.inr ⟨v, M', b1, fun act => by rw [a5, ← hstep]; exact b2 _, ⟨r1, b3⟩, b4, b5, b6⟩
      · rw [if_neg (fun h => h a1)]
        exact Or.inr ⟨R.2.2 0 5, R.2.2, a2, a3, ⟨r1, trivial⟩, rfl, ks, k0⟩
    · rw [if_pos (by omega)]
      have hpe : dp_pos (N 2) j = n := by omega
      refine Or.inl ⟨fun act => ?_, j, M, ⟨i1, i2, i3, i4, i5, i6, i7, i8⟩, hpe, fun h => h, rfl⟩
      rw [hpe, Nat.sub_self, dw_z]
      rfl
end DYL
