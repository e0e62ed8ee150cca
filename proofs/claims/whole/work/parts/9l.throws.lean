/-! ===== block, leaf, row: a number, or a throw, on both sides ===== -/
section PXS
variable {C : Int} {Mc Mm M : ax_M} {A : Prop × Int} {B : Int × ax_M}
/-- the class's answer (or that it throws), the model's answer and what it marks -/
def px (C : Int) (A : Prop × Int) (Mc : ax_M) (B : Int × ax_M) : Prop := pr_G C Mc B.2 ∧ ((A.1 ∧ B.2 0 0 = 0 ∧ A.2 = B.1) ∨ (¬ A.1 ∧ B.2 0 0 = 1))
theorem px_no (h : pr_G C Mc Mm) : px C (False, 0) Mc (f_X3_refuse (ax_up Mm 0 0 0)) := ⟨(h.th (x := 0)).th (x := 1), Or.inr ⟨fun h => h, by show ax_up (ax_up Mm 0 0 0) 0 0 1 0 0 = 1; rw [fo_up_at, fo_u_s]⟩⟩
theorem px_yes {x y : Int} (h : pr_G C Mc Mm) (e : x = y) : px C (True, x) Mc (y, ax_up Mm 0 0 0) := ⟨h.th, Or.inl ⟨trivial, by show ax_up Mm 0 0 0 0 0 = 0; rw [fo_up_at, fo_u_s], e⟩⟩
theorem px_row {x : Int} (h : pr_G C Mc Mm) : px C (f_X2_row x Mc) Mc (f_X3_row x Mm) := by
  obtain ⟨t1, t2, t3, t4⟩ := h.2
  have e1 : ax_up Mm 0 0 0 0 1 = Mm 0 1 := by rw [fo_up_at, fo_u_o (by decide)]
  have e2 : ax_up Mm 0 0 0 1 = Mm 1 := ax_up_ne (by decide)
  unfold f_X2_row f_X3_row
  simp only [ax_bd]
  rw [fm_inE, e1, e2]
  by_cases hx : 0 ≤ x ∧ x ≤ Mm 0 1 - 1
  · rw [if_neg (by omega), if_pos (by omega), if_pos hx, if_pos (by decide)]
    have e := t4 x.toNat (by omega)
    exact px_yes h e
  · have hc : (if x < 0 then (False, (0 : Int)) else if x < Mc 0 12 then (True, Mc 35 x.toNat) else (False, 0)) = (False, 0) := by
      by_cases h0 : x < 0
      · rw [if_pos h0]
      · rw [if_neg h0, if_neg (by omega)]
    rw [hc, if_neg hx, if_neg (fun h => h rfl)]
    exact px_no h
theorem px_leaf {x y z : Int} (h : pr_G C Mc Mm) : px C (f_X2_leaf x y z Mc) Mc (f_X3_leaf x y z Mm) := by
  have hI := h.I
  have hP := hI.2.1.pg
  have e7 : ax_up Mm 0 0 0 7 = Mm 7 := ax_up_ne (by decide)
  unfold f_X2_leaf f_X3_leaf f_X3_isBlock
  simp only [ax_bd]
  rw [fm_inE, fm_inE, fm_inE]
  by_cases hx : 0 ≤ x ∧ x ≤ 15
  · obtain ⟨c, rfl⟩ : ∃ c : Nat, x = (c : Int) := ⟨x.toNat, by omega⟩
    rw [if_neg (by omega), if_neg (by omega), if_pos hx, if_neg (show ¬ (1 : Int) = 0 by decide)]
    by_cases hy : 0 ≤ y ∧ y ≤ 3
    · obtain ⟨k, rfl⟩ : ∃ k : Nat, y = (k : Int) := ⟨y.toNat, by omega⟩
      rw [if_neg (by omega), if_pos (by omega), if_pos hy, if_neg (show ¬ (1 : Int) = 0 by decide)]
      have el : ((c : Int) * 4) + (k : Int) = ((4 * c + k : Nat) : Int) := by omega
      have el2 : (4 * (c : Int)) + (k : Int) = ((4 * c + k : Nat) : Int) := by omega
      have hl : 4 * c + k < 64 := by omega
      have hp := hP (4 * c + k) hl
      rw [fm_isW, e7, el, el2, fc_isEmptyAt hl, h.c]
      unfold fo_w
      generalize 4 * c + k = l at hl hp el el2 ⊢
      by_cases h0 : Mm 7 l = 0
      · rw [if_pos h0, if_neg (show ¬ (1 : Int) = 0 by decide), if_neg (show ¬ decide (0 < Mm 7 l) = true by rw [decide_eq_true_eq]; omega), if_neg (show ¬ (0 : Int) ≠ 0 by decide)]
        by_cases hz : 0 ≤ z ∧ z ≤ 2
        · rw [if_pos hz, if_neg (show ¬ (1 : Int) = 0 by decide)]; exact px_no h
        · rw [if_neg hz, if_pos rfl]; exact px_no h
      · rw [if_neg h0, if_pos rfl, if_pos (show decide (0 < Mm 7 l) = true by rw [decide_eq_true_eq]; omega), if_pos (show (1 : Int) ≠ 0 by decide), fo_t0]
        by_cases hz : 0 ≤ z ∧ z ≤ 2
        · rw [if_pos hz, if_neg (show ¬ (1 : Int) = 0 by decide)]
          rcases (by omega : z = 0 ∨ z = 1 ∨ z = 2) with e | e | e <;> subst e
          · rw [if_pos rfl, if_neg (fun h => h rfl), fm_pageAt (by rw [e7, fo_t0]; omega), e7, fo_t0]
            exact px_yes h (fr_pg (b := 1) h.c hl)
          · rw [if_neg (by decide), if_pos rfl, if_pos (by decide), if_neg (fun h => h rfl), show ((64 : Int) + (l : Int)).toNat = 64 + l by omega]
            exact px_yes h (fr_vl (b := 1) h.c hl h0)
          · rw [if_neg (by decide), if_neg (by decide), if_pos rfl, if_pos (by decide), if_pos (by decide), show ((128 : Int) + (l : Int)).toNat = 128 + l by omega]
            exact px_yes h (fr_st (b := 1) h.c hl h0)
        · rw [if_neg hz, if_pos rfl, if_neg (by omega), if_neg (by omega), if_neg (by omega)]
          exact px_no h
    · have hc : (if y < 0 then (False, (0 : Int)) else if y < 4 then (if f_X0_isEmptyAt 1 ((c : Int) * 4 + y) Mc = 0 then (if z = 0 then (True, Mc 2 ((c : Int) * 4 + y).toNat) else if z = 1 then (True, Mc 3 ((c : Int) * 4 + y).toNat) else if z = 2 then (True, Mc 4 ((c : Int) * 4 + y).toNat) else (False, 0)) else (False, 0)) else (False, 0)) = (False, 0) := by
        by_cases h0 : y < 0
        · rw [if_pos h0]
        · rw [if_neg h0, if_neg (by omega)]
      rw [hc, if_neg hy, if_pos rfl]
      exact px_no h
  · rw [if_neg hx, if_pos rfl]
    by_cases h0 : x < 0
    · rw [if_pos h0]; exact px_no h
    · rw [if_neg h0, if_pos (by omega)]; exact px_no h
theorem fm_blockL {w1 w2 : Int} {c : Nat} (hc : c < 16) (e : w1 = (c : Int)) (hP : fo_Pg (M 7)) (hS : fo_St (M 7)) (kx : Int → Int → Int × ax_M) : ∀ (n i : Nat) (v u : Int), i + n = 4 → f_X3_block_L37 w1 w2 M n i v u kx = kx (fo_fold (fo_ob (fun k => decide (0 < M 7 (4 * c + k)))) n i v) (fo_fold (fo_ob (fun k => fo_isL (M 7) (4 * c + k))) n i u) := by
  subst e
  intro n
  induction n with
  | zero => intro i v u _; rw [fo_fold_z, fo_fold_z]; rfl
  | succ n ih =>
    intro i v u h
    have hl : 4 * c + i < 64 := by omega
    have el : (4 * (c : Int)) + (i : Int) = ((4 * c + i : Nat) : Int) := by omega
    rw [f_X3_block_L37, f_X3_block_B37, fm_isW, el, fm_isLatest hl hP hS, fo_fold_s, fo_fold_s]
    simp only [ax_bd]
    have e1 : fo_w (M 7) c i = decide (0 < M 7 (4 * c + i)) := rfl
    rw [e1]
    have o1 : fo_ob (fun k => decide (0 < M 7 (4 * c + k))) i v = ax_or v (if decide (0 < M 7 (4 * c + i)) = true then ax_shl 1 (i : Int) else 0) := rfl
    have o2 : fo_ob (fun k => fo_isL (M 7) (4 * c + k)) i u = ax_or u (if fo_isL (M 7) (4 * c + i) = true then ax_shl 1 (i : Int) else 0) := rfl
    rw [o1, o2]
    by_cases h1 : decide (0 < M 7 (4 * c + i)) = true
    · rw [if_pos h1, if_pos h1, if_neg (show ¬ (1 : Int) = 0 by decide)]
      by_cases h2 : fo_isL (M 7) (4 * c + i) = true
      · rw [if_pos h2, if_pos h2, if_neg (show ¬ (1 : Int) = 0 by decide)]
        exact ih (i + 1) _ _ (by omega)
      · rw [if_neg h2, if_neg h2, if_pos rfl]
        exact ih (i + 1) _ _ (by omega)
    · rw [if_neg h1, if_neg h1, if_pos rfl]
      by_cases h2 : fo_isL (M 7) (4 * c + i) = true
      · rw [if_pos h2, if_pos h2, if_neg (show ¬ (1 : Int) = 0 by decide)]
        exact ih (i + 1) _ _ (by omega)
      · rw [if_neg h2, if_neg h2, if_pos rfl]
        exact ih (i + 1) _ _ (by omega)
theorem px_block {x y : Int} (hC : C ≤ 2147483647) (h : pr_G C Mc Mm) : px C (f_X2_block x y Mc) Mc (f_X3_block x y Mm) := by
  have hI := h.I
  have hW := hI.2.1
  have hP := hW.pg
  have hG := h.1.1.2.1.2
  have e7 : ax_up Mm 0 0 0 7 = Mm 7 := ax_up_ne (by decide)
  unfold f_X2_block f_X3_block f_X3_isBlock
  simp only [ax_bd]
  rw [fm_inE, fm_inE]
  by_cases hx : 0 ≤ x ∧ x ≤ 15
  · obtain ⟨c, rfl⟩ : ∃ c : Nat, x = (c : Int) := ⟨x.toNat, by omega⟩
    have hc : c < 16 := by omega
    rw [if_neg (by omega), if_pos (by omega), if_pos hx, if_neg (show ¬ (1 : Int) = 0 by decide)]
    by_cases hy : 0 ≤ y ∧ y ≤ 4
    · rw [if_pos hy, if_pos (show (1 : Int) ≠ 0 by decide), fm_blockL hc rfl (by rw [e7]; exact hP) (by rw [e7]; exact hW.st (by omega)) _ 4 0 0 0 rfl, e7, fo_t0]
      have w1 : f_X0_writtenIn 1 (c : Int) Mc = fo_fold (fo_ob (fun k => decide (0 < Mm 7 (4 * c + k)))) 4 0 0 := by
        rw [fc_writtenIn hc (by rw [h.c]; exact hP), h.c]
      have w2 : f_X0_latestIn 1 (c : Int) Mc = fo_fold (fo_ob (fun k => fo_isL (Mm 7) (4 * c + k))) 4 0 0 := by
        rw [fc_latestIn hc (by rw [h.c]; exact hP) (by rw [h.c]; exact hW.kd) (by rw [h.c]; exact hW.em) (by rw [h.c]; exact hW.on), h.c]
      rcases (by omega : y = 0 ∨ y = 1 ∨ y = 2 ∨ y = 3 ∨ y = 4) with e | e | e | e | e <;> subst e
      · rw [if_pos rfl, if_pos rfl, show ((192 : Int) + (c : Int)).toNat = 192 + c by omega]
        exact px_yes h (fr_kd (b := 1) h.c hc)
      · rw [if_neg (by decide), if_pos rfl, if_neg (by decide), if_pos rfl, show ((208 : Int) + (c : Int)).toNat = 208 + c by omega]
        exact px_yes h (fr_ow (b := 1) h.c hc)
      · rw [if_neg (by decide), if_neg (by decide), if_pos rfl, if_neg (by decide), if_neg (by decide), if_pos rfl]
        exact px_yes h w1
      · rw [if_neg (by decide), if_neg (by decide), if_neg (by decide), if_pos rfl, if_neg (by decide), if_neg (by decide), if_neg (by decide), if_pos rfl]
        exact px_yes h w2
      · rw [if_neg (by decide), if_neg (by decide), if_neg (by decide), if_neg (by decide), if_pos rfl, if_neg (by decide), if_neg (by decide), if_neg (by decide), if_neg (by decide), show ((224 : Int) + (c : Int)).toNat = 224 + c by omega]
        exact px_yes h (fr_wi (b := 1) h.c hc)
    · rw [if_neg hy, if_neg (show ¬ y = 0 by omega), if_neg (show ¬ y = 1 by omega), if_neg (show ¬ y = 2 by omega), if_neg (show ¬ y = 3 by omega), if_neg (show ¬ y = 4 by omega), if_neg (show ¬ (0 : Int) ≠ 0 by decide)]
      exact px_no h
  · rw [if_neg hx, if_pos rfl]
    by_cases h0 : x < 0
    · rw [if_pos h0]; exact px_no h
    · rw [if_neg h0, if_neg (by omega)]; exact px_no h
end PXS
