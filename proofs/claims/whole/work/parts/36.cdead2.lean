/-! ===== the class's larger acts once the steps are used up ===== -/
def fz_Z (b : Nat) (c : Int) (M N : ax_M) : Prop := fo_Dz b c M N ∧ fo_Fr b M N
/-- the last act first -/
theorem fz_tr {b : Nat} {c d e : Int} {M N O : ax_M} (g : fz_Z b d N O) (h : fz_Z b c M N) (hc : 0 ≤ d) (he : c + d ≤ e) : fz_Z b e M O := ⟨h.1.tr g.1 hc he, h.2.tr g.2⟩
theorem fz_rf {b : Nat} {c : Int} {M : ax_M} (h : 0 ≤ c) : fz_Z b c M M := ⟨fo_Dz.rf h, fo_Fr.rf⟩
theorem fz_foldZ {b : Nat} {c : Int} {f : Nat → ax_M → ax_M} (hc : 0 ≤ c) (h : ∀ i M, fz_Z b c M (f i M)) (n i : Nat) (M : ax_M) : fz_Z b ((n : Int) * c) M (fo_fold f n i M) := ⟨fo_Dz.fold hc (fun i M => (h i M).1) n i M, fo_Fr.fold (fun i M => (h i M).2) n i M⟩
theorem fz_KZ {b i : Nat} {M : ax_M} {v : Int} : fz_Z b 0 M (ax_up M (b + 4) i v) := ⟨fo_Dz.up (by omega) (by omega) (fo_cr_K' _), fo_Fr.up (by omega) (by omega)⟩
theorem fz_OZ {b i : Nat} {M : ax_M} {v : Int} : fz_Z b 0 M (ax_up M (b + 5) i v) := ⟨fo_Dz.up (by omega) (by omega) (fo_cr_O' _), fo_Fr.up (by omega) (by omega)⟩
theorem fz_17Z {b : Nat} {M : ax_M} {v : Int} : fz_Z b 0 M (ax_up M b 17 v) := ⟨⟨by rw [fo_up_at, fo_u_o (by omega)], fun _ _ _ => ⟨by rw [fo_up_at, fo_u_o (by omega)]; omega, by rw [fo_up_at, fo_u_o (by omega)]; omega, fun j hj => by rw [fo_cr_o (Or.inl (Nat.le_refl _))]⟩⟩, fo_Fr.upo (by omega)⟩
theorem fc_filledR {b : Nat} {M : ax_M} {x : Int} : 0 ≤ f_X0_filled b x M ∧ f_X0_filled b x M ≤ 4 := by
  simp only [f_X0_filled, f_X0_filled_L2, f_X0_filled_B2]
  repeat' split
  all_goals omega
def fz_cl (b : Nat) (w3 : Int) (i : Nat) (M : ax_M) : ax_M := if (ax_and (ax_shr w3 (i : Int)) 1) = 0 then M else (f_X0_fullMerge b (i : Int) M).2
theorem fz_clearL {b : Nat} {w1 w2 w3 : Int} (kx : ax_M → Int × ax_M) : ∀ (n i : Nat) (M : ax_M), f_X0_clearFirst_L41 b w1 w2 w3 n i M kx = kx (fo_fold (fz_cl b w3) n i M) := by
  intro n
  induction n with
  | zero => intro i M; rw [fo_fold_z]; rfl
  | succ n ih =>
    intro i M
    rw [fo_fold_s]
    show (if (ax_and (ax_shr w3 (i : Int)) 1) = 0 then f_X0_clearFirst_L41 b w1 w2 w3 n (i + 1) M kx else f_X0_clearFirst_L41 b w1 w2 w3 n (i + 1) (f_X0_fullMerge b (i : Int) M).2 kx) = kx (fo_fold (fz_cl b w3) n (i + 1) (fz_cl b w3 i M))
    rw [ih, ih]
    unfold fz_cl
    split <;> rfl
def fz_rn (b : Nat) (w1 : Int) (i : Nat) (M : ax_M) : ax_M := if (M (b + 4) i) ≠ w1 then M else ax_up M (b + 5) i (ax_wr ((M (b + 5) i) - 1))
theorem fz_renL {b : Nat} {w1 w3 : Int} (kx : ax_M → Int × ax_M) : ∀ (n i : Nat) (M : ax_M), f_X0_clearFirst_L78 b w1 w3 n i M kx = kx (fo_fold (fz_rn b w1) n i M) := by
  intro n
  induction n with
  | zero => intro i M; rw [fo_fold_z]; rfl
  | succ n ih =>
    intro i M
    rw [fo_fold_s]
    show (if (M (b + 4) i) ≠ w1 then f_X0_clearFirst_L78 b w1 w3 n (i + 1) M kx else f_X0_clearFirst_L78 b w1 w3 n (i + 1) (ax_up M (b + 5) i (ax_wr ((M (b + 5) i) - 1))) kx) = kx (fo_fold (fz_rn b w1) n (i + 1) (fz_rn b w1 i M))
    rw [ih, ih]
    unfold fz_rn
    split <;> rfl
theorem fz_rnz {b : Nat} {w1 : Int} (i : Nat) (M : ax_M) : fz_Z b 0 M (fz_rn b w1 i M) := by
  unfold fz_rn
  split
  · exact fz_rf (by omega)
  · exact fz_OZ
theorem fz_clz {b : Nat} {w3 : Int} (i : Nat) (M : ax_M) : fz_Z b 6 M (fz_cl b w3 i M) := by
  unfold fz_cl
  split
  · exact fz_rf (by omega)
  · exact fz_merge
theorem fz_seal {b : Nat} {M : ax_M} : fz_Z b 6 M (f_X0_sealRun b M).2 := by
  unfold f_X0_sealRun
  simp only [ax_bd]
  split
  · split
    · have h := fc_filledR (b := b) (M := M) (x := f_X0_firstOf b 2 M)
      have e : f_X0_filled b (f_X0_firstOf b 2 M) M = (((f_X0_filled b (f_X0_firstOf b 2 M) M).toNat : Nat) : Int) := by omega
      generalize hq : (f_X0_filled b (f_X0_firstOf b 2 M) M).toNat = q at e
      rw [e, show (4 - (q : Int)).toNat = 4 - q by omega, fz_sealL]
      have hn : (((4 - q : Nat) : Int)) * 1 ≤ 4 := by omega
      split
      · dsimp only
        refine fz_tr (c := 5) (d := 0) fz_count (fz_tr (c := 4) (d := 1) fz_wipe (fz_tr (c := 4) (d := 0) fz_KZ (fz_tr (c := ((4 - q : Nat) : Int) * 1) (d := 0) (fz_rf (by omega)) (fz_foldZ (by omega) (fun i M => fz_cpz i M) (4 - q) q M) (by omega) (by omega)) (by omega) (by omega)) (by omega) (by omega)) (by omega) (by omega)
      · dsimp only
        refine fz_tr (c := 5) (d := 0) fz_count (fz_tr (c := 4) (d := 1) fz_wipe (fz_tr (c := 4) (d := 0) fz_KZ (fz_tr (c := ((4 - q : Nat) : Int) * 1) (d := 0) (fz_rf (by omega)) (fz_foldZ (by omega) (fun i M => fz_cpz i M) (4 - q) q M) (by omega) (by omega)) (by omega) (by omega)) (by omega) (by omega)) (by omega) (by omega)
    · exact fz_merge
  · exact fz_rf (by omega)
theorem fz_clear {b : Nat} {M : ax_M} {k : Int} : fz_Z b 37 M (f_X0_clearFirst b k M).2 := by
  have h : fz_Z b 37 M (f_X0_clearFirst_J12 b k M).2 := by
    unfold f_X0_clearFirst_J12
    simp only [ax_bd]
    split
    · rw [fz_clearL, fz_renL]
      exact fz_tr (c := 37) (d := ((16 : Nat) : Int) * 0) (fz_foldZ (by omega) (fun i M => fz_rnz i M) 16 0 _) (fz_tr (c := ((6 : Nat) : Int) * 6) (d := 1) fz_wipe (fz_foldZ (by omega) (fun i M => fz_clz i M) 6 0 M) (by omega) (by omega)) (by omega) (by omega)
    · exact fz_rf (by omega)
  unfold f_X0_clearFirst
  split
  · exact h
  · split
    · exact h
    · exact fz_rf (by omega)
/-- to level: what is looked for -/
theorem fc_levelL {b : Nat} {M : ax_M} (kx : Int → Int → Int × ax_M) : f_X0_level_L6 b M 16 0 (-1) (-1) kx = kx (fo_lvl (fo_cr b M) 1) (fo_lvl (fo_cr b M) 0) := by
  have h : ∀ n i v1 v2, i + n = 16 → (-1 ≤ v1 ∧ v1 < 16) → (-1 ≤ v2 ∧ v2 < 16) → f_X0_level_L6 b M n i v1 v2 kx =
      kx (fo_fold (fo_bstep (fun c => decide (fo_cr b M (192 + c) = 1)) (fun c d => decide (if (1 : Int) = 1 then fo_cr b M (224 + c) < fo_cr b M (224 + d) else fo_cr b M (224 + d) < fo_cr b M (224 + c)))) n i v1) (fo_fold (fo_bstep (fun c => decide (fo_cr b M (192 + c) = 0)) (fun c d => decide (if (0 : Int) = 1 then fo_cr b M (224 + c) < fo_cr b M (224 + d) else fo_cr b M (224 + d) < fo_cr b M (224 + c)))) n i v2) := by
    intro n
    induction n with
    | zero => intro i v1 v2 _ _ _; rw [fo_fold_z, fo_fold_z]; rfl
    | succ n ih =>
      intro i v1 v2 hi h1 h2
      have e1 : fo_cr b M (192 + i) = M (b + 4) i := fo_dKd (by omega)
      have e2 : fo_cr b M (224 + i) = M (b + 6) i := fo_dWi (by omega)
      have e3 : fo_cr b M (224 + v1.toNat) = M (b + 6) v1.toNat := fo_dWi (by omega)
      have e4 : fo_cr b M (224 + v2.toNat) = M (b + 6) v2.toNat := fo_dWi (by omega)
      unfold f_X0_level_L6 f_X0_level_B6
      rw [fo_fold_s, fo_fold_s]
      have s1 : fo_bstep (fun c => decide (fo_cr b M (192 + c) = 1)) (fun c d => decide (if (1 : Int) = 1 then fo_cr b M (224 + c) < fo_cr b M (224 + d) else fo_cr b M (224 + d) < fo_cr b M (224 + c))) i v1 = if M (b + 4) i = 1 ∧ (v1 = -1 ∨ M (b + 6) i < M (b + 6) v1.toNat) then (i : Int) else v1 := by
        simp only [fo_bstep, e1, e2, e3, decide_eq_true_eq, if_true]
        by_cases hv : v1 = -1
        · simp [hv]
        · have : ¬ v1 < 0 := by omega
          simp [hv, this]
      have s2 : fo_bstep (fun c => decide (fo_cr b M (192 + c) = 0)) (fun c d => decide (if (0 : Int) = 1 then fo_cr b M (224 + c) < fo_cr b M (224 + d) else fo_cr b M (224 + d) < fo_cr b M (224 + c))) i v2 = if M (b + 4) i = 0 ∧ (v2 = -1 ∨ M (b + 6) v2.toNat < M (b + 6) i) then (i : Int) else v2 := by
        simp only [fo_bstep, e1, e2, e4, decide_eq_true_eq]
        by_cases hv : v2 = -1
        · simp [hv]
        · have : ¬ v2 < 0 := by omega
          simp [hv, this]
      rw [s1, s2]
      generalize hA : (if M (b + 4) i = 1 ∧ (v1 = -1 ∨ M (b + 6) i < M (b + 6) v1.toNat) then (i : Int) else v1) = A
      generalize hB : (if M (b + 4) i = 0 ∧ (v2 = -1 ∨ M (b + 6) v2.toNat < M (b + 6) i) then (i : Int) else v2) = B
      have rA : -1 ≤ A ∧ A < 16 := by rw [← hA]; split <;> omega
      have rB : -1 ≤ B ∧ B < 16 := by rw [← hB]; split <;> omega
      have IH := ih (i + 1) A B (by omega) rA rB
      rw [← IH]
      clear IH ih s1 s2 e1 e2 e3 e4
      generalize M (b + 4) i = ki at *
      generalize M (b + 6) i = wi at *
      generalize M (b + 6) v1.toNat = w1 at *
      generalize M (b + 6) v2.toNat = w2 at *
      by_cases k1 : ki = 1
      · subst k1
        simp at hA hB ⊢
        by_cases c1 : v1 = -1
        · simp [c1] at hA ⊢; simp [hA, hB]
        · by_cases c2 : w1 ≤ wi
          · have c3 : ¬ wi < w1 := by omega
            simp [c1, c2, c3] at hA ⊢; simp [hA, hB]
          · have c3 : wi < w1 := by omega
            simp [c1, c2, c3] at hA ⊢; simp [hA, hB]
      · by_cases k0 : ki = 0
        · subst k0
          simp at hA hB ⊢
          by_cases c1 : v2 = -1
          · simp [c1] at hB ⊢; simp [hA, hB]
          · by_cases c2 : wi ≤ w2
            · have c3 : ¬ w2 < wi := by omega
              simp [c1, c2, c3] at hB ⊢; simp [hA, hB]
            · have c3 : w2 < wi := by omega
              simp [c1, c2, c3] at hB ⊢; simp [hA, hB]
        · simp [k1, k0] at hA hB ⊢; simp [hA, hB]
  exact h 16 0 (-1) (-1) (by omega) (by omega) (by omega)
def fz_lc (b : Nat) (h f : Int) (i : Nat) (M : ax_M) : ax_M := f_X0_copyLeaf b ((h * 4) + (i : Int)) ((f * 4) + (i : Int)) M
theorem fz_lvlL {b : Nat} {w1 w2 : Int} (kx : ax_M → Int × ax_M) (M : ax_M) : f_X0_level_L111 b w1 w2 4 0 M kx = kx (fo_fold (fz_lc b w1 w2) 4 0 M) := by rw [fo_fold_s, fo_fold_s, fo_fold_s, fo_fold_s, fo_fold_z]; rfl
theorem fz_level {b : Nat} {M : ax_M} : fz_Z b 5 M (f_X0_level b M).2 := by
  unfold f_X0_level
  rw [fc_levelL]
  split
  · exact fz_rf (by omega)
  · split
    · exact fz_rf (by omega)
    · split
      · rw [fz_lvlL]
        simp only [ax_bd]
        exact fz_tr (c := 5) (d := 0) fz_17Z (fz_tr (c := 4) (d := 1) fz_wipe (fz_tr (c := 4) (d := 0) fz_OZ (fz_tr (c := ((4 : Nat) : Int) * 1) (d := 0) fz_KZ (fz_foldZ (by omega) (fun i M => fz_copy) 4 0 M) (by omega) (by omega)) (by omega) (by omega)) (by omega) (by omega)) (by omega) (by omega)
      · exact fz_rf (by omega)
