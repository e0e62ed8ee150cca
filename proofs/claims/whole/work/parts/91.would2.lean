/-! ===== worst, burst, lasts, side by side ===== -/
section PRT
variable {C D : Int} {Mc Mm Nc Nm Zc Zm X Y M : ax_M} {r τ : fo_R}
theorem pq_worstL (hC : C < 2000000000) : ∀ (n i : Nat) (v1 v1' v2 v3 : Int) (Nc Nm : ax_M), i + n = 24 → pr_B C r Nc Nm → (v1 = v1' ∨ (i = 0 ∧ v2 = -1)) →
    pq C (f_X2_worst_L13 n i v1 v2 v3 Nc (fun z11 z12 z13 M14 => (True, (z11, f_X2_tell z13 (f_X2_tell z12 (f_X2_tellAnew M14)))))) (f_X3_worst_L14 n i v1' v2 v3 Nm (fun z9 z10 z11 M12 => ax_rc (f_X3_enters z10 (ax_up M12 0 1 0)) (fun M14 => ax_rc (f_X3_enters z11 M14) (fun M15 => (True, (z9, M15)))))) := by
  intro n
  induction n with
  | zero =>
    intro i v1 v1' v2 v3 Nc Nm hi hB hv
    have hv : v1 = v1' := by omega
    subst hv
    simp only [f_X2_worst_L13, f_X3_worst_L14]
    have s0 := vs_anew hB.1.1 hB.2.1
    unfold pq ax_rc
    dsimp only
    generalize f_X2_tellAnew Nc = Z0 at s0 ⊢
    generalize ax_up Nm 0 1 0 = W0 at s0 ⊢
    obtain ⟨q1, s1⟩ := vs_tell (x := v2) s0 (by decide)
    generalize f_X2_tell (v2) Z0 = Z1 at s1 ⊢
    generalize f_X3_enters (v2) W0 = y1 at q1 s1 ⊢
    obtain ⟨q2, s2⟩ := vs_tell (x := v3) s1 (by decide)
    generalize f_X2_tell (v3) Z1 = Z2 at s2 ⊢
    generalize f_X3_enters (v3) y1.2 = y2 at q2 s2 ⊢
    exact ⟨trivial, ⟨q1, q2, trivial⟩, rfl, s2.1.g⟩
  | succ n ih =>
    intro i v1 v1' v2 v3 Nc Nm hi hB hv
    simp only [f_X2_worst_L13, f_X2_worst_B13, f_X3_worst_L14, f_X3_worst_B14, ax_bd_e]
    have hV := pv_begin hB
    have h270 := hB.1.1.1.2.1.2
    rw [hB.2.1] at h270
    generalize f_X2_beginTrial Nc = Tc at hV ⊢
    generalize f_X3_copiesAll Nm = Tm at hV ⊢
    obtain ⟨w1, w2, τ, w3, w4, w5, _, _, _, _, _, _⟩ := pv_writeR (p := i) (v := 0) hC (by omega) (by decide) (by omega) hV
    refine pq_lc w1 ?_
    refine pq_rc w2 ?_
    generalize f_X0_write 13 (i : Int) 0 (Tc 0 7) Tc = X at w1 w3 ⊢
    generalize f_X3_writesOne 8 (i : Int) 0 Tm = Y at w2 w3 ⊢
    have hc0 := hV.2.2.2.2.2.2.2.1.ct 265 (by omega) (by omega)
    have e5 : f_X0_since 13 2 X.2.2 = ax_wr (τ 265 - r 265) := pv_since (k := 2) (by decide) (by decide) w3
    have e7 : f_X0_since 13 3 X.2.2 = ax_wr (τ 266 - r 266) := pv_since (k := 3) (by decide) (by decide) w3
    have m5 : ax_wr (Y.2.2 8 265 - Y.2.2 0 26) = ax_wr (τ 265 - r 265) := by rw [w3.2.2.1, w3.2.2.2.2.1]
    have m7 : ax_wr (Y.2.2 8 266 - Y.2.2 0 27) = ax_wr (τ 266 - r 266) := by rw [w3.2.2.1, w3.2.2.2.2.2.1]
    have hpos : 0 ≤ ax_wr (τ 265 - r 265) := by rw [ax_wr_id (by omega) (by omega)]; omega
    rw [e5, e7, m5, m7]
    generalize ax_wr (τ 265 - r 265) = y5 at hpos ⊢
    generalize ax_wr (τ 266 - r 266) = y7
    by_cases h1 : v2 < y5
    · rw [if_pos h1, if_pos h1]
      exact ih (i + 1) _ _ _ _ _ _ (by omega) w3.1 (Or.inl rfl)
    · rw [if_neg h1, if_neg h1]
      have hv' : v1 = v1' := by omega
      by_cases h2 : y5 ≠ v2
      · rw [if_pos h2, if_pos h2]
        exact ih (i + 1) _ _ _ _ _ _ (by omega) w3.1 (Or.inl hv')
      · rw [if_neg h2, if_neg h2]
        by_cases h3 : y7 ≤ v3
        · rw [if_pos h3, if_pos h3]
          exact ih (i + 1) _ _ _ _ _ _ (by omega) w3.1 (Or.inl hv')
        · rw [if_neg h3, if_neg h3]
          exact ih (i + 1) _ _ _ _ _ _ (by omega) w3.1 (Or.inl rfl)
theorem pq_worst (hC : C < 2000000000) (h : pr_G C Mc Mm) : pq C (f_X2_worst Mc) (f_X3_worst Mm) := by
  have hB := pb_B (h.th (x := 0))
  unfold f_X2_worst f_X3_worst
  simp only [ax_bd_e]
  exact pq_worstL hC 24 0 _ _ _ _ _ _ rfl hB (Or.inr ⟨rfl, rfl⟩)
theorem pq_burstL (hC : C < 2000000000) {p : Nat} {w2 : Int} : ∀ (n i : Nat) (τ : fo_R) (Nc Nm : ax_M), pr_V C r τ Nc Nm → τ 270 + (n : Int) < 2147483647 →
    pq C (f_X2_burst_L30 (p : Int) w2 n (i : Int) Nc (fun M8 => f_X2_burst_L66 4 3 (f_X2_tellAnew M8) (fun M12 => (True, (f_X0_since 13 2 M12, M12))))) (f_X3_burst_L32 (p : Int) w2 n (i : Int) Nm (fun M8 => ax_rc (f_X3_enters (ax_wr ((ax_up M8 0 1 0 8 266) - (ax_up M8 0 1 0 0 27))) (ax_up M8 0 1 0)) (fun M10 => ax_rc (f_X3_enters (ax_wr ((M10 8 267) - (M10 7 267))) M10) (fun M11 => ax_rc (f_X3_enters (ax_wr ((M11 8 268) - (M11 7 268))) M11) (fun M12 => ax_rc (f_X3_enters (ax_wr ((M12 8 269) - (M12 7 269))) M12) (fun M13 => (True, ((ax_wr ((M13 8 265) - (M13 0 26))), M13)))))))) := by
  intro n
  induction n with
  | zero =>
    intro i τ Nc Nm hV _
    simp only [f_X2_burst_L30, f_X3_burst_L32, f_X2_burst_L66, f_X2_burst_B66, ax_bd_e]
    have s0 := vs_anew hV.1.1.1 hV.1.2.1
    unfold pq ax_rc
    dsimp only
    generalize f_X2_tellAnew Nc = Z0 at s0 ⊢
    generalize ax_up Nm 0 1 0 = W0 at s0 ⊢
    rw [show f_X0_since 13 ((3 : Nat) : Int) Z0 = ax_wr (τ 266 - r 266) from vs_since (k := 3) hV s0 (by decide) (by decide), (vs_m hV s0).1, (vs_m hV s0).2.2.1]
    obtain ⟨q1, s1⟩ := vs_tell (x := ax_wr (τ 266 - r 266)) s0 (by decide)
    generalize f_X2_tell (ax_wr (τ 266 - r 266)) Z0 = Z1 at s1 ⊢
    generalize f_X3_enters (ax_wr (τ 266 - r 266)) W0 = y1 at q1 s1 ⊢
    rw [show f_X0_since 13 ((3 + 1 : Nat) : Int) Z1 = ax_wr (τ 267 - r 267) from vs_since (k := 4) hV s1 (by decide) (by decide), (vs_m hV s1).1, (vs_m hV s1).2.2.2]
    obtain ⟨q2, s2⟩ := vs_tell (x := ax_wr (τ 267 - r 267)) s1 (by decide)
    generalize f_X2_tell (ax_wr (τ 267 - r 267)) Z1 = Z2 at s2 ⊢
    generalize f_X3_enters (ax_wr (τ 267 - r 267)) y1.2 = y2 at q2 s2 ⊢
    rw [show f_X0_since 13 ((3 + 1 + 1 : Nat) : Int) Z2 = ax_wr (τ 268 - r 268) from vs_since (k := 5) hV s2 (by decide) (by decide), (vs_m hV s2).1, (vs_m hV s2).2.2.2]
    obtain ⟨q3, s3⟩ := vs_tell (x := ax_wr (τ 268 - r 268)) s2 (by decide)
    generalize f_X2_tell (ax_wr (τ 268 - r 268)) Z2 = Z3 at s3 ⊢
    generalize f_X3_enters (ax_wr (τ 268 - r 268)) y2.2 = y3 at q3 s3 ⊢
    rw [show f_X0_since 13 ((3 + 1 + 1 + 1 : Nat) : Int) Z3 = ax_wr (τ 269 - r 269) from vs_since (k := 6) hV s3 (by decide) (by decide), (vs_m hV s3).1, (vs_m hV s3).2.2.2]
    obtain ⟨q4, s4⟩ := vs_tell (x := ax_wr (τ 269 - r 269)) s3 (by decide)
    generalize f_X2_tell (ax_wr (τ 269 - r 269)) Z3 = Z4 at s4 ⊢
    generalize f_X3_enters (ax_wr (τ 269 - r 269)) y3.2 = y4 at q4 s4 ⊢
    rw [show f_X0_since 13 2 Z4 = ax_wr (τ 265 - r 265) from vs_since (k := 2) hV s4 (by decide) (by decide), (vs_m hV s4).1, (vs_m hV s4).2.1]
    exact ⟨trivial, ⟨q1, q2, q3, q4, trivial⟩, rfl, s4.1.g⟩
  | succ n ih =>
    intro i τ Nc Nm hV hclk
    simp only [f_X2_burst_L30, f_X2_burst_B30, f_X3_burst_L32, f_X3_burst_B32]
    have ep : ((p : Int) + (i : Int)) % 24 = (((p + i) % 24 : Nat) : Int) := by omega
    rw [ep, show (i : Int) + 1 = ((i + 1 : Nat) : Int) by omega]
    obtain ⟨w1, w2, τ', w3, w4, _⟩ := pv_writeR (p := (p + i) % 24) (v := 0) hC (by omega) (by decide) (by omega) hV
    refine pq_lc w1 ?_
    refine pq_rc w2 ?_
    exact ih (i + 1) τ' _ _ w3 (by omega)
theorem pq_burst {x n : Int} (hC : C < 2000000000) (h : pr_G C Mc Mm) : pq C (f_X2_burst x n Mc) (f_X3_burst x n Mm) := by
  have hG := h.th (x := 0)
  have hB := pb_B hG
  have e7 : ax_up Mm 0 0 0 7 = Mm 7 := ax_up_ne (by decide)
  rw [e7] at hB
  have hV := pv_begin hB
  have h270 := h.1.1.2.1.2
  unfold f_X2_burst f_X3_burst
  simp only [ax_bd_e]
  rcases fx_page x with ⟨p, hp, e, h1, h2⟩ | ⟨h1, h2⟩
  · subst e
    rw [h1, h2, if_neg (show ¬ ((1 : Int) = 0) by decide), if_neg (show ¬ ((1 : Int) = 0) by decide), fm_inE]
    by_cases hn : 1 ≤ n ∧ n ≤ 24
    · rw [if_neg (show ¬ (n < 1) by omega), if_pos hn.2, if_pos hn, if_pos (show (1 : Int) ≠ 0 by decide)]
      exact pq_burstL hC _ 0 _ _ _ hV (by omega)
    · rw [if_neg hn, if_neg (show ¬ ((0 : Int) ≠ 0) by decide)]
      by_cases h3 : n < 1
      · rw [if_pos h3]
        exact ⟨trivial, trivial, rfl, hG⟩
      · rw [if_neg h3, if_neg (by omega)]
        exact ⟨trivial, trivial, rfl, hG⟩
  · rw [h1, h2, if_pos rfl, if_pos rfl]
    exact ⟨trivial, trivial, rfl, hG⟩
/-- the first block of k wipes or more -/
def fo_worn (τ : fo_R) (k : Int) : Int := fo_find (fun b => decide (k ≤ τ (224 + b))) 16 0
theorem fc_wornTo {b : Nat} {k : Int} (h : fo_cr b M = τ) : f_X0_wornTo b k M = fo_worn τ k := by
  unfold f_X0_wornTo fo_worn
  refine fo_findL (L := fun n i => f_X0_wornTo_L2 b k M n i (fun (_ : Unit) => -1)) (N := 16) (fun _ => rfl) (fun n i hi => ?_) 16 0 rfl
  show f_X0_wornTo_B2 b k M i _ _ = _
  unfold f_X0_wornTo_B2
  rw [fr_wi h (by omega)]
  by_cases hk : k ≤ τ (224 + i)
  · rw [if_neg (by omega), if_pos (by rw [decide_eq_true_eq]; exact hk)]
  · rw [if_pos (by omega), if_neg (by rw [decide_eq_true_eq]; exact hk)]
/-- what is told of it -/
def fl_end (w3 : Int) (M : ax_M) (b : Int) : Prop × Int × ax_M := ax_rc (f_X3_enters b (ax_up M 0 1 0)) (fun M9 => ax_rc (f_X3_enters (ax_wr ((M9 8 265) - (M9 0 26))) M9) (fun M10 => (True, (w3, M10))))
theorem fm_wornL {w1 w3 k : Int} {kx : Unit → Prop × Int × ax_M} (h : M 8 = τ) : ∀ (n i : Nat), i + n = 16 → f_X3_lasts_L41 w1 k w3 M n i kx = if fo_find (fun b => decide (k ≤ τ (224 + b))) n i = -1 then kx () else fl_end w3 M (fo_find (fun b => decide (k ≤ τ (224 + b))) n i) := by
  intro n
  induction n with
  | zero => intro i _; rw [fo_find_z, if_pos rfl]; rfl
  | succ n ih =>
    intro i hi
    simp only [f_X3_lasts_L41, f_X3_lasts_B41, ax_bd_e]
    rw [fo_t224, h]
    by_cases hk : k ≤ τ (224 + i)
    · have e : fo_find (fun b => decide (k ≤ τ (224 + b))) (n + 1) i = (i : Int) := by rw [fo_find_s, if_pos (by rw [decide_eq_true_eq]; exact hk)]
      rw [e, if_neg (show ¬ (τ (224 + i) < k) by omega), if_neg (show ¬ ((i : Int) = -1) by omega)]
      rfl
    · have e : fo_find (fun b => decide (k ≤ τ (224 + b))) (n + 1) i = fo_find (fun b => decide (k ≤ τ (224 + b))) n (i + 1) := by rw [fo_find_s, if_neg (by rw [decide_eq_true_eq]; exact hk)]
      rw [e, if_pos (show τ (224 + i) < k by omega)]
      exact ih (i + 1) (by omega)
theorem pq_lastsL (hC : C < 2000000000) {p : Nat} {k : Int} (hp : p < 24) : ∀ (n i : Nat) (τ : fo_R) (Nc Nm : ax_M), i + (n + 1) = 100 → pr_V C r τ Nc Nm → τ 270 + (n : Int) + 1 < 2147483647 →
    pq C (f_X2_lasts_L41 (p : Int) k (n + 1) (i : Int) (fo_worn τ k) Nc (fun z15 z16 M17 => (if z16 ≠ (-1) then (True, (z15, f_X2_tell (f_X0_since 13 2 (f_X2_tell z16 (f_X2_tellAnew M17))) (f_X2_tell z16 (f_X2_tellAnew M17)))) else (True, ((-2), M17))))) (f_X3_lasts_L32 (p : Int) k (n + 1) i Nm (fun M12 => (True, ((-2), M12)))) := by
  intro n
  have fin : ∀ (w : Int) (τ : fo_R) (Nc Nm : ax_M), pr_V C r τ Nc Nm → ∀ z : Int, pq C (True, (w, f_X2_tell (f_X0_since 13 2 (f_X2_tell z (f_X2_tellAnew Nc))) (f_X2_tell z (f_X2_tellAnew Nc)))) (fl_end w Nm z) := by
    intro w τ Nc Nm hV z
    have s0 := vs_anew hV.1.1.1 hV.1.2.1
    unfold fl_end pq ax_rc
    dsimp only
    generalize f_X2_tellAnew Nc = Z0 at s0 ⊢
    generalize ax_up Nm 0 1 0 = W0 at s0 ⊢
    obtain ⟨q1, s1⟩ := vs_tell (x := z) s0 (by decide)
    generalize f_X2_tell (z) Z0 = Z1 at s1 ⊢
    generalize f_X3_enters (z) W0 = y1 at q1 s1 ⊢
    rw [show f_X0_since 13 2 Z1 = ax_wr (τ 265 - r 265) from vs_since (k := 2) hV s1 (by decide) (by decide), (vs_m hV s1).1, (vs_m hV s1).2.1]
    obtain ⟨q2, s2⟩ := vs_tell (x := ax_wr (τ 265 - r 265)) s1 (by decide)
    generalize f_X2_tell (ax_wr (τ 265 - r 265)) Z1 = Z2 at s2 ⊢
    generalize f_X3_enters (ax_wr (τ 265 - r 265)) y1.2 = y2 at q2 s2 ⊢
    exact ⟨trivial, ⟨q1, q2, trivial⟩, rfl, s2.1.g⟩
  induction n with
  | zero =>
    intro i τ Nc Nm hi hV hclk
    simp only [f_X2_lasts_L41, f_X2_lasts_B41, f_X3_lasts_L32, f_X3_lasts_B32]
    rw [fm_wornL hV.2.2.1 16 0 rfl]
    change pq C _ (if fo_worn τ k = -1 then _ else fl_end (i : Int) Nm (fo_worn τ k))
    by_cases hw : fo_worn τ k = -1
    · rw [if_neg (fun h => h hw), if_pos (show (99 : Int) ≤ (i : Int) by omega), if_neg (fun h => h hw), if_pos hw]
      obtain ⟨w1, w2, τ', w3, _, _, _, _, _, _, _, w9⟩ := pv_writeR (v := 0) hC hp (by decide) (by omega) hV
      refine pq_rc w2 ?_
      exact ⟨trivial, trivial, rfl, w9.1⟩
    · rw [if_pos hw, if_pos hw, if_neg hw]
      exact fin _ τ Nc Nm hV _
  | succ n ih =>
    intro i τ Nc Nm hi hV hclk
    rw [f_X2_lasts_L41, f_X3_lasts_L32]
    unfold f_X2_lasts_B41 f_X3_lasts_B32
    rw [fm_wornL hV.2.2.1 16 0 rfl]
    change pq C _ (if fo_worn τ k = -1 then _ else fl_end (i : Int) Nm (fo_worn τ k))
    by_cases hw : fo_worn τ k = -1
    · rw [if_neg (fun h => h hw), if_neg (show ¬ ((99 : Int) ≤ (i : Int)) by omega), if_pos hw]
      obtain ⟨w1, w2, τ', w3, w4, _⟩ := pv_writeR (v := 0) hC hp (by decide) (by omega) hV
      refine pq_lc w1 ?_
      refine pq_rc w2 ?_
      rw [fc_wornTo w3.2.1, show (i : Int) + 1 = ((i + 1 : Nat) : Int) by omega]
      exact ih (i + 1) τ' _ _ (by omega) w3 (by omega)
    · rw [if_pos hw, if_neg hw]
      show pq C (if fo_worn τ k ≠ -1 then _ else _) _
      rw [if_pos hw]
      exact fin _ τ Nc Nm hV _
theorem pq_lasts {x k : Int} (hC : C < 2000000000) (h : pr_G C Mc Mm) : pq C (f_X2_lasts x k Mc) (f_X3_lasts x k Mm) := by
  have hG := h.th (x := 0)
  have hB := pb_B hG
  have e7 : ax_up Mm 0 0 0 7 = Mm 7 := ax_up_ne (by decide)
  rw [e7] at hB
  have hV := pv_begin hB
  have h270 := h.1.1.2.1.2
  unfold f_X2_lasts f_X3_lasts
  simp only [ax_bd_e]
  rcases fx_page x with ⟨p, hp, e, h1, h2⟩ | ⟨h1, h2⟩
  · subst e
    rw [h1, h2, if_neg (show ¬ ((1 : Int) = 0) by decide), if_neg (show ¬ ((1 : Int) = 0) by decide), fm_inE]
    by_cases hn : 1 ≤ k ∧ k ≤ 999
    · rw [if_neg (show ¬ (k < 1) by omega), if_pos hn.2, if_pos hn, if_pos (show (1 : Int) ≠ 0 by decide), fc_wornTo hV.2.1]
      exact pq_lastsL hC hp 99 0 _ _ _ rfl hV (by omega)
    · rw [if_neg hn, if_neg (show ¬ ((0 : Int) ≠ 0) by decide)]
      by_cases h3 : k < 1
      · rw [if_pos h3]
        exact ⟨trivial, trivial, rfl, hG⟩
      · rw [if_neg h3, if_neg (by omega)]
        exact ⟨trivial, trivial, rfl, hG⟩
  · rw [h1, h2, if_pos rfl, if_pos rfl]
    exact ⟨trivial, trivial, rfl, hG⟩
end PRT
