/-! ===== count, fits, asks, side by side ===== -/
/-- does a block fit all that was heard? -/
def fo_ft (r : fo_R) (W V : Nat → Int) (n c : Nat) : Bool := (List.range n).all (fun j => fo_so r c (W j) (V j))
section PRB
variable {C D : Int} {Mc Mm Nc Nm Zc Zm X Y M : ax_M} {r : fo_R}
theorem fc_blocksOf {w v : Int} (h : fo_cr 1 M = r) (hP : fo_Pg r) (hw : 0 ≤ w ∧ w ≤ 3) (hv : 0 ≤ v ∧ v ≤ 9) : f_X0_blocksOf 1 w v M = fo_fold (fo_ob (fun c => fo_so r c w v)) 16 0 0 := by
  refine fo_loop (L := fun n i x => f_X0_blocksOf_L5 1 w v M n i x (fun z => z)) (out := fun z => z) (f := fo_ob (fun c => fo_so r c w v)) (N := 16) (fun _ _ => True) (fun _ _ => rfl) (fun n i x hi _ => ⟨?_, trivial⟩) 16 0 0 (by omega) trivial
  simp only [f_X0_blocksOf_L5, f_X0_blocksOf_B5, fo_ob, ax_bd]
  rw [fc_isSo (by omega) h hP hw hv]
  by_cases hs : fo_so r i w v = true
  · rw [if_pos hs, if_neg (by decide), if_pos hs]
  · rw [if_neg hs, if_pos rfl, if_neg hs]
theorem fm_countL {x : Int} {kx : Int → Int → Int × ax_M} (h : M 7 = r) : ∀ (n i : Nat) (a b : Int), f_X3_count_L12 x M n i a b kx = kx (fo_fold (fo_ob (fun c => decide (r (192 + c) = 0))) n i a) (fo_fold (fo_sm (fun c => fo_sg (fo_id (fo_w r c)) 4)) n i b) := by
  intro n
  induction n with
  | zero => intro i a b; rw [fo_fold_z, fo_fold_z]; rfl
  | succ n ih =>
    intro i a b
    simp only [f_X3_count_L12, f_X3_count_B12, ax_bd_e]
    rw [fm_writtenIn, h, fo_t192, fo_fold_s, fo_fold_s]
    have e2 : fo_sm (fun c => fo_sg (fo_id (fo_w r c)) 4) i b = b + fo_sg (fo_id (fo_w r i)) 4 := rfl
    by_cases hk : r (192 + i) = 0
    · have e1 : fo_ob (fun c => decide (r (192 + c) = 0)) i a = ax_or a (ax_shl 1 (i : Int)) := by
        unfold fo_ob
        rw [if_pos (decide_eq_true hk)]
      rw [if_neg (fun h => h hk), ih, e1, e2]
    · have e1 : fo_ob (fun c => decide (r (192 + c) = 0)) i a = ax_or a 0 := by
        unfold fo_ob
        rw [if_neg (by rw [decide_eq_true_eq]; exact hk)]
      rw [if_pos hk, ih, e1, e2]
theorem fo_written_sum (hP : fo_Pg r) : fo_fold (fo_sm (fun c => fo_sg (fo_id (fo_w r c)) 4)) 16 0 0 = fo_sg (fo_id (fun l => decide (r l ≠ 0))) 64 := by
  have h1 := fo_sm_sg (f := fun c => fo_sg (fo_id (fo_w r c)) 4) 16 0 0
  have h0 : ∀ f, fo_sg f 0 = 0 := fun _ => rfl
  rw [h0, Int.add_zero, Int.zero_add, Nat.zero_add] at h1
  rw [h1]
  have h2 := fo_sg_4 (g := fo_id (fun l => decide (r l ≠ 0))) 16
  rw [show 64 = 4 * 16 from rfl, h2]
  refine fo_sg_congr 16 (fun c hc => fo_sg_congr 4 (fun k hk => ?_))
  have hp := hP (4 * c + k) (by omega)
  unfold fo_id fo_w
  by_cases h : r (4 * c + k) = 0
  · rw [if_neg (by rw [decide_eq_true_eq]; omega), if_neg (by rw [decide_eq_true_eq]; exact fun h' => h' h)]
  · rw [if_pos (decide_eq_true (by omega)), if_pos (decide_eq_true h)]
theorem ite_m2 {c : Prop} [Decidable c] {a b : Int × ax_M} {m : ax_M} (ha : a.2 = m) (hb : b.2 = m) : (if c then a else b).2 = m := by
  by_cases h : c
  · rw [if_pos h]; exact ha
  · rw [if_neg h]; exact hb
theorem pq_count {x : Int} (h : pr_G C Mc Mm) : pq C (True, f_X2_count x Mc, Mc) (True, f_X3_count x Mm) := by
  have hG := h.th (x := 0)
  have hI := h.I
  have hP := hI.2.1.pg
  have e7 : ax_up Mm 0 0 0 7 = Mm 7 := ax_up_ne (by decide)
  have e0 : ∀ f, f ≠ 0 → ax_up Mm 0 0 0 0 f = Mm 0 f := fun f hf => by rw [fo_up_at, fo_u_o hf]
  unfold f_X3_count
  simp only [ax_bd_e]
  rw [fm_countL e7, fo_written_sum hP, fm_inE]
  refine ⟨trivial, trivial, ?_, ?_⟩
  · unfold f_X2_count
    by_cases h16 : 1 ≤ x ∧ x ≤ 6
    · obtain ⟨k, rfl⟩ : ∃ k : Nat, x = (k : Int) := ⟨x.toNat, by omega⟩
      rw [if_neg (show ¬ ((k : Int) < 1) by omega), if_neg (show ¬ (6 < (k : Int)) by omega), if_pos h16, if_neg (show ¬ ((1 : Int) = 0) by decide), fo_t0, show Mc 10 k = Mm 7 (263 + k) from fr_ct (b := 1) h.c (by omega) (by omega)]
      show Mm 7 (263 + k) = ax_up Mm 0 0 0 7 ((264 + (k : Int)) - 1).toNat
      rw [e7, show ((264 + (k : Int)) - 1).toNat = 263 + k by omega]
    · have e1 : (if x < 1 then f_X2_count_J21 x Mc else if 6 < x then f_X2_count_J21 x Mc else Mc 10 x.toNat) = f_X2_count_J21 x Mc := by
        by_cases h1 : x < 1
        · rw [if_pos h1]
        · rw [if_neg h1, if_pos (by omega)]
      rw [e1, if_neg h16, if_pos rfl]
      unfold f_X2_count_J21
      by_cases c0 : x = 0
      · rw [if_pos c0, if_pos c0, fc_blocksOf h.c hP (by decide) (by decide)]
        rfl
      rw [if_neg c0, if_neg c0]
      by_cases c1 : x = 1
      · omega
      rw [if_neg c1, if_neg c1]
      by_cases c2 : x = 2
      · omega
      rw [if_neg c2, if_neg c2]
      by_cases c3 : x = 3
      · omega
      rw [if_neg c3, if_neg c3]
      by_cases c4 : x = 4
      · omega
      rw [if_neg c4, if_neg c4]
      by_cases c5 : x = 5
      · omega
      rw [if_neg c5, if_neg c5]
      by_cases c6 : x = 6
      · omega
      rw [if_neg c6, if_neg c6]
      by_cases c7 : x = 7
      · rw [if_pos c7, if_pos c7, fc_writtenLeaves (by rw [h.c]; exact hP), h.c]
      rw [if_neg c7, if_neg c7]
      by_cases c8 : x = 8
      · rw [if_pos c8, if_pos c8]
        show Mc 10 0 = ax_up Mm 0 0 0 7 270
        rw [e7]
        exact fr_ck (b := 1) h.c
      rw [if_neg c8, if_neg c8]
      by_cases c9 : x = 9
      · rw [if_pos c9, if_pos c9]
        show Mc 0 15 = ax_up Mm 0 0 0 0 32
        rw [e0 32 (by decide)]
        exact h.1.2.2.2.1.1
      rw [if_neg c9, if_neg c9]
      by_cases c10 : x = 10
      · rw [if_pos c10, if_pos c10]
        show Mc 0 4 = ax_up Mm 0 0 0 0 24
        rw [e0 24 (by decide)]
        exact h.1.2.1.1
      rw [if_neg c10, if_neg c10]
      by_cases c11 : x = 11
      · rw [if_pos c11, if_pos c11]
        show Mc 0 12 = ax_up Mm 0 0 0 0 1
        rw [e0 1 (by decide)]
        exact h.2.1
      rw [if_neg c11, if_neg c11]
      by_cases c12 : x = 12
      · rw [if_pos c12, if_pos c12]
        show Mc 0 10 = ax_up Mm 0 0 0 0 4
        rw [e0 4 (by decide)]
        exact h.1.2.2.2.2.1.1
      rw [if_neg c12, if_neg c12]
  · by_cases h16 : 1 ≤ x ∧ x ≤ 6
    · rw [if_pos h16, if_neg (show ¬ ((1 : Int) = 0) by decide)]
      exact hG
    · rw [if_neg h16, if_pos rfl]
      refine (show ∀ A : Int × ax_M, A.2 = ax_up Mm 0 0 0 → pr_G C Mc A.2 from fun A hA => by rw [hA]; exact hG) _ ?_
      dsimp only
      repeat refine ite_m2 rfl ?_
      rfl
/-! fits -/
theorem fc_fittingL {W V : Nat → Int} (h : fo_cr 1 M = r) (hP : fo_Pg r) {N : Nat} (hh : ∀ j, j < N → M 36 j = W j ∧ M 37 j = V j ∧ (0 ≤ W j ∧ W j ≤ 3) ∧ 0 ≤ V j ∧ V j ≤ 9) : ∀ (n i : Nat) (v : Int), i + n = N → ax_r32 v →
    ax_r32 (f_X2_fitting_L6 M n (i : Int) v (fun z => z)) ∧ ∀ f, f < 32 → fo_bit (f_X2_fitting_L6 M n (i : Int) v (fun z => z)) f = (fo_bit v f && (List.range' i n).all (fun j => decide (f < 16) && fo_so r f (W j) (V j))) := by
  intro n
  induction n with
  | zero => intro i v _ hv; exact ⟨hv, fun f _ => by simp [f_X2_fitting_L6]⟩
  | succ n ih =>
    intro i v hi hv
    obtain ⟨h1, h2, h3, h4⟩ := hh i (by omega)
    simp only [f_X2_fitting_L6, f_X2_fitting_B6, ax_bd_e]
    rw [fo_t0, h1, h2, fc_blocksOf h hP h3 h4, show (i : Int) + 1 = ((i + 1 : Nat) : Int) by omega]
    obtain ⟨q1, q2⟩ := ih (i + 1) (ax_and v (fo_fold (fo_ob (fun c => fo_so r c (W i) (V i))) 16 0 0)) (by omega) (fo_and_r _ _)
    refine ⟨q1, fun f hf => ?_⟩
    rw [q2 f hf, fo_bit_and, List.range'_succ, List.all_cons, Bool.and_assoc]
    have e : fo_bit (fo_fold (fo_ob (fun c => fo_so r c (W i) (V i))) 16 0 0) f = (decide (f < 16) && fo_so r f (W i) (V i)) := by
      by_cases h16 : f < 16
      · rw [fo_ob_bit (by decide) h16, decide_eq_true h16, Bool.true_and]
      · rw [fo_ob_hi (by decide) (by omega), decide_eq_false h16, Bool.false_and]
    rw [e]
theorem fo_ft_fits {W V : Nat → Int} {n : Nat} {v : Int} (hr : ax_r32 v) (h : ∀ f, f < 32 → fo_bit v f = (fo_bit 65535 f && (List.range' 0 n).all (fun j => decide (f < 16) && fo_so r f (W j) (V j)))) : v = fo_fold (fo_ob (fo_ft r W V n)) 16 0 0 := by
  refine fo_bit_ext hr (fo_ob_r 16 0 0 fo_rz) (fun f hf => ?_)
  rw [h f hf]
  have e : fo_bit 65535 f = decide (f < 16) := by
    unfold fo_bit
    exact b_65535 f
  rw [e]
  by_cases h16 : f < 16
  · rw [fo_ob_bit (by decide) h16, decide_eq_true h16, Bool.true_and]
    simp only [Bool.true_and]
    unfold fo_ft
    rw [List.range_eq_range']
  · rw [fo_ob_hi (by decide) (by omega), decide_eq_false h16, Bool.false_and]
theorem fm_fittingL {W V : Nat → Int} (h : M 7 = r) (hP : fo_Pg r) {N c : Nat} (hc : c < 16) {v1 : Int} {kx : Int → Int} (hh : ∀ j, j < N → M 17 j = W j ∧ M 18 j = V j ∧ (0 ≤ W j ∧ W j ≤ 3)) : ∀ (n i : Nat) (x : Int), i + n = N → (x = 0 ∨ x = 1) →
    f_X3_fitting_L15 v1 (c : Int) M n (i : Int) x kx = kx (if x = 1 ∧ (List.range' i n).all (fun j => fo_so r c (W j) (V j)) = true then 1 else 0) := by
  intro n
  induction n with
  | zero =>
    intro i x _ hx
    show kx x = _
    congr 1
    rcases hx with e | e <;> subst e <;> simp
  | succ n ih =>
    intro i x hi hx
    obtain ⟨h1, h2, h3⟩ := hh i (by omega)
    simp only [f_X3_fitting_L15, f_X3_fitting_B15]
    rw [fo_t0, h1, h2, fm_isSo hc h hP h3, List.range'_succ, List.all_cons, show (i : Int) + 1 = ((i + 1 : Nat) : Int) by omega]
    rcases hx with e | e
    · subst e
      rw [if_pos rfl, ih (i + 1) 0 (by omega) (Or.inl rfl)]
      simp
    · subst e
      rw [if_neg (show ¬ ((1 : Int) = 0) by decide)]
      by_cases hs : fo_so r c (W i) (V i) = true
      · rw [if_pos hs, if_neg (show ¬ ((1 : Int) = 0) by decide), ih (i + 1) 1 (by omega) (Or.inr rfl), hs, Bool.true_and]
      · rw [if_neg hs, if_pos rfl, ih (i + 1) 0 (by omega) (Or.inl rfl)]
        congr 1
        simp [hs]
theorem fm_fitting {W V : Nat → Int} (h : M 7 = r) (hP : fo_Pg r) {N : Nat} (hN : M 0 32 = (N : Int)) (hh : ∀ j, j < N → M 17 j = W j ∧ M 18 j = V j ∧ (0 ≤ W j ∧ W j ≤ 3)) : f_X3_fitting M = fo_fold (fo_ob (fo_ft r W V N)) 16 0 0 := by
  refine fo_loop (L := fun n i x => f_X3_fitting_L4 M n i x (fun z => z)) (out := fun z => z) (f := fo_ob (fo_ft r W V N)) (N := 16) (fun _ _ => True) (fun _ _ => rfl) (fun n i x hi _ => ⟨?_, trivial⟩) 16 0 0 (by omega) trivial
  simp only [f_X3_fitting_L4, f_X3_fitting_B4, fo_ob, ax_bd]
  have := fm_fittingL (c := i) (v1 := x) (kx := fun z6 => (if z6 = 0 then f_X3_fitting_L4 M n (i + 1) (ax_or x 0) (fun z => z) else f_X3_fitting_L4 M n (i + 1) (ax_or x (ax_shl 1 (i : Int))) (fun z => z))) h hP (by omega) hh ((M 0 32) - 0).toNat 0 1 (by omega) (Or.inr rfl)
  refine this.trans ?_
  rw [show ((M 0 32) - 0).toNat = N by omega, ← List.range_eq_range']
  change (if (if (1 : Int) = 1 ∧ fo_ft r W V N i = true then (1 : Int) else 0) = 0 then _ else _) = _
  by_cases hf : fo_ft r W V N i = true
  · have ez : (if (1 : Int) = 1 ∧ fo_ft r W V N i = true then (1 : Int) else 0) = 1 := if_pos ⟨rfl, hf⟩
    rw [ez, if_neg (show ¬ ((1 : Int) = 0) by decide), if_pos hf]
  · have ez : (if (1 : Int) = 1 ∧ fo_ft r W V N i = true then (1 : Int) else 0) = 0 := if_neg (fun h => hf h.2)
    rw [ez, if_pos (show (0 : Int) = 0 from rfl), if_neg hf]
/-- what fits, on both sides -/
theorem pq_fitting (h : pr_G C Mc Mm) : ∃ P : Nat → Bool, f_X2_fitting Mc = fo_fold (fo_ob P) 16 0 0 ∧ f_X3_fitting (ax_up Mm 0 0 0) = fo_fold (fo_ob P) 16 0 0 := by
  have hI := h.I
  have hP := hI.2.1.pg
  have e7 : ax_up Mm 0 0 0 7 = Mm 7 := ax_up_ne (by decide)
  obtain ⟨x1, x2, x3, x4⟩ := h.1.2.2.2.1
  obtain ⟨N, eN⟩ : ∃ N : Nat, Mm 0 32 = (N : Int) := ⟨(Mm 0 32).toNat, by omega⟩
  refine ⟨fo_ft (Mm 7) (Mm 17) (Mm 18) N, ?_, ?_⟩
  · obtain ⟨q1, q2⟩ := fc_fittingL (W := Mm 17) (V := Mm 18) (N := N) h.c hP (fun j hj => by
      obtain ⟨a1, a2, a3, a4, a5, a6, _⟩ := x4 j (by omega)
      exact ⟨a1, a2, ⟨a3, a4⟩, a5, a6⟩) N 0 65535 (by omega) ⟨by decide, by decide⟩
    unfold f_X2_fitting
    rw [show ((Mc 0 15) - 0).toNat = N by omega]
    exact fo_ft_fits q1 q2
  · exact fm_fitting e7 hP (by rw [fo_up_at, fo_u_o (by decide)]; exact eN) (fun j hj => by
      obtain ⟨a1, a2, a3, a4, a5, a6, _⟩ := x4 j (by omega)
      exact ⟨by rw [ax_up_ne (by decide)], by rw [ax_up_ne (by decide)], a3, a4⟩)
theorem pq_fits (h : pr_G C Mc Mm) : pq C (True, f_X2_fits Mc) (f_X3_fits Mm) := by
  obtain ⟨P, e1, e2⟩ := pq_fitting h
  have s0 := h.a
  unfold f_X2_fits f_X3_fits
  simp only [ax_bd_e]
  rw [e1, e2]
  generalize fo_fold (fo_ob P) 16 0 0 = v
  rw [show f_J_bitCount v (f_X2_tellAnew Mc) = f_J_bitCount v (ax_up (ax_up Mm 0 0 0) 0 1 0) from rfl]
  generalize f_J_bitCount v (ax_up (ax_up Mm 0 0 0) 0 1 0) = bb
  unfold pq ax_rc
  dsimp only
  generalize f_X2_tellAnew Mc = Z0 at s0 ⊢
  generalize ax_up (ax_up Mm 0 0 0) 0 1 0 = W0 at s0 ⊢
  obtain ⟨q1, s1⟩ := ps_tell (x := bb) s0 (by decide)
  generalize f_X2_tell (bb) Z0 = Z1 at s1 ⊢
  generalize f_X3_enters (bb) W0 = y1 at q1 s1 ⊢
  exact ⟨trivial, ⟨q1, trivial⟩, rfl, s1.g⟩
/-! asks -/
def fo_ya (r : fo_R) (P : Nat → Bool) (w v : Int) : Int := fo_sg (fo_id (fun c => P c && fo_so r c w v)) 16
theorem fo_sg16 {c : Nat → Bool} : 0 ≤ fo_sg (fo_id c) 16 ∧ fo_sg (fo_id c) 16 ≤ 16 := fo_sg_r fo_id_r 16
theorem fo_ya_le {P : Nat → Bool} {w v : Int} : 0 ≤ fo_ya r P w v ∧ fo_ya r P w v ≤ fo_sg (fo_id P) 16 := by
  have h : ∀ n, fo_sg (fo_id (fun c => P c && fo_so r c w v)) n ≤ fo_sg (fo_id P) n := by
    intro n
    induction n with
    | zero => exact Int.le_refl _
    | succ n ih =>
      show fo_sg (fo_id (fun c => P c && fo_so r c w v)) n + fo_id (fun c => P c && fo_so r c w v) n ≤ fo_sg (fo_id P) n + fo_id P n
      have : fo_id (fun c => P c && fo_so r c w v) n ≤ fo_id P n := by
        unfold fo_id
        by_cases hp : P n = true
        · rw [if_pos hp]; split <;> omega
        · rw [if_neg hp, if_neg (by simp [hp])]; omega
      omega
  exact ⟨fo_sg16.1, h 16⟩
theorem fc_ya {P : Nat → Bool} {w v : Int} (h : fo_cr 1 M = r) (hP : fo_Pg r) (hw : 0 ≤ w ∧ w ≤ 3) (hv : 0 ≤ v ∧ v ≤ 9) : f_J_bitCount (ax_and (fo_fold (fo_ob P) 16 0 0) (f_X0_blocksOf 1 w v M)) M = fo_ya r P w v := by
  rw [fc_blocksOf h hP hw hv]
  have e : ax_and (fo_fold (fo_ob P) 16 0 0) (fo_fold (fo_ob (fun c => fo_so r c w v)) 16 0 0) = fo_fold (fo_ob (fun c => P c && fo_so r c w v)) 16 0 0 := by
    refine fo_bit_ext (fo_and_r _ _) (fo_ob_r 16 0 0 fo_rz) (fun f hf => ?_)
    rw [fo_bit_and]
    by_cases h16 : f < 16
    · rw [fo_ob_bit (by decide) h16, fo_ob_bit (by decide) h16, fo_ob_bit (by decide) h16]
    · rw [fo_ob_hi (by decide) (by omega), fo_ob_hi (by decide) (by omega), fo_ob_hi (by decide) (by omega)]
      rfl
  rw [e]
  exact fo_pop_ob (by decide)
theorem fm_yaL {P : Nat → Bool} {w2 w3 w v : Int} {kx : Int → Prop × Int × ax_M} (h : M 7 = r) (hP : fo_Pg r) (hw : 0 ≤ w ∧ w ≤ 3) : f_X3_asks_L51 (fo_fold (fo_ob P) 16 0 0) w2 w3 w v M 16 0 0 kx = kx (fo_ya r P w v) := by
  have hl : ∀ (n i : Nat) (x : Int), i + n = 16 → f_X3_asks_L51 (fo_fold (fo_ob P) 16 0 0) w2 w3 w v M n i x kx = kx (fo_fold (fo_cs (fun c => P c && fo_so r c w v)) n i x) := by
    intro n
    induction n with
    | zero => intro i x _; rw [fo_fold_z]; rfl
    | succ n ih =>
      intro i x hi
      simp only [f_X3_asks_L51, f_X3_asks_B51]
      have f0 : f_X3_flag 0 M = 0 := rfl
      have f1 : f_X3_flag 1 M = 1 := rfl
      rw [fm_has (by omega), fo_ob_bit (by decide) (show i < 16 by omega), fm_isSo (by omega) h hP hw, fo_fold_s (f := fo_cs (fun c => P c && fo_so r c w v)), f0, f1]
      have ep : (P i && fo_so r i w v) = true → fo_cs (fun c => P c && fo_so r c w v) i x = x + 1 := fun h => if_pos h
      have en : ¬ (P i && fo_so r i w v) = true → fo_cs (fun c => P c && fo_so r c w v) i x = x := fun h => if_neg h
      by_cases hp : P i = true
      · rw [if_pos hp, if_neg (show ¬ ((1 : Int) = 0) by decide)]
        by_cases hs : fo_so r i w v = true
        · rw [if_pos hs, if_neg (show ¬ ((1 : Int) = 0) by decide), ih (i + 1) _ (by omega), ep (by rw [hp, hs]; rfl)]
        · rw [if_neg hs, if_pos rfl, ih (i + 1) _ (by omega), en (by simp [hs]), Int.add_zero]
      · rw [if_neg hp, if_pos rfl, ih (i + 1) _ (by omega), en (by simp [hp]), Int.add_zero]
  rw [hl 16 0 0 rfl]
  have h1 := fo_cs_sg (c := fun c => P c && fo_so r c w v) 16 0 0
  have h0 : ∀ f, fo_sg f 0 = 0 := fun _ => rfl
  rw [h0, Int.add_zero, Int.zero_add, Nat.zero_add] at h1
  rw [h1]
  rfl
theorem pq_asksL {P : Nat → Bool} {w : Nat} {hi : Int} {kc km : Int → Int → Prop × Int × ax_M} (hc : fo_cr 1 Nc = r) (hm : Nm 7 = r) (hP : fo_Pg r) (hw : w < 4) (hhi : hi ≤ 9) (h0 : 0 ≤ hi) (e1 : (ax_cs.getD 2 ("", [])).2.getD ((w : Int)).toNat 0 = hi) (e2 : f_X3_highest (w : Int) Nm = hi) :
    ∀ (m fuel v : Nat) (a a' l l' : Int), (v : Int) + (m : Int) = hi + 1 → m < fuel → ((a = a' ∧ l = l') ∨ (17 ≤ l ∧ 17 ≤ l' ∧ 1 ≤ m)) →
      ∃ a1 l1, f_X2_asks_L35 (fo_fold (fo_ob P) 16 0 0) (fo_sg (fo_id P) 16) (w : Int) Nc fuel a l (v : Int) kc = kc a1 l1 ∧ f_X3_asks_L35 (fo_fold (fo_ob P) 16 0 0) (w : Int) Nm fuel a' l' (v : Int) km = km a1 l1 := by
  intro m
  induction m with
  | zero =>
    intro fuel v a a' l l' hv hf hr
    obtain ⟨f', rfl⟩ : ∃ f', fuel = f' + 1 := ⟨fuel - 1, by omega⟩
    have hr' : a = a' ∧ l = l' := by omega
    obtain ⟨rfl, rfl⟩ := hr'
    simp only [f_X2_asks_L35, f_X2_asks_B35, f_X3_asks_L35, f_X3_asks_B35]
    rw [e1, e2, if_pos (by omega), if_pos (by omega)]
    exact ⟨a, l, rfl, rfl⟩
  | succ m ih =>
    intro fuel v a a' l l' hv hf hr
    obtain ⟨f', rfl⟩ : ∃ f', fuel = f' + 1 := ⟨fuel - 1, by omega⟩
    simp only [f_X2_asks_L35, f_X2_asks_B35, f_X3_asks_L35, f_X3_asks_B35, ax_bd_e]
    have hy := fo_ya_le (r := r) (P := P) (w := (w : Int)) (v := (v : Int))
    have hs := fo_sg16 (c := P)
    rw [e1, e2, if_neg (show ¬ (hi < (v : Int)) by omega), if_neg (show ¬ (hi < (v : Int)) by omega), fc_ya hc hP (by omega) (by omega), fm_yaL hm hP (by omega), show f_J_bitCount (fo_fold (fo_ob P) 16 0 0) Nm = fo_sg (fo_id P) 16 from fo_pop_ob (by decide), ax_wr_id (by omega) (by omega)]
    generalize fo_ya r P (w : Int) (v : Int) = y at hy ⊢
    generalize fo_sg (fo_id P) 16 = g at hy hs ih ⊢
    have hz : (if y < g - y then g - y else y) ≤ 16 := by split <;> omega
    generalize (if y < g - y then g - y else y) = z at hz ⊢
    rw [show (v : Int) + 1 = ((v + 1 : Nat) : Int) by omega]
    have key : ∀ (x x' : Int), (x = x' ∨ z < 17) → True := fun _ _ _ => trivial
    rcases hr with ⟨ea, el⟩ | ⟨g1, g2, _⟩
    · subst ea; subst el
      by_cases hl : l ≤ z
      · rw [if_pos hl, if_pos hl]
        have e : (if z < l then z else l) = l := by rw [if_neg (by omega)]
        rw [e]
        exact ih f' (v + 1) a a l l (by omega) (by omega) (Or.inl ⟨rfl, rfl⟩)
      · rw [if_neg hl, if_neg hl]
        have e : (if z < l then z else l) = z := by rw [if_pos (by omega)]
        rw [e]
        exact ih f' (v + 1) _ _ z z (by omega) (by omega) (Or.inl ⟨rfl, rfl⟩)
    · rw [if_neg (show ¬ (l ≤ z) by omega), if_neg (show ¬ (l' ≤ z) by omega)]
      have e : (if z < l' then z else l') = z := by rw [if_pos (by omega)]
      rw [e]
      exact ih f' (v + 1) _ _ z z (by omega) (by omega) (Or.inl ⟨rfl, rfl⟩)
theorem pq_asks (h : pr_G C Mc Mm) : pq C (f_X2_asks Mc) (f_X3_asks Mm) := by
  obtain ⟨P, e1, e2⟩ := pq_fitting h
  have hG := h.th (x := 0)
  have hI := h.I
  have hP := hI.2.1.pg
  have e7 : ax_up Mm 0 0 0 7 = Mm 7 := ax_up_ne (by decide)
  have s0 := h.a
  unfold f_X2_asks f_X3_asks
  simp only [ax_bd_e]
  rw [e1, e2]
  by_cases h0 : fo_fold (fo_ob P) 16 0 0 ≠ 0
  · rw [if_pos h0, if_pos h0, show f_J_bitCount (fo_fold (fo_ob P) 16 0 0) Mc = fo_sg (fo_id P) 16 from fo_pop_ob (by decide)]
    generalize hkc : (fun (z18 z19 : Int) => ((True, (z18, f_X2_tell z19 (f_X2_tellAnew Mc))) : Prop × Int × ax_M)) = kc
    generalize hkm : (fun (z25 z26 : Int) => ax_rc (f_X3_enters z26 (ax_up (ax_up Mm 0 0 0) 0 1 0)) (fun M28 => ((True, (z25, M28)) : Prop × Int × ax_M))) = km
    have fin : ∀ a l, pq C (kc a l) (km a l) := fun a l => by
      rw [← hkc, ← hkm]
      unfold pq ax_rc
      dsimp only
      generalize f_X2_tellAnew Mc = Z0 at s0 ⊢
      generalize ax_up (ax_up Mm 0 0 0) 0 1 0 = W0 at s0 ⊢
      obtain ⟨q1, s1⟩ := ps_tell (x := l) s0 (by decide)
      generalize f_X2_tell (l) Z0 = Z1 at s1 ⊢
      generalize f_X3_enters (l) W0 = y1 at q1 s1 ⊢
      exact ⟨trivial, ⟨q1, trivial⟩, rfl, s1.g⟩
    simp only [f_X2_asks_L26, f_X2_asks_B26, f_X3_asks_L26, f_X3_asks_B26]
    generalize hk0 : (fun (z16 z17 : Int) => f_X2_asks_L35 (fo_fold (fo_ob P) 16 0 0) (fo_sg (fo_id P) 16) ((0 + 1 : Nat) : Int) Mc 100 z16 z17 0 (fun z16 z17 => f_X2_asks_L35 (fo_fold (fo_ob P) 16 0 0) (fo_sg (fo_id P) 16) ((0 + 1 + 1 : Nat) : Int) Mc 100 z16 z17 0 (fun z16 z17 => f_X2_asks_L35 (fo_fold (fo_ob P) 16 0 0) (fo_sg (fo_id P) 16) ((0 + 1 + 1 + 1 : Nat) : Int) Mc 100 z16 z17 0 (fun z16 z17 => kc z16 z17)))) = k0
    generalize hm0 : (fun (z23 z24 : Int) => f_X3_asks_L35 (fo_fold (fo_ob P) 16 0 0) ((0 + 1 : Nat) : Int) (ax_up Mm 0 0 0) 100 z23 z24 0 (fun z23 z24 => f_X3_asks_L35 (fo_fold (fo_ob P) 16 0 0) ((0 + 1 + 1 : Nat) : Int) (ax_up Mm 0 0 0) 100 z23 z24 0 (fun z23 z24 => f_X3_asks_L35 (fo_fold (fo_ob P) 16 0 0) ((0 + 1 + 1 + 1 : Nat) : Int) (ax_up Mm 0 0 0) 100 z23 z24 0 (fun z23 z24 => km z23 z24)))) = m0
    obtain ⟨a1, l1, x1, x2⟩ := pq_asksL (P := P) (w := 0) (hi := 4) (kc := k0) (km := m0) h.c e7 hP (by decide) (by decide) (by decide) rfl rfl 5 100 0 (-1) (-1) 17 1000000 rfl (by decide) (Or.inr ⟨by decide, by decide, by decide⟩)
    refine (congr (congrArg (pq C) x1) x2).mpr ?_
    rw [← hk0, ← hm0]
    dsimp only
    generalize hk1 : (fun (z16 z17 : Int) => f_X2_asks_L35 (fo_fold (fo_ob P) 16 0 0) (fo_sg (fo_id P) 16) ((0 + 1 + 1 : Nat) : Int) Mc 100 z16 z17 0 (fun z16 z17 => f_X2_asks_L35 (fo_fold (fo_ob P) 16 0 0) (fo_sg (fo_id P) 16) ((0 + 1 + 1 + 1 : Nat) : Int) Mc 100 z16 z17 0 (fun z16 z17 => kc z16 z17))) = k1
    generalize hm1 : (fun (z23 z24 : Int) => f_X3_asks_L35 (fo_fold (fo_ob P) 16 0 0) ((0 + 1 + 1 : Nat) : Int) (ax_up Mm 0 0 0) 100 z23 z24 0 (fun z23 z24 => f_X3_asks_L35 (fo_fold (fo_ob P) 16 0 0) ((0 + 1 + 1 + 1 : Nat) : Int) (ax_up Mm 0 0 0) 100 z23 z24 0 (fun z23 z24 => km z23 z24))) = m1
    obtain ⟨a2, l2, x3, x4⟩ := pq_asksL (P := P) (w := 1) (hi := 9) (kc := k1) (km := m1) h.c e7 hP (by decide) (by decide) (by decide) rfl rfl 10 100 0 a1 a1 l1 l1 rfl (by decide) (Or.inl ⟨rfl, rfl⟩)
    refine (congr (congrArg (pq C) x3) x4).mpr ?_
    rw [← hk1, ← hm1]
    dsimp only
    generalize hk2 : (fun (z16 z17 : Int) => f_X2_asks_L35 (fo_fold (fo_ob P) 16 0 0) (fo_sg (fo_id P) 16) ((0 + 1 + 1 + 1 : Nat) : Int) Mc 100 z16 z17 0 (fun z16 z17 => kc z16 z17)) = k2
    generalize hm2 : (fun (z23 z24 : Int) => f_X3_asks_L35 (fo_fold (fo_ob P) 16 0 0) ((0 + 1 + 1 + 1 : Nat) : Int) (ax_up Mm 0 0 0) 100 z23 z24 0 (fun z23 z24 => km z23 z24)) = m2
    obtain ⟨a3, l3, x5, x6⟩ := pq_asksL (P := P) (w := 2) (hi := 4) (kc := k2) (km := m2) h.c e7 hP (by decide) (by decide) (by decide) rfl rfl 5 100 0 a2 a2 l2 l2 rfl (by decide) (Or.inl ⟨rfl, rfl⟩)
    refine (congr (congrArg (pq C) x5) x6).mpr ?_
    rw [← hk2, ← hm2]
    dsimp only
    obtain ⟨a4, l4, x7, x8⟩ := pq_asksL (P := P) (w := 3) (hi := 5) (kc := fun z16 z17 => kc z16 z17) (km := fun z16 z17 => km z16 z17) h.c e7 hP (by decide) (by decide) (by decide) rfl rfl 6 100 0 a3 a3 l3 l3 rfl (by decide) (Or.inl ⟨rfl, rfl⟩)
    refine (congr (congrArg (pq C) x7) x8).mpr ?_
    exact fin a4 l4
  · rw [if_neg h0, if_neg h0]
    exact ⟨trivial, trivial, rfl, hG⟩
end PRB
