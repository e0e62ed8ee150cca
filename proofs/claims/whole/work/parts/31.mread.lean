/-! ===== the model's questions of a row are those of the picture ===== -/
theorem fo_t64 (i : Nat) : ((64 : Int) + (i : Int)).toNat = 64 + i := by omega
theorem fo_t128 (i : Nat) : ((128 : Int) + (i : Int)).toNat = 128 + i := by omega
theorem fo_t192 (i : Nat) : ((192 : Int) + (i : Int)).toNat = 192 + i := by omega
theorem fo_t208 (i : Nat) : ((208 : Int) + (i : Int)).toNat = 208 + i := by omega
theorem fo_t224 (i : Nat) : ((224 : Int) + (i : Int)).toNat = 224 + i := by omega
theorem fo_t240 (i : Nat) : ((240 : Int) + (i : Int)).toNat = 240 + i := by omega
theorem fo_t0 (i : Nat) : ((i : Int)).toNat = i := by omega
theorem fo_t4 (b i : Nat) : ((4 : Int) * (b : Int) + (i : Int)).toNat = 4 * b + i := by omega
/-- pages, kinds and stamps are such as can be -/
def fo_Pg (r : fo_R) : Prop := ∀ l, l < 64 → 0 ≤ r l ∧ r l ≤ 24
def fo_St (r : fo_R) : Prop := ∀ l, l < 64 → 0 ≤ r (128 + l) ∧ r (128 + l) ≤ 2147483647
def fo_Ow (r : fo_R) : Prop := ∀ b, b < 16 → 0 ≤ r (208 + b) ∧ r (208 + b) ≤ 6
def fo_Wi (r : fo_R) : Prop := ∀ b, b < 16 → 0 ≤ r (224 + b) ∧ r (224 + b) ≤ 999
theorem fm_blockOf {a : Nat} {k o : Int} {M : ax_M} : f_X3_blockOf a k o M = fo_blk (M a) k o := by
  have h : ∀ n i, f_X3_blockOf_L2 a k o M n i (fun _ => -1) = fo_find (fun b => decide (M a (192 + b) = k ∧ M a (208 + b) = o)) n i := by
    intro n
    induction n with
    | zero => intro i; rw [fo_find_z]; rfl
    | succ n ih =>
      intro i
      unfold f_X3_blockOf_L2 f_X3_blockOf_B2
      rw [fo_find_s]
      rw [fo_t192, fo_t208]
      by_cases h1 : M a (192 + i) = k <;> by_cases h2 : M a (208 + i) = o <;> simp [h1, h2, ih]
  exact h 16 0
theorem fm_theRun {a : Nat} {M : ax_M} : f_X3_theRun a M = fo_run (M a) := by
  have h : ∀ n i, f_X3_theRun_L2 a M n i (fun _ => -1) = fo_find (fun b => decide (M a (192 + b) = 2)) n i := by
    intro n
    induction n with
    | zero => intro i; rw [fo_find_z]; rfl
    | succ n ih =>
      intro i
      unfold f_X3_theRun_L2 f_X3_theRun_B2
      rw [fo_find_s]
      rw [fo_t192]
      by_cases h1 : M a (192 + i) = 2 <;> simp [h1, ih]
  exact h 16 0
theorem fm_kindMany {a : Nat} {k : Int} {M : ax_M} : f_X3_kindMany a k M = fo_many (M a) k := by
  refine fo_loop (L := fun n i v => f_X3_kindMany_L4 a k M n i v (fun z => z)) (out := fun z => z) (f := fo_cs (fun b => decide (M a (192 + b) = k))) (N := 16) (fun _ _ => True) (fun _ _ => rfl) (fun n i v _ _ => ⟨?_, trivial⟩) 16 0 0 (by omega) trivial
  simp only [f_X3_kindMany_L4, f_X3_kindMany_B4, fo_t192, f_X3_flag, fo_cs]
  by_cases h1 : M a (192 + i) = k <;> simp [h1]
theorem fm_nextFree {a : Nat} {M : ax_M} : f_X3_nextFree a M = fo_free (M a) := by
  refine fo_loop (L := fun n i v => f_X3_nextFree_L4 a M n i v (fun z => z)) (out := fun z => z) (f := fo_bstep (fun b => decide (M a (192 + b) = 0)) (fun c b => decide (M a (224 + c) < M a (224 + b)))) (N := 16) (fun _ _ => True) (fun _ _ => rfl) (fun n i v _ _ => ⟨?_, trivial⟩) 16 0 (-1) (by omega) trivial
  simp only [f_X3_nextFree_L4, f_X3_nextFree_B4, fo_t192, fo_t224, fo_bstep]
  by_cases h1 : M a (192 + i) = 0
  · by_cases h2 : v < 0
    · simp [h1, h2]
    · have e : ((224 : Int) + v).toNat = 224 + v.toNat := by omega
      rw [e]
      by_cases h3 : M a (224 + i) < M a (224 + v.toNat)
      · have h4 : ¬ M a (224 + v.toNat) ≤ M a (224 + i) := by omega
        simp [h1, h2, h3, h4]
      · have h4 : M a (224 + v.toNat) ≤ M a (224 + i) := by omega
        simp [h1, h2, h3, h4]
  · simp [h1]
theorem fm_pageAt {a : Nat} {x : Int} {M : ax_M} (h : 0 ≤ M a x.toNat ∧ M a x.toNat ≤ 24) : f_X3_pageAt a x M = M a x.toNat - 1 := by
  unfold f_X3_pageAt
  exact ax_wr_id (by omega) (by omega)
theorem fm_div {x : Int} (h : 0 ≤ x ∧ x ≤ 24) : ax_div x 4 = x / 4 := by
  unfold ax_div
  rw [Int.tdiv_eq_ediv_of_nonneg h.1]
  exact ax_wr_id (by omega) (by omega)
theorem fm_rankOf {a l : Nat} {M : ax_M} (h : 1 ≤ M a l ∧ M a l ≤ 24) : f_X3_rankOf a (l : Int) M = fo_rank (M a) l := by
  unfold f_X3_rankOf f_X3_rankOf_J26 fo_rank
  simp only [ax_bd]
  rw [fm_pageAt (by rw [fo_t0]; omega), fo_t0, fm_div (by omega)]
  have e1 : ((208 : Int) + (l : Int) / 4).toNat = 208 + l / 4 := by omega
  have e2 : ((192 : Int) + (l : Int) / 4).toNat = 192 + l / 4 := by omega
  rw [e1, e2]
  by_cases h1 : M a (208 + l / 4) = (M a l - 1) / 4
  · by_cases h2 : M a (192 + l / 4) = 1
    · simp [h1, h2]
    · by_cases h3 : M a (192 + l / 4) = 2
      · simp [h1, h3]
      · simp [h1, h2, h3]
  · by_cases h2 : M a (192 + l / 4) = 1
    · simp [h1, h2]
    · by_cases h3 : M a (192 + l / 4) = 2
      · simp [h1, h3]
      · simp [h1, h2, h3]
theorem fm_latest {a : Nat} {p : Int} {M : ax_M} (hp : 0 ≤ p) (hP : fo_Pg (M a)) (hS : fo_St (M a)) : f_X3_latest a p M = fo_lat (M a) p := by
  refine fo_loop (L := fun n i v => f_X3_latest_L4 a p M n i v (fun z => z)) (out := fun z => z) (f := fo_bstep (fun i => decide (M a i = p + 1)) (fo_bet (M a))) (N := 64) (fun _ v => v = -1 ∨ ∃ j : Nat, v = (j : Int) ∧ j < 64 ∧ M a j = p + 1) (fun _ _ => rfl) (fun n i v hi hv => ?_) 64 0 (-1) (by omega) (Or.inl rfl)
  have hpi := hP i (by omega)
  have hsi := hS i (by omega)
  simp only [f_X3_latest_L4, f_X3_latest_B4, ax_bd, fo_bstep]
  rw [fm_pageAt (by rw [fo_t0]; exact hpi), fo_t0, fo_t128]
  by_cases h1 : M a i = p + 1
  · have h1' : ¬ (M a i - 1 ≠ p) := by omega
    have hyes : (i : Int) = -1 ∨ ∃ j : Nat, (i : Int) = (j : Int) ∧ j < 64 ∧ M a j = p + 1 := Or.inr ⟨i, rfl, by omega, h1⟩
    rw [if_neg h1']
    rcases hv with hv | ⟨j, hv, hj, hpj⟩
    · subst hv
      rw [if_neg (by omega), if_pos ⟨decide_eq_true h1, Or.inl (by omega)⟩]
      exact ⟨rfl, hyes⟩
    · subst hv
      have hno : (j : Int) = -1 ∨ ∃ k : Nat, (j : Int) = (k : Int) ∧ k < 64 ∧ M a k = p + 1 := Or.inr ⟨j, rfl, hj, hpj⟩
      have hsj := hS j hj
      have hri := fm_rankOf (a := a) (M := M) (l := i) (by omega)
      have hrj := fm_rankOf (a := a) (M := M) (l := j) (by omega)
      rw [if_pos (show (0 : Int) ≤ (j : Int) by omega), fo_t128, hri, hrj, ax_wr_id (by omega) (by omega), fo_t0]
      have e : (decide (M a i = p + 1) = true ∧ ((j : Int) < 0 ∨ fo_bet (M a) i j = true)) ↔ (M a (128 + j) < M a (128 + i) ∨ (M a (128 + i) = M a (128 + j) ∧ fo_rank (M a) i < fo_rank (M a) j)) := by
        simp only [h1, decide_true, true_and, fo_bet, decide_eq_true_eq]
        exact ⟨fun h => h.resolve_left (by omega), Or.inr⟩
      by_cases c1 : 0 < M a (128 + i) - M a (128 + j)
      · rw [if_pos c1, if_pos (e.mpr (Or.inl (by omega)))]
        exact ⟨rfl, hyes⟩
      · rw [if_neg c1]
        by_cases c2 : M a (128 + i) - M a (128 + j) = 0
        · rw [if_neg (show ¬ (M a (128 + i) - M a (128 + j) ≠ 0) by omega)]
          by_cases c3 : fo_rank (M a) i < fo_rank (M a) j
          · rw [if_neg (by omega), if_pos (e.mpr (Or.inr ⟨by omega, c3⟩))]
            exact ⟨rfl, hyes⟩
          · rw [if_pos (by omega), if_neg (fun h => by have := e.mp h; omega)]
            exact ⟨rfl, hno⟩
        · rw [if_pos c2, if_neg (fun h => by have := e.mp h; omega)]
          exact ⟨rfl, hno⟩
  · rw [if_pos (by omega), if_neg (fun h => h1 (of_decide_eq_true h.1))]
    exact ⟨rfl, hv⟩
theorem fm_isLatest {a l : Nat} {M : ax_M} (hl : l < 64) (hP : fo_Pg (M a)) (hS : fo_St (M a)) : f_X3_isLatest a (l : Int) M = if fo_isL (M a) l = true then 1 else 0 := by
  unfold f_X3_isLatest f_X3_isWritten fo_isL
  have hp := hP l hl
  rw [fo_t0]
  by_cases h : M a l ≤ 0
  · have : ¬ 0 < M a l := by omega
    simp [h, this]
  · rw [fm_pageAt (by rw [fo_t0]; exact hp), fo_t0, fm_latest (by omega) hP hS]
    have h0 : 0 < M a l := by omega
    by_cases h2 : fo_lat (M a) (M a l - 1) = (l : Int) <;> simp [h, h0, h2]
theorem fm_firstEmpty {a b : Nat} {M : ax_M} : f_X3_firstEmpty a (b : Int) M = (fo_fill (M a) b : Int) := by
  unfold f_X3_firstEmpty f_X3_firstEmpty_L2 f_X3_firstEmpty_B2 f_X3_firstEmpty_L2 f_X3_firstEmpty_B2 f_X3_firstEmpty_L2 f_X3_firstEmpty_B2 f_X3_firstEmpty_L2 f_X3_firstEmpty_B2 f_X3_firstEmpty_L2 f_X3_isWritten fo_fill
  have e0 : ((4 : Int) * (b : Int) + ((0 : Nat) : Int)).toNat = 4 * b := by omega
  have e1 : ((4 : Int) * (b : Int) + ((0 + 1 : Nat) : Int)).toNat = 4 * b + 1 := by omega
  have e2 : ((4 : Int) * (b : Int) + ((0 + 1 + 1 : Nat) : Int)).toNat = 4 * b + 2 := by omega
  have e3 : ((4 : Int) * (b : Int) + ((0 + 1 + 1 + 1 : Nat) : Int)).toNat = 4 * b + 3 := by omega
  rw [e0, e1, e2, e3]
  by_cases h0 : M a (4 * b) ≤ 0
  · simp [h0]
  · by_cases h1 : M a (4 * b + 1) ≤ 0
    · simp [h0, h1]
    · by_cases h2 : M a (4 * b + 2) ≤ 0
      · simp [h0, h1, h2]
      · by_cases h3 : M a (4 * b + 3) ≤ 0 <;> simp [h0, h1, h2, h3]
theorem fm_isHot {a p : Nat} {M : ax_M} : f_X3_isHot a (p : Int) M = if fo_hot (M a) p = true then 1 else 0 := by
  unfold f_X3_isHot fo_hot
  rw [fo_t240]
  by_cases h1 : M a 272 = 0
  · simp [h1]
  · by_cases h2 : M a (240 + p) < M a 273
    · have : ¬ M a 273 ≤ M a (240 + p) := by omega
      simp [h1, h2, this]
    · have : M a 273 ≤ M a (240 + p) := by omega
      simp [h1, h2, this]
theorem fm_toLevel {a : Nat} {k : Int} {M : ax_M} (hW : fo_Wi (M a)) : f_X3_toLevel a k M = fo_lvl (M a) k := by
  refine fo_loop (L := fun n i v => f_X3_toLevel_L4 a k M n i v (fun z => z)) (out := fun z => z) (f := fo_bstep (fun b => decide (M a (192 + b) = k)) (fun c b => decide (if k = 1 then M a (224 + c) < M a (224 + b) else M a (224 + b) < M a (224 + c)))) (N := 16) (fun _ v => v = -1 ∨ ∃ j : Nat, v = (j : Int) ∧ j < 16) (fun _ _ => rfl) (fun n i v hi hv => ?_) 16 0 (-1) (by omega) (Or.inl rfl)
  have hwi := hW i (by omega)
  have hyes : (i : Int) = -1 ∨ ∃ j : Nat, (i : Int) = (j : Int) ∧ j < 16 := Or.inr ⟨i, rfl, by omega⟩
  simp only [f_X3_toLevel_L4, f_X3_toLevel_B4, ax_bd, fo_bstep]
  rw [fo_t192, fo_t224]
  rcases hv with hv | ⟨j, hv, hj⟩
  · subst hv
    rw [if_neg (by omega)]
    by_cases h1 : M a (192 + i) = k
    · rw [if_neg (fun h => h h1), if_pos ⟨decide_eq_true h1, Or.inl (by omega)⟩]
      exact ⟨rfl, hyes⟩
    · rw [if_pos h1, if_neg (fun h => h1 (of_decide_eq_true h.1))]
      exact ⟨rfl, Or.inl rfl⟩
  · subst hv
    have hno : (j : Int) = -1 ∨ ∃ k : Nat, (j : Int) = (k : Int) ∧ k < 16 := Or.inr ⟨j, rfl, hj⟩
    have hwj := hW j hj
    rw [if_pos (show (0 : Int) ≤ (j : Int) by omega), fo_t224, ax_wr_id (by omega) (by omega), ax_wr_id (by omega) (by omega), fo_t0]
    have nj : ¬ ((j : Int) < 0) := by omega
    by_cases h1 : M a (192 + i) = k
    · by_cases hk : k = 1
      · subst hk
        by_cases h2 : M a (224 + i) < M a (224 + j)
        · have h3 : ¬ M a (224 + j) - M a (224 + i) ≤ 0 := by omega
          simp [h1, h2, h3]; exact ⟨i, rfl, by omega⟩
        · have h3 : M a (224 + j) - M a (224 + i) ≤ 0 := by omega
          simp [h1, h2, h3, nj]; exact ⟨j, rfl, hj⟩
      · by_cases h2 : M a (224 + j) < M a (224 + i)
        · have h3 : ¬ M a (224 + i) - M a (224 + j) ≤ 0 := by omega
          simp [h1, h2, h3, hk]; exact ⟨i, rfl, by omega⟩
        · have h3 : M a (224 + i) - M a (224 + j) ≤ 0 := by omega
          simp [h1, h2, h3, hk, nj]; exact ⟨j, rfl, hj⟩
    · by_cases hk : k = 1
      · subst hk; simp [h1]; exact ⟨j, rfl, hj⟩
      · simp [h1, hk]; exact ⟨j, rfl, hj⟩
theorem fm_mostWipes {a : Nat} {M : ax_M} : f_X3_mostWipes a M = fo_most (M a) := by
  refine fo_loop (L := fun n i v => f_X3_mostWipes_L4 a M n i v (fun z => z)) (out := fun z => z) (f := fo_ms (fun c b => decide (M a (224 + b) < M a (224 + c)))) (N := 16) (fun _ v => 0 ≤ v) (fun _ _ => rfl) (fun n i v _ hv => ?_) 16 0 0 (by omega) (by omega)
  have e : ((224 : Int) + v).toNat = 224 + v.toNat := by omega
  simp only [f_X3_mostWipes_L4, f_X3_mostWipes_B4, fo_t224, fo_ms, e, decide_eq_true_eq]
  by_cases h3 : M a (224 + v.toNat) < M a (224 + i)
  · rw [if_neg (by omega), if_pos h3]; exact ⟨rfl, by omega⟩
  · rw [if_pos (by omega), if_neg h3]; exact ⟨rfl, hv⟩
theorem fm_fewestWipes {a : Nat} {M : ax_M} : f_X3_fewestWipes a M = fo_few (M a) := by
  refine fo_loop (L := fun n i v => f_X3_fewestWipes_L4 a M n i v (fun z => z)) (out := fun z => z) (f := fo_ms (fun c b => decide (M a (224 + c) < M a (224 + b)))) (N := 16) (fun _ v => 0 ≤ v) (fun _ _ => rfl) (fun n i v _ hv => ?_) 16 0 0 (by omega) (by omega)
  have e : ((224 : Int) + v).toNat = 224 + v.toNat := by omega
  simp only [f_X3_fewestWipes_L4, f_X3_fewestWipes_B4, fo_t224, fo_ms, e, decide_eq_true_eq]
  by_cases h3 : M a (224 + i) < M a (224 + v.toNat)
  · rw [if_neg (by omega), if_pos h3]; exact ⟨rfl, by omega⟩
  · rw [if_pos (by omega), if_neg h3]; exact ⟨rfl, hv⟩
theorem fm_staleIn {a b : Nat} {M : ax_M} (hb : b < 16) (hP : fo_Pg (M a)) (hS : fo_St (M a)) : f_X3_staleIn a (b : Int) M = fo_staleIn (M a) b := by
  refine fo_loop (L := fun n i v => f_X3_staleIn_L4 a (b : Int) M n i v (fun z => z)) (out := fun z => z) (f := fo_cs (fun k => decide (0 < M a (4 * b + k)) && !fo_isL (M a) (4 * b + k))) (N := 4) (fun _ _ => True) (fun _ _ => rfl) (fun n i v hi _ => ⟨?_, trivial⟩) 4 0 0 (by omega) trivial
  have e : ((4 : Int) * (b : Int) + (i : Int)) = ((4 * b + i : Nat) : Int) := by omega
  simp only [f_X3_staleIn_L4, f_X3_staleIn_B4, f_X3_isWritten, fo_cs]
  rw [e, fm_isLatest (by omega) hP hS, fo_t0]
  by_cases h1 : M a (4 * b + i) ≤ 0
  · have : ¬ 0 < M a (4 * b + i) := by omega
    simp [h1, this, f_X3_flag]
  · have h0 : 0 < M a (4 * b + i) := by omega
    by_cases h2 : fo_isL (M a) (4 * b + i) = true
    · simp [h1, h2, f_X3_flag]
    · have h2' : fo_isL (M a) (4 * b + i) = false := by simpa using h2
      simp [h1, h0, h2', f_X3_flag]
theorem fm_staleMany {a : Nat} {M : ax_M} (hP : fo_Pg (M a)) (hS : fo_St (M a)) : f_X3_staleMany a M = fo_stale (M a) := by
  refine fo_loop (L := fun n i v => f_X3_staleMany_L4 a M n i v (fun z => z)) (out := fun z => z) (f := fo_sm (fo_staleIn (M a))) (N := 16) (fun _ _ => True) (fun _ _ => rfl) (fun n i v hi _ => ⟨?_, trivial⟩) 16 0 0 (by omega) trivial
  simp only [f_X3_staleMany_L4, f_X3_staleMany_B4, fo_sm]
  rw [fm_staleIn (by omega) hP hS]
