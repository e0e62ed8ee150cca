/-! ===== the first memories ===== -/
theorem fill_L {n0 a0 : Nat} {w : Int} : ∀ (k i : Nat) (M : ax_M), (∀ t, t ≠ a0 → f_J_fill_L5 n0 a0 w k (i : Int) M (fun M3 => M3) t = M t) ∧ ∀ j, f_J_fill_L5 n0 a0 w k (i : Int) M (fun M3 => M3) a0 j = if i ≤ j ∧ j < i + k then w else M a0 j := by
  intro k
  induction k with
  | zero => intro i M; exact ⟨fun _ _ => rfl, fun j => by rw [if_neg (by omega)]; rfl⟩
  | succ k ih =>
    intro i M
    rw [f_J_fill_L5]
    unfold f_J_fill_B5
    simp only [ax_bd_e]
    rw [fo_t0, show (i : Int) + 1 = ((i + 1 : Nat) : Int) by omega]
    obtain ⟨q1, q2⟩ := ih (i + 1) (ax_up M a0 i w)
    refine ⟨fun t ht => by rw [q1 t ht, ax_up_ne ht], fun j => ?_⟩
    rw [q2 j, fo_up_at, fo_u_eq]
    by_cases e : j = i
    · subst e
      rw [if_neg (by omega), if_pos rfl, if_pos (by omega)]
    · rw [if_neg e]
      by_cases h : i + 1 ≤ j ∧ j < i + 1 + k
      · rw [if_pos h, if_pos (by omega)]
      · rw [if_neg h, if_neg (by omega)]
theorem m0_fill_at (j : Nat) : m0_fill 0 j = if j < 64 then -1 else 0 := by
  have h := (fill_L (n0 := 64) (a0 := 0) (w := -1) 64 0 (fun _ _ => 0)).2 j
  have e : m0_fill 0 j = f_J_fill_L5 64 0 (-1) 64 ((0 : Nat) : Int) (fun _ _ => 0) (fun M3 => M3) 0 j := rfl
  rw [e, h]
  by_cases hj : j < 64
  · rw [if_pos (by omega), if_pos hj]
  · rw [if_neg (by omega), if_neg hj]
theorem m0_out {l : List Int} {i : Nat} (h : l.length ≤ i) : l.getD i 0 = 0 := by
  rw [List.getD_eq_getElem?_getD, List.getElem?_eq_none h]
  rfl
theorem m0_R_r (k i : Nat) : -1 ≤ m0_R k i ∧ m0_R k i ≤ 2147483647 := by
  unfold m0_R
  by_cases h0 : k = 0
  · rw [if_pos h0]
    rcases (by omega : i = 0 ∨ i = 1 ∨ i = 2 ∨ i = 3 ∨ i = 4 ∨ i = 5 ∨ i = 6 ∨ i = 7 ∨ 8 ≤ i) with e | e | e | e | e | e | e | e | e
    all_goals first | (subst e; decide) | (rw [m0_out (by simpa using e)]; decide)
  · rw [if_neg h0]
    by_cases h1 : k = 1
    · rw [if_pos h1]; repeat' split
      all_goals decide
    · rw [if_neg h1]; decide
theorem m0_F_r (k i : Nat) : -1 ≤ m0_F k i ∧ m0_F k i ≤ 2147483647 := by
  unfold m0_F
  by_cases h0 : k = 0
  · rw [if_pos h0]
    by_cases hi : i < 13
    · have : ∀ i, i < 13 → -1 ≤ ([0, 0, 0, 0, 0, 0, 0, 0, 0, 0, 0, 0, 1073741824] : List Int).getD i 0 ∧ ([0, 0, 0, 0, 0, 0, 0, 0, 0, 0, 0, 0, 1073741824] : List Int).getD i 0 ≤ 2147483647 := by decide +kernel
      exact this i hi
    · rw [m0_out (by simpa using Nat.not_lt.mp hi)]; decide
  · rw [if_neg h0]
    by_cases h1 : k = 1
    · rw [if_pos h1, m0_fill_at]; split <;> decide
    · rw [if_neg h1]
      by_cases h8 : k = 8
      · rw [if_pos h8]; repeat' split
        all_goals decide
      · rw [if_neg h8]; decide
theorem m0_C_r (k i : Nat) : -1 ≤ m0_C k i ∧ m0_C k i ≤ 2147483647 := by
  unfold m0_C
  by_cases h0 : k = 0
  · rw [if_pos h0]
    by_cases hi : i < 9
    · have : ∀ i, i < 9 → -1 ≤ ([0, 0, 0, 0, 0, 0, 0, 28, 31] : List Int).getD i 0 ∧ ([0, 0, 0, 0, 0, 0, 0, 28, 31] : List Int).getD i 0 ≤ 2147483647 := by decide +kernel
      exact this i hi
    · rw [m0_out (by simpa using Nat.not_lt.mp hi)]; decide
  · rw [if_neg h0]
    split
    · exact m0_F_r _ _
    · split
      · exact m0_F_r _ _
      · split
        · decide
        · split
          · exact m0_R_r _ _
          · split
            · exact m0_R_r _ _
            · decide
theorem m0_M_r (k i : Nat) : 0 ≤ m0_M k i ∧ m0_M k i ≤ 3 := by
  unfold m0_M
  repeat' split
  all_goals decide
def ax_fokB (L : ax_L) (q : Nat × Nat × Nat) (n : Int) : Bool := if q.1 = 0 then decide (-2147483648 ≤ n) && decide (n ≤ 2147483647) && (decide (q.2.1 = 0) || (decide (0 ≤ n) && decide (n < q.2.1))) else if q.1 = 8 then decide (0 ≤ n) && decide (n ≤ 1) else if q.1 = 9 then decide (0 ≤ n) && decide (L[n.toNat]? = some (2, q.2.1)) else true
theorem ax_fok_of {L : ax_L} {q : Nat × Nat × Nat} {n : Int} (h : ax_fokB L q n = true) : ax_fok L q n := by
  unfold ax_fokB at h
  unfold ax_fok
  by_cases h0 : q.1 = 0
  · rw [if_pos h0] at h ⊢
    simp only [Bool.and_eq_true, Bool.or_eq_true, decide_eq_true_eq] at h
    exact ⟨⟨h.1.1, h.1.2⟩, fun hq => h.2.elim (fun e => absurd e hq) id⟩
  · rw [if_neg h0] at h ⊢
    by_cases h8 : q.1 = 8
    · rw [if_pos h8] at h ⊢
      simp only [Bool.and_eq_true, decide_eq_true_eq] at h
      exact h
    · rw [if_neg h8] at h ⊢
      by_cases h9 : q.1 = 9
      · rw [if_pos h9] at h ⊢
        simp only [Bool.and_eq_true, decide_eq_true_eq] at h
        exact h
      · rw [if_neg h9]; trivial
/-- a first memory fits its layout: objects by a program, rows by their range -/
theorem ax_can_of {L : ax_L} {M : ax_M} (h1 : ((List.range L.length).all fun k => match L[k]? with | some (2, c) => (List.range (ax_fs c).length).all (fun f => ax_fokB L ((ax_fs c).getD f (0, 0, 0)) (M k f)) | _ => true) = true)
    (h2 : ∀ k i, -1 ≤ M k i ∧ M k i ≤ 2147483647) (h3 : ∀ k n, (L[k]? = some (5, n) ∨ L[k]? = some (6, n)) → ∀ i, M k i = 0) : ax_can L M := by
  intro k d hk
  obtain ⟨t, n⟩ := d
  unfold ax_cok
  dsimp only
  by_cases e2 : t = 2
  · subst e2
    rw [if_pos rfl]
    intro f q hf
    have h := List.all_eq_true.mp h1 k (List.mem_range.mpr (ax_ltL hk))
    rw [hk] at h
    have hlt := ax_ltL hf
    have h' := List.all_eq_true.mp h f (List.mem_range.mpr hlt)
    have eq : (ax_fs n).getD f (0, 0, 0) = q := by
      rw [List.getD_eq_getElem?_getD, hf]; rfl
    rw [eq] at h'
    exact ax_fok_of h'
  · rw [if_neg e2]
    by_cases e4 : t = 4
    · rw [if_pos e4]; intro i; have := h2 k i; exact ⟨by omega, by omega⟩
    · rw [if_neg e4]
      by_cases e5 : t = 5
      · subst e5
        rw [if_pos rfl]; intro i; rw [h3 k n (Or.inl hk) i]; decide
      · rw [if_neg e5]
        by_cases e6 : t = 6
        · subst e6
          rw [if_pos rfl]; intro i; rw [h3 k n (Or.inr hk) i]; decide
        · rw [if_neg e6]; intro i; have := h2 k i; exact ⟨by omega, by omega⟩
theorem m0_C_can : ax_can ax_LC m0_C := by
  refine ax_can_of (by decide +kernel) m0_C_r (fun k n hk i => ?_)
  have hlt : k < 38 := by rcases hk with h | h <;> exact ax_ltL h
  have : ∀ k, k < 38 → (ax_LC[k]?.map Prod.fst = some 5 ∨ ax_LC[k]?.map Prod.fst = some 6) → k = 27 ∨ k = 34 := by decide +kernel
  have hh := this k hlt (hk.imp (fun h => by rw [h]; rfl) (fun h => by rw [h]; rfl))
  rcases hh with e | e <;> subst e <;> rfl
theorem m0_M_can : ax_can ax_LM m0_M := by
  refine ax_can_of (by decide +kernel) (fun k i => ⟨by have := m0_M_r k i; omega, by have := m0_M_r k i; omega⟩) (fun k n hk i => ?_)
  have hlt : k < 22 := by rcases hk with h | h <;> exact ax_ltL h
  have : ∀ k, k < 22 → (ax_LM[k]?.map Prod.fst = some 5 ∨ ax_LM[k]?.map Prod.fst = some 6) → k = 20 := by decide +kernel
  have hh := this k hlt (hk.imp (fun h => by rw [h]; rfl) (fun h => by rw [h]; rfl))
  subst hh
  rfl
theorem m0_G : pr_G 0 m0_C m0_M := by
  have ecr : fo_cr 1 m0_C = m0_M 7 := by
    funext j
    have z : ∀ k i, (k = 3 ∨ k = 4 ∨ k = 5 ∨ k = 6 ∨ k = 7 ∨ k = 8 ∨ k = 10) → m0_C k i = 0 := by
      intro k i hk
      rcases hk with e | e | e | e | e | e | e <;> subst e <;> rfl
    have p : ∀ i, m0_C 2 i = if i < 64 then -1 else 0 := fun i => (show m0_C 2 i = m0_fill 0 i from rfl).trans (m0_fill_at i)
    have l9 : ∀ i, m0_C 9 i = if i = 2 then 3 else if i = 1 then 1 else if i = 0 then 2 else 0 := fun i => rfl
    have r7 : m0_M 7 j = if j = 273 then 3 else if j = 272 then 1 else if j = 271 then 2 else 0 := rfl
    unfold fo_cr fo_dec
    rw [r7]
    rw [z 5 _ (by decide), z 6 _ (by decide), z 7 _ (by decide), z 8 _ (by decide), z 10 _ (by decide), z 10 _ (by decide), l9]
    rw [p j, p (j - 64), p (j - 128), z 3 _ (by decide), z 4 _ (by decide)]
    by_cases h1 : j < 64
    · rw [if_pos h1, if_pos h1, if_neg (by omega), if_neg (by omega), if_neg (by omega)]; rfl
    · rw [if_neg h1]
      by_cases h2 : j < 128
      · rw [if_pos h2, if_pos (by rw [if_pos (by omega)]), if_neg (by omega), if_neg (by omega), if_neg (by omega)]
      · rw [if_neg h2]
        by_cases h3 : j < 192
        · rw [if_pos h3, if_pos (by rw [if_pos (by omega)]), if_neg (by omega), if_neg (by omega), if_neg (by omega)]
        · rw [if_neg h3]
          repeat' split
          all_goals omega
  have e7 : ∀ j, m0_M 7 j = if j = 273 then 3 else if j = 272 then 1 else if j = 271 then 2 else 0 := fun j => rfl
  have hI : fo_I (m0_M 7) := fo_first (fun j hj => by rw [e7, if_neg (by omega), if_neg (by omega), if_neg (by omega)]) (by decide) (by decide) (by decide)
  refine ⟨⟨⟨ecr, ⟨hI, by decide⟩, ⟨rfl, by decide, by decide⟩, ⟨rfl, by decide, by decide⟩, fun j _ => rfl⟩, ?_, ?_, ?_, ?_, ?_⟩, ?_⟩
  · exact ⟨rfl, by decide, by decide, by decide, by decide, fun i hi => absurd hi (by show ¬ (i : Int) < 0; omega)⟩
  · exact fun i _ => ⟨rfl, fun h => absurd rfl h⟩
  · exact ⟨rfl, by decide, by decide, fun i hi => absurd hi (by show ¬ (i : Int) < 0; omega)⟩
  · exact ⟨rfl, by decide, by decide, fun i hi => absurd hi (by show ¬ (i : Int) < 0; omega)⟩
  · intro _
    refine ⟨28, [1000, 4, 2001], Or.inl rfl, rfl, rfl, by decide, by simp [fo_wf], ⟨rfl, fun i hi => ?_⟩, Or.inl ⟨rfl, rfl⟩⟩
    have hi3 : i < 3 := hi
    rcases (by omega : i = 0 ∨ i = 1 ∨ i = 2) with e | e | e <;> subst e
    · exact ⟨1000, rfl, rfl⟩
    · exact ⟨4, rfl, rfl⟩
    · exact ⟨2001, rfl, rfl⟩
  · exact ⟨rfl, by decide, by decide, fun i hi => absurd hi (by show ¬ (i : Int) < 0; omega)⟩
