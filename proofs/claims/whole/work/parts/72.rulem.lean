/-! ===== the model's rule ===== -/
section FOMR
theorem fo_wk1 {k : Nat} (h : k < 1000) : ax_wr ((k : Int) + 1) = ((k + 1 : Nat) : Int) := by rw [ax_wr_id (by omega) (by omega)]; rfl
theorem fo_wk2 {k : Nat} (h1 : 1 ≤ k) (h : k < 1000) : ax_wr ((k : Int) + -1) = ((k - 1 : Nat) : Int) := by rw [ax_wr_id (by omega) (by omega)]; omega
theorem fo_wk3 {k : Nat} (h1 : 1 ≤ k) (h : k < 1000) : ax_wr ((k : Int) - 1) = ((k - 1 : Nat) : Int) := by rw [ax_wr_id (by omega) (by omega)]; omega
variable {M : ax_M}
theorem fm_worked {k x y : Int} (h : 0 ≤ k ∧ k ≤ 6) : f_X3_worked k x y M = fo_op k x y := by
  unfold f_X3_worked fo_op
  have f0 : f_X3_flag 0 M = 0 := rfl
  have f1 : f_X3_flag 1 M = 1 := rfl
  rw [f0, f1]
  rcases (by omega : k = 0 ∨ k = 1 ∨ k = 2 ∨ k = 3 ∨ k = 4 ∨ k = 5 ∨ k = 6) with e | e | e | e | e | e | e <;> subst e
  · show (if y ≤ x then (0 : Int) else 1) = if x < y then 1 else 0
    split <;> split <;> omega
  · show (if x ≤ y then (0 : Int) else 1) = if y < x then 1 else 0
    split <;> split <;> omega
  · show (if x ≠ y then (0 : Int) else 1) = if x = y then 1 else 0
    by_cases hxy : x = y
    · rw [if_neg (fun h => h hxy), if_pos hxy]
    · rw [if_pos hxy, if_neg hxy]
  · rfl
  · rfl
  · rfl
  · rfl
/-- the end of the model's work -/
def fm_end (M30 : ax_M) : Prop × Int × ax_M := if (M30 0 10) ≠ 0 then (True, ((M30 5 0), M30)) else (if (M30 6 0) ≤ 4 then (True, ((f_X3_flag 0 M30), M30)) else (True, ((f_X3_flag 1 M30), M30)))
theorem fm_ruledL {t : fo_R} {cs : List Int} (hlen : cs.length ≤ 80) (h0 : cs.length ≠ 0) (hc1 : M 0 10 = (cs.length : Int)) (hcd : ∀ i, i < cs.length → cs[i]? = some (M 3 i)) (ht : ∀ i, i < 6 → M 6 i = t i) :
    ∀ (rest : List Int) (i h fuel : Nat) (N : ax_M) (S : fo_R), cs.drop i = rest → rest.length < fuel → fo_wf rest h → h ≤ i → N 5 = S → (∀ s, s ≠ 5 → N s = M s) →
      (f_X3_ruled_L4 fuel (h : Int) (i : Int) N fm_end).1 ∧ (f_X3_ruled_L4 fuel (h : Int) (i : Int) N fm_end).2.1 = fo_rl t rest h S ∧ (∀ s, s ≠ 5 → (f_X3_ruled_L4 fuel (h : Int) (i : Int) N fm_end).2.2 s = M s) := by
  intro rest
  induction rest with
  | nil =>
    intro i h fuel N S hd hf hw hhi hS hN
    obtain ⟨f', rfl⟩ : ∃ f', fuel = f' + 1 := ⟨fuel - 1, by simp at hf; omega⟩
    have hil : cs.length ≤ i := List.drop_eq_nil_iff.mp hd
    have hw1 : h = 1 := hw
    simp only [f_X3_ruled_L4, f_X3_ruled_B4]
    rw [hN 0 (by decide), hc1, if_pos (by omega)]
    unfold fm_end
    rw [hN 0 (by decide), hc1, if_pos (by omega)]
    exact ⟨trivial, by dsimp only; rw [hS, hw1]; rfl, fun s h1 => hN s h1⟩
  | cons c rest ih =>
    intro i h fuel N S hd hf hw hhi hS hN
    obtain ⟨f', rfl⟩ : ∃ f', fuel = f' + 1 := ⟨fuel - 1, by simp at hf; omega⟩
    have hil : i < cs.length := by
      rcases Nat.lt_or_ge i cs.length with h' | h'
      · exact h'
      · rw [List.drop_eq_nil_iff.mpr h'] at hd; cases hd
    have hdc := List.drop_eq_getElem_cons hil
    rw [hdc] at hd
    have hdn : cs.drop (i + 1) = rest := (List.cons.inj hd).2
    have eM3 : M 3 i = c := by
      have e := hcd i hil
      rw [List.getElem?_eq_getElem hil, (List.cons.inj hd).1] at e
      exact (Option.some.inj e).symm
    have hf' : rest.length < f' := by simp at hf; omega
    have ei : (i : Int) + 1 = ((i + 1 : Nat) : Int) := by omega
    have eN3 : N 3 i = c := by rw [hN 3 (by decide), eM3]
    have u5 : ∀ (k : Nat) (x : Int), ∀ s, s ≠ 5 → ax_up N 5 k x s = M s := fun k x s hs => by rw [ax_up_ne hs, hN s hs]
    have e5 : ∀ (k : Nat) (x : Int), ax_up N 5 k x 5 = fo_u S k x := fun k x => by rw [fo_up_at, hS]
    simp only [f_X3_ruled_L4, f_X3_ruled_B4, ax_bd]
    rw [hN 0 (by decide), hc1, if_neg (by omega), fo_t0, eN3, ei]
    unfold ax_rq
    dsimp only
    have hq : (0 : Int) ≤ (i : Int) ∧ (i : Int) < ((80 : Nat) : Int) := by omega
    have hh1 : h + 1 ≤ i + 1 := Nat.succ_le_succ hhi
    have hk1000 : h < 1000 := by omega
    have hq2 : (0 : Int) ≤ (h : Int) ∧ (h : Int) < ((80 : Nat) : Int) := by omega
    unfold fo_wf at hw
    unfold fo_rl
    by_cases k1 : c = 3000
    · rw [if_pos k1] at hw ⊢
      rw [if_neg (fun h => h k1), fo_wk3 (k := h) hw.1 hk1000, fo_t0, hS]
      obtain ⟨r1, r2, r3⟩ := ih (i + 1) h f' (ax_up N 5 (h - 1) (ax_wr (-(S (h - 1))))) _ hdn hf' hw.2 (by omega) (e5 _ _) (u5 _ _)
      exact ⟨⟨hq, ⟨by omega, by omega⟩, ⟨by omega, by omega⟩, r1⟩, r2, r3⟩
    · rw [if_neg k1] at hw ⊢
      rw [if_pos k1]
      by_cases k2 : 2000 ≤ c
      · rw [if_pos k2] at hw ⊢
        have hh2 := hw.2.1
        rw [if_neg (show ¬ (c < 2000) from Int.not_lt.mpr k2), fo_wk2 (k := h) (by omega) hk1000, fo_wk3 (k := h - 1) (by omega) (by omega), fo_t0, fo_t0, hS, fm_worked ⟨by omega, by omega⟩]
        obtain ⟨r1, r2, r3⟩ := ih (i + 1) (h - 1) f' (ax_up N 5 (h - 1 - 1) (fo_op (c - 2000) (S (h - 1 - 1)) (S (h - 1)))) _ hdn hf' hw.2.2 (by omega) (e5 _ _) (u5 _ _)
        exact ⟨⟨hq, ⟨by omega, by omega⟩, ⟨by omega, by omega⟩, ⟨by omega, by omega⟩, r1⟩, r2, r3⟩
      · rw [if_neg k2] at hw ⊢
        obtain ⟨hd1, hw2⟩ := hw
        rw [if_pos (show c < 2000 from Int.not_le.mp k2), fo_wk1 (k := h) hk1000, fo_t0]
        by_cases k3 : 1000 ≤ c
        · have hc5 : c ≤ 1005 := hd1.elim (fun h => absurd k3 (Int.not_le.mpr h)) id
          have hq6 : (0 : Int) ≤ c - 1000 ∧ c - 1000 < ((6 : Nat) : Int) := by clear hd1 hq2 hq hw2; omega
          have h6 : (c - 1000).toNat < 6 := by clear hd1 hq2 hq hw2; omega
          rw [if_neg (show ¬ (c < 1000) from Int.not_lt.mpr k3), if_pos k3]
          have ev : N 6 (c - 1000).toNat = t (c - 1000).toNat := by rw [hN 6 (by decide), ht _ h6]
          rw [ev]
          obtain ⟨r1, r2, r3⟩ := ih (i + 1) (h + 1) f' (ax_up N 5 h (t (c - 1000).toNat)) _ hdn hf' hw2 hh1 (e5 _ _) (u5 _ _)
          exact ⟨⟨hq, hq6, hq2, r1⟩, r2, r3⟩
        · rw [if_pos (show c < 1000 from Int.not_le.mp k3), if_neg k3]
          obtain ⟨r1, r2, r3⟩ := ih (i + 1) (h + 1) f' (ax_up N 5 h c) _ hdn hf' hw2 hh1 (e5 _ _) (u5 _ _)
          exact ⟨⟨hq, hq2, r1⟩, r2, r3⟩
/-- the model's rule, its code cs -/
theorem fm_Wm {cs : List Int} (hlen : cs.length ≤ 80) (h0 : cs.length ≠ 0) (hwf : fo_wf cs 0) (hc1 : M 0 10 = (cs.length : Int)) (hcd : ∀ i, i < cs.length → cs[i]? = some (M 3 i)) : fo_Wm (fo_ev cs) M := by
  intro N h1 h2
  have key := fun (t : fo_R) (ht : ∀ i, i < 6 → N 6 i = t i) => fm_ruledL (M := N) (t := t) hlen h0 (by rw [h1, hc1]) (fun i hi => by rw [h2]; exact hcd i hi) ht cs 0 0 100 N (N 5) rfl (by omega) hwf (Nat.le_refl _) rfl (fun _ _ => rfl)
  obtain ⟨k1, k2, k3⟩ := key (N 6) (fun _ _ => rfl)
  refine ⟨k1, k3, fun t ht => ?_⟩
  exact (key t ht).2.1.trans (fo_rl_same (fun _ _ => rfl) cs 0 _ _ hwf (fun j hj => absurd hj (Nat.not_lt_zero j)))
/-- the model's rule where none was laid down -/
theorem fm_Wm0 (hc1 : M 0 10 = 0) : fo_Wm (fo_ev [1000, 4, 2001]) M := by
  intro N h1 h2
  have e0 : f_X3_ruled N = fm_end N := by
    have e1 : f_X3_ruled N = f_X3_ruled_B4 0 0 N (fun u1 u2 M9 => f_X3_ruled_L4 99 u1 u2 M9 fm_end) fm_end := rfl
    rw [e1]
    unfold f_X3_ruled_B4
    rw [h1, hc1, if_pos (show (0 : Int) ≤ 0 from Int.le_refl 0)]
  rw [e0]
  unfold fm_end
  rw [h1, hc1, if_neg (fun h => h rfl)]
  have ev : ∀ t : fo_R, fo_ev [1000, 4, 2001] t = if 4 < t 0 then 1 else 0 := fun t => rfl
  by_cases h6 : N 6 0 ≤ 4
  · rw [if_pos h6]
    refine ⟨trivial, fun _ _ => rfl, fun t ht => ?_⟩
    rw [ev, ← ht 0 (by decide), if_neg (by omega)]
    rfl
  · rw [if_neg h6]
    refine ⟨trivial, fun _ _ => rfl, fun t ht => ?_⟩
    rw [ev, ← ht 0 (by decide), if_pos (by omega)]
    rfl
end FOMR
