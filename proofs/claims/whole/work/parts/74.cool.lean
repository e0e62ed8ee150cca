/-! ===== the heat halved ===== -/
def fo_coolS (i : Nat) (x : Int × fo_R) : Int × fo_R := (x.1 + (if fo_hot (fo_u x.2 (240 + i) (ax_div (x.2 (240 + i)) 2)) i = true then 1 else 0), fo_u x.2 (240 + i) (ax_div (x.2 (240 + i)) 2))
def fo_cool (r : fo_R) : Int × fo_R := fo_fold fo_coolS 24 0 (0, r)
theorem fo_half : ∀ k : Nat, k < 100 → ax_div (k : Int) 2 = ((k / 2 : Nat) : Int) := by decide +kernel
theorem fo_cool_o : ∀ (n i : Nat) (v : Int) (r : fo_R), i + n ≤ 24 → fo_Ht r → (∀ j, j < 240 ∨ 264 ≤ j → (fo_fold fo_coolS n i (v, r)).2 j = r j) ∧ fo_Ht (fo_fold fo_coolS n i (v, r)).2 := by
  intro n
  induction n with
  | zero => intro i v r _ h; rw [fo_fold_z]; exact ⟨fun _ _ => rfl, h⟩
  | succ n ih =>
    intro i v r hi h
    rw [fo_fold_s]
    have hr := h i (by omega)
    obtain ⟨k, hk⟩ : ∃ k : Nat, r (240 + i) = (k : Int) := ⟨(r (240 + i)).toNat, by omega⟩
    have hd : ax_div (r (240 + i)) 2 = ((k / 2 : Nat) : Int) := by rw [hk]; exact fo_half k (by omega)
    obtain ⟨q1, q2⟩ := ih (i + 1) (v + (if fo_hot (fo_u r (240 + i) (ax_div (r (240 + i)) 2)) i = true then 1 else 0)) (fo_u r (240 + i) (ax_div (r (240 + i)) 2)) (by omega) (fun p hp => by
      rw [fo_u_eq]
      split
      · rw [hd]; omega
      · exact h p hp)
    exact ⟨fun j hj => by
      show (fo_fold fo_coolS n (i + 1) _).2 j = _
      rw [show fo_coolS i (v, r) = (v + (if fo_hot (fo_u r (240 + i) (ax_div (r (240 + i)) 2)) i = true then 1 else 0), fo_u r (240 + i) (ax_div (r (240 + i)) 2)) from rfl, q1 j hj, fo_u_o (by omega)], q2⟩
theorem fo_cool_I {r : fo_R} (h : fo_I r) : fo_I (fo_cool r).2 := by
  obtain ⟨h0, hW, hs⟩ := h
  obtain ⟨q1, q2⟩ := fo_cool_o 24 0 0 r (by omega) hW.ht
  obtain ⟨k1, k2⟩ := fo_keep (q := (fo_cool r).2) (fun j _ hj => q1 j hj) q2 hW hs
  have e : (fo_cool r).2 270 = r 270 := q1 270 (by omega)
  exact ⟨by rw [e]; exact h0, by rw [e]; exact k1, k2⟩
section FOCO
variable {b : Nat}
theorem rl_coolL : ∀ (n i : Nat) (v : Int) (M : ax_M) (r : fo_R), i + n = 24 → fo_cr b M = r →
    (f_X0_coolAll_L4 b n i v M (fun z4 M5 => (z4, M5))).1 = (fo_fold fo_coolS n i (v, r)).1 ∧ fo_cr b (f_X0_coolAll_L4 b n i v M (fun z4 M5 => (z4, M5))).2 = (fo_fold fo_coolS n i (v, r)).2 ∧ ∀ s, s ≠ b + 7 → (f_X0_coolAll_L4 b n i v M (fun z4 M5 => (z4, M5))).2 s = M s := by
  intro n
  induction n with
  | zero => intro i v M r _ h; rw [fo_fold_z]; exact ⟨rfl, h, fun _ _ => rfl⟩
  | succ n ih =>
    intro i v M r hi h
    have e7 : M (b + 7) i = r (240 + i) := by rw [← h, fo_cr, fo_dHt (by omega)]
    simp only [f_X0_coolAll_L4, f_X0_coolAll_B4, ax_bd]
    rw [e7, fo_fold_s]
    have hc : fo_cr b (ax_up M (b + 7) i (ax_div (r (240 + i)) 2)) = fo_u r (240 + i) (ax_div (r (240 + i)) 2) := by rw [fo_cr_H (by omega), h]
    rw [fc_isHot (by omega), hc]
    have es : fo_coolS i (v, r) = (v + (if fo_hot (fo_u r (240 + i) (ax_div (r (240 + i)) 2)) i = true then 1 else 0), fo_u r (240 + i) (ax_div (r (240 + i)) 2)) := rfl
    rw [es]
    have hs : ∀ s, s ≠ b + 7 → ax_up M (b + 7) i (ax_div (r (240 + i)) 2) s = M s := fun s hs => ax_up_ne hs
    generalize ax_up M (b + 7) i (ax_div (r (240 + i)) 2) = M1 at hc hs ⊢
    by_cases hh : fo_hot (fo_u r (240 + i) (ax_div (r (240 + i)) 2)) i = true
    · rw [if_pos hh, if_neg (by decide)]
      obtain ⟨q1, q2, q3⟩ := ih (i + 1) (v + 1) M1 _ (by omega) hc
      exact ⟨q1, q2, fun s h7 => by rw [q3 s h7, hs s h7]⟩
    · rw [if_neg hh, if_pos rfl]
      obtain ⟨q1, q2, q3⟩ := ih (i + 1) (v + 0) M1 _ (by omega) hc
      exact ⟨q1, q2, fun s h7 => by rw [q3 s h7, hs s h7]⟩
/-- the class's coolAll -/
theorem rl_cool {M : ax_M} : (f_X0_coolAll b M).1 = (fo_cool (fo_cr b M)).1 ∧ fo_cr b (f_X0_coolAll b M).2 = (fo_cool (fo_cr b M)).2 ∧ ∀ s, s ≠ b + 7 → (f_X0_coolAll b M).2 s = M s := rl_coolL 24 0 0 M _ rfl rfl
theorem fm_coolL : ∀ (n i : Nat) (v : Int) (M : ax_M) (r : fo_R), i + n = 24 → M 7 = r →
    (f_X3_coolsAll_L4 n i v M (fun z4 M5 => (z4, M5))).1 = (fo_fold fo_coolS n i (v, r)).1 ∧ (f_X3_coolsAll_L4 n i v M (fun z4 M5 => (z4, M5))).2 7 = (fo_fold fo_coolS n i (v, r)).2 ∧ ∀ s, s ≠ 7 → (f_X3_coolsAll_L4 n i v M (fun z4 M5 => (z4, M5))).2 s = M s := by
  intro n
  induction n with
  | zero => intro i v M r _ h; rw [fo_fold_z]; exact ⟨rfl, h, fun _ _ => rfl⟩
  | succ n ih =>
    intro i v M r hi h
    simp only [f_X3_coolsAll_L4, f_X3_coolsAll_B4, ax_bd]
    rw [fo_t240, h, fo_fold_s]
    have hc : ax_up M 7 (240 + i) (ax_div (r (240 + i)) 2) 7 = fo_u r (240 + i) (ax_div (r (240 + i)) 2) := by rw [fo_up_at, h]
    have hs : ∀ s, s ≠ 7 → ax_up M 7 (240 + i) (ax_div (r (240 + i)) 2) s = M s := fun s hs => ax_up_ne hs
    have es : fo_coolS i (v, r) = (v + (if fo_hot (fo_u r (240 + i) (ax_div (r (240 + i)) 2)) i = true then 1 else 0), fo_u r (240 + i) (ax_div (r (240 + i)) 2)) := rfl
    rw [es]
    generalize ax_up M 7 (240 + i) (ax_div (r (240 + i)) 2) = M1 at hc hs ⊢
    have ef : f_X3_flag (f_X3_isHot 7 (i : Int) M1) M1 = if fo_hot (fo_u r (240 + i) (ax_div (r (240 + i)) 2)) i = true then 1 else 0 := by
      rw [fm_isHot, hc]
      split <;> rfl
    rw [ef]
    obtain ⟨q1, q2, q3⟩ := ih (i + 1) (v + (if fo_hot (fo_u r (240 + i) (ax_div (r (240 + i)) 2)) i = true then 1 else 0)) M1 _ (by omega) hc
    exact ⟨q1, q2, fun s h7 => by rw [q3 s h7, hs s h7]⟩
/-- the model's coolsAll -/
theorem fm_cool {M : ax_M} : (f_X3_coolsAll M).1 = (fo_cool (M 7)).1 ∧ (f_X3_coolsAll M).2 7 = (fo_cool (M 7)).2 ∧ ∀ s, s ≠ 7 → (f_X3_coolsAll M).2 s = M s := fm_coolL 24 0 0 M _ rfl rfl
end FOCO
