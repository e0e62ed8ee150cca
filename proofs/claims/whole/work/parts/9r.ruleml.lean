/-! ===== the model's reading of a rule: what it is made of ===== -/
section RML
variable {M N K : ax_M} {cs : List Int} {p n : Nat} {c x : Int}
/-- the codes read so far -/
def ml_S (cs : List Int) (M : ax_M) : Prop := M 0 11 = (cs.length : Int) ∧ ∀ i, i < cs.length → cs[i]? = some (M 4 i)
/-- what reading leaves -/
def ml_F (M N : ax_M) : Prop := (∀ t, t ≠ 0 → t ≠ 4 → N t = M t) ∧ ∀ f, f ≠ 5 → f ≠ 7 → f ≠ 11 → N 0 f = M 0 f
theorem ml_F.rf : ml_F M M := ⟨fun _ _ _ => rfl, fun _ _ _ _ => rfl⟩
theorem ml_F.tr (h : ml_F M N) (g : ml_F N K) : ml_F M K := ⟨fun t h1 h2 => (g.1 t h1 h2).trans (h.1 t h1 h2), fun f h1 h2 h3 => (g.2 f h1 h2 h3).trans (h.2 f h1 h2 h3)⟩
theorem ml_F.up {f : Nat} (h : f = 5 ∨ f = 7) : ml_F M (ax_up M 0 f x) := ⟨fun t h1 _ => ax_up_ne h1, fun g h1 h2 _ => by rw [fo_up_at, fo_u_o (by omega)]⟩
theorem ml_S.up {f : Nat} (h : ml_S cs M) (hf : f ≠ 11) : ml_S cs (ax_up M 0 f x) := ⟨by rw [fo_up_at, fo_u_o (Ne.symm hf)]; exact h.1, fun i hi => by rw [ax_up_ne (by decide)]; exact h.2 i hi⟩
theorem ml_codes (h : ml_S cs M) (hl : cs.length < 80) : (f_X3_codes x M).1 ∧ ml_S (cs ++ [x]) (f_X3_codes x M).2 ∧ ml_F M (f_X3_codes x M).2 ∧ ∀ f, f ≠ 11 → (f_X3_codes x M).2 0 f = M 0 f := by
  obtain ⟨h1, h2⟩ := h
  have e11 : ax_up M 4 cs.length x 0 11 = (cs.length : Int) := by rw [ax_up_ne (by decide), h1]
  unfold f_X3_codes ax_rq
  simp only [ax_bd]
  rw [h1, fo_t0, e11]
  have hlen : (cs ++ [x]).length = cs.length + 1 := by simp
  refine ⟨⟨by omega, by omega, trivial⟩, ⟨by rw [hlen, fo_up_at, fo_u_s]; omega, fun i hi => ?_⟩, ⟨fun t h1 h2 => by rw [ax_up_ne h1, ax_up_ne h2], fun f _ _ f11 => by rw [fo_up_at, fo_u_o f11, ax_up_ne (by decide)]⟩, fun f hf => by rw [fo_up_at, fo_u_o hf, ax_up_ne (by decide)]⟩
  rw [hlen] at hi
  rw [ax_up_ne (by decide), fo_up_at]
  by_cases e : i = cs.length
  · subst e
    rw [fo_u_s, List.getElem?_append_right (Nat.le_refl _), Nat.sub_self]
    rfl
  · rw [fo_u_o e, List.getElem?_append_left (by omega)]
    exact h2 i (by omega)
theorem ml_takes (hat : M 0 5 = (p : Int)) (hto : M 0 6 = (n : Int)) (hp : p ≤ 80) : (f_X3_takes c M).1 ∧ (f_X3_takes c M).2 = if p < n ∧ M 2 p = c then (1, ax_up M 0 5 ((p + 1 : Nat) : Int)) else (0, M) := by
  have f0 : f_X3_flag 0 M = 0 := rfl
  have f1 : f_X3_flag 1 M = 1 := rfl
  have hid : ax_up M 0 5 ((p : Int) + 0) = M := up_id (by rw [hat]; omega)
  by_cases h : p < n
  · unfold f_X3_takes
    simp only [ax_bd]
    rw [hat, hto, if_neg (by omega), fo_t0, f0, f1, hid]
    by_cases hc : M 2 p = c
    · rw [if_neg (fun h => h hc), if_pos ⟨h, hc⟩]
      exact ⟨trivial, rfl⟩
    · rw [if_pos hc, if_neg (fun h => hc h.2)]
      exact ⟨trivial, rfl⟩
  · have e : f_X3_takes c M = ax_rq ((0 ≤ (M 0 5 + f_X3_flag 0 M) ∧ (M 0 5 + f_X3_flag 0 M) < ((81 : Nat) : Int))) (True, (0, ax_up M 0 5 (M 0 5 + f_X3_flag 0 M))) := by
      unfold f_X3_takes
      simp only [ax_bd]
      rw [hat, hto, if_pos (by omega)]
    rw [e, if_neg (fun z => h z.1), hat, f0, hid]
    exact ⟨⟨by omega, trivial⟩, rfl⟩
theorem ml_ofN {t : Nat} (hat : M 0 5 = (p : Int)) (hto : M 0 6 = (n : Int)) : ∀ (k j : Nat), f_X3_takesOf_N t M k j = if p < n ∧ 0 ≤ ax_ixN t (M 2 p) k j then (ax_ixN t (M 2 p) k j, ax_up M 0 5 ((p + 1 : Nat) : Int)) else (-1, M) := by
  intro k
  induction k with
  | zero => intro j; rw [f_X3_takesOf_N, ax_ixN, if_neg (fun h => absurd h.2 (by decide))]
  | succ k ih =>
    intro j
    rw [f_X3_takesOf_N, ax_ixN, hat, hto, fo_t0]
    by_cases h : p < n
    · rw [if_neg (by omega)]
      by_cases hc : ax_sg t j = M 2 p
      · rw [if_pos hc, if_pos hc, if_pos ⟨h, by omega⟩]
        rfl
      · rw [if_neg hc, if_neg hc]
        exact ih (j + 1)
    · rw [if_pos (by omega), if_neg (fun z => h z.1)]
/-- a join's number in its rank; none -/
def op_of (r : Int) (c : Int) : Int := if r = 0 then (if c = 60 then 0 else if c = 62 then 1 else if c = 61 then 2 else -1) else if r = 1 then (if c = 43 then 0 else if c = 45 then 1 else -1) else (if c = 42 then 0 else if c = 47 then 1 else -1)
theorem ml_of0 (hat : M 0 5 = (p : Int)) (hto : M 0 6 = (n : Int)) : (f_X3_takesOf 0 M).1 ∧ (f_X3_takesOf 0 M).2 = if p < n ∧ 0 ≤ it_of (M 2 p) then (it_of (M 2 p), ax_up M 0 5 ((p + 1 : Nat) : Int)) else (-1, M) := by
  refine ⟨by show (0 : Nat) < 6; decide, ?_⟩
  have e : ax_ixN 0 (M 2 p) 6 0 = it_of (M 2 p) := by
    have g0 : ax_sg 0 0 = 100 := by decide
    have g1 : ax_sg 0 (0 + 1) = 102 := by decide
    have g2 : ax_sg 0 (0 + 1 + 1) = 119 := by decide
    have g3 : ax_sg 0 (0 + 1 + 1 + 1) = 99 := by decide
    have g4 : ax_sg 0 (0 + 1 + 1 + 1 + 1) = 108 := by decide
    have g5 : ax_sg 0 (0 + 1 + 1 + 1 + 1 + 1) = 115 := by decide
    simp only [ax_ixN]
    rw [g0, g1, g2, g3, g4, g5]
    unfold it_of
    simp only [eq_comm (a := (100 : Int)), eq_comm (a := (102 : Int)), eq_comm (a := (119 : Int)), eq_comm (a := (99 : Int)), eq_comm (a := (108 : Int)), eq_comm (a := (115 : Int))]
    rfl
  show f_X3_takesOf_N 0 M 6 0 = _
  rw [ml_ofN hat hto, e]
theorem ml_of1 (hat : M 0 5 = (p : Int)) (hto : M 0 6 = (n : Int)) : (f_X3_takesOf 1 M).1 ∧ (f_X3_takesOf 1 M).2 = if p < n ∧ 0 ≤ op_of 0 (M 2 p) then (op_of 0 (M 2 p), ax_up M 0 5 ((p + 1 : Nat) : Int)) else (-1, M) := by
  refine ⟨by show (1 : Nat) < 6; decide, ?_⟩
  have e : ax_ixN 1 (M 2 p) 3 0 = op_of 0 (M 2 p) := by
    have g0 : ax_sg 1 0 = 60 := by decide
    have g1 : ax_sg 1 (0 + 1) = 62 := by decide
    have g2 : ax_sg 1 (0 + 1 + 1) = 61 := by decide
    simp only [ax_ixN]
    rw [g0, g1, g2]
    unfold op_of
    rw [if_pos rfl]
    simp only [eq_comm (a := (60 : Int)), eq_comm (a := (62 : Int)), eq_comm (a := (61 : Int))]
    rfl
  show f_X3_takesOf_N 1 M 3 0 = _
  rw [ml_ofN hat hto, e]
theorem ml_of2 (hat : M 0 5 = (p : Int)) (hto : M 0 6 = (n : Int)) : (f_X3_takesOf 2 M).1 ∧ (f_X3_takesOf 2 M).2 = if p < n ∧ 0 ≤ op_of 1 (M 2 p) then (op_of 1 (M 2 p), ax_up M 0 5 ((p + 1 : Nat) : Int)) else (-1, M) := by
  refine ⟨by show (2 : Nat) < 6; decide, ?_⟩
  have e : ax_ixN 2 (M 2 p) 2 0 = op_of 1 (M 2 p) := by
    have g0 : ax_sg 2 0 = 43 := by decide
    have g1 : ax_sg 2 (0 + 1) = 45 := by decide
    simp only [ax_ixN]
    rw [g0, g1]
    rw [show op_of 1 (M 2 p) = (if M 2 p = 43 then 0 else if M 2 p = 45 then 1 else -1) from rfl]
    simp only [eq_comm (a := (43 : Int)), eq_comm (a := (45 : Int))]
    rfl
  show f_X3_takesOf_N 2 M 2 0 = _
  rw [ml_ofN hat hto, e]
theorem ml_of3 (hat : M 0 5 = (p : Int)) (hto : M 0 6 = (n : Int)) : (f_X3_takesOf 3 M).1 ∧ (f_X3_takesOf 3 M).2 = if p < n ∧ 0 ≤ op_of 2 (M 2 p) then (op_of 2 (M 2 p), ax_up M 0 5 ((p + 1 : Nat) : Int)) else (-1, M) := by
  refine ⟨by show (3 : Nat) < 6; decide, ?_⟩
  have e : ax_ixN 3 (M 2 p) 2 0 = op_of 2 (M 2 p) := by
    have g0 : ax_sg 3 0 = 42 := by decide
    have g1 : ax_sg 3 (0 + 1) = 47 := by decide
    simp only [ax_ixN]
    rw [g0, g1]
    rw [show op_of 2 (M 2 p) = (if M 2 p = 42 then 0 else if M 2 p = 47 then 1 else -1) from rfl]
    simp only [eq_comm (a := (42 : Int)), eq_comm (a := (47 : Int))]
    rfl
  show f_X3_takesOf_N 3 M 2 0 = _
  rw [ml_ofN hat hto, e]
end RML
