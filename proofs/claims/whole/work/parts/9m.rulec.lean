/-! ===== the class's reading of a rule: its code and its stack as lists ===== -/
section RUC
variable {a : Nat} {M N K : ax_M} {o s : List Int}
/-- the code so far; the stack, its top first -/
def cl_S (a : Nat) (o s : List Int) (M : ax_M) : Prop := M a 1 = (o.length : Int) ∧ (∀ i, i < o.length → o[i]? = some (M (a + 1) i)) ∧ M a 3 = (s.length : Int) ∧ ∀ i, i < s.length → s[i]? = some (M (a + 2) (s.length - 1 - i))
/-- what code and stack's makers leave -/
def cl_F (a : Nat) (M N : ax_M) : Prop := (∀ t, t ≠ a → t ≠ a + 1 → t ≠ a + 2 → N t = M t) ∧ ∀ f, f ≠ 1 → f ≠ 3 → N a f = M a f
theorem cl_F.rf : cl_F a M M := ⟨fun _ _ _ _ => rfl, fun _ _ _ => rfl⟩
theorem cl_F.tr (h : cl_F a M N) (g : cl_F a N K) : cl_F a M K := ⟨fun t h1 h2 h3 => (g.1 t h1 h2 h3).trans (h.1 t h1 h2 h3), fun f h1 h2 => (g.2 f h1 h2).trans (h.2 f h1 h2)⟩
theorem cl_emit {x : Int} (h : cl_S a o s M) (ho : o.length < 40) : cl_S a (o ++ [x]) s (f_X1_emit (a : Int) x M) ∧ cl_F a M (f_X1_emit (a : Int) x M) := by
  obtain ⟨h1, h2, h3, h4⟩ := h
  have e1 : ((a : Int) + 1).toNat = a + 1 := by omega
  unfold f_X1_emit
  simp only [ax_bd]
  rw [fo_t0, h1, if_neg (by omega), e1, fo_t0, ax_up_ne (show a ≠ a + 1 by omega), h1]
  refine ⟨⟨?_, fun i hi => ?_, ?_, fun i hi => ?_⟩, fun t t0 t1 t2 => by rw [ax_up_ne t0, ax_up_ne t1], fun f f1 f3 => by rw [fo_up_at, fo_u_o f1, ax_up_ne (show a ≠ a + 1 by omega)]⟩
  · rw [fo_up_at, fo_u_s, List.length_append]; rfl
  · rw [ax_up_ne (show a + 1 ≠ a by omega), fo_up_at]
    by_cases e : i = o.length
    · subst e
      rw [fo_u_s, List.getElem?_append_right (Nat.le_refl _), Nat.sub_self]
      rfl
    · have hi2 : i < o.length := by rw [List.length_append] at hi; simp at hi; omega
      rw [fo_u_o e, List.getElem?_append_left hi2]
      exact h2 i hi2
  · rw [fo_up_at, fo_u_o (by decide), ax_up_ne (show a ≠ a + 1 by omega), h3]
  · rw [ax_up_ne (show a + 2 ≠ a by omega), ax_up_ne (show a + 2 ≠ a + 1 by omega)]
    exact h4 i hi
theorem cl_push {x : Int} (h : cl_S a o s M) (hs : s.length < 40) : cl_S a o (x :: s) (f_X1_push (a : Int) x M) ∧ cl_F a M (f_X1_push (a : Int) x M) := by
  obtain ⟨h1, h2, h3, h4⟩ := h
  have e2 : ((a : Int) + 2).toNat = a + 2 := by omega
  unfold f_X1_push
  simp only [ax_bd]
  rw [fo_t0, h3, if_neg (by omega), e2, fo_t0, ax_up_ne (show a ≠ a + 2 by omega), h3]
  refine ⟨⟨?_, fun i hi => ?_, ?_, fun i hi => ?_⟩, fun t t0 t1 t2 => by rw [ax_up_ne t0, ax_up_ne t2], fun f f1 f3 => by rw [fo_up_at, fo_u_o f3, ax_up_ne (show a ≠ a + 2 by omega)]⟩
  · rw [fo_up_at, fo_u_o (by decide), ax_up_ne (show a ≠ a + 2 by omega), h1]
  · rw [ax_up_ne (show a + 1 ≠ a by omega), ax_up_ne (show a + 1 ≠ a + 2 by omega)]
    exact h2 i hi
  · rw [fo_up_at, fo_u_s, List.length_cons]; omega
  · rw [ax_up_ne (show a + 2 ≠ a by omega), fo_up_at, List.length_cons]
    cases i with
    | zero => rw [show s.length + 1 - 1 - 0 = s.length by omega, fo_u_s]; rfl
    | succ i =>
      have hi2 : i < s.length := by rw [List.length_cons] at hi; omega
      rw [show s.length + 1 - 1 - (i + 1) = s.length - 1 - i by omega, fo_u_o (by omega)]
      exact h4 i hi2
/-- the stack without its top -/
theorem cl_pop {x : Int} (h : cl_S a o (x :: s) M) : cl_S a o s (ax_up M a 3 (s.length : Int)) ∧ cl_F a M (ax_up M a 3 (s.length : Int)) ∧ M (a + 2) s.length = x := by
  obtain ⟨h1, h2, h3, h4⟩ := h
  refine ⟨⟨?_, fun i hi => ?_, ?_, fun i hi => ?_⟩, ⟨fun t t0 t1 t2 => ax_up_ne t0, fun f f1 f3 => by rw [fo_up_at, fo_u_o f3]⟩, ?_⟩
  · rw [fo_up_at, fo_u_o (by decide), h1]
  · rw [ax_up_ne (show a + 1 ≠ a by omega)]
    exact h2 i hi
  · rw [fo_up_at, fo_u_s]
  · rw [ax_up_ne (show a + 2 ≠ a by omega)]
    have := h4 (i + 1) (by rw [List.length_cons]; omega)
    rw [List.length_cons, show s.length + 1 - 1 - (i + 1) = s.length - 1 - i by omega] at this
    exact this
  · have := h4 0 (by rw [List.length_cons]; omega)
    rw [List.length_cons, show s.length + 1 - 1 - 0 = s.length by omega] at this
    exact (Option.some.inj this).symm
def bd_of (x : Int) : Int := f_X1_bindingOf x (fun _ _ => 0)
theorem bd_of_eq {x : Int} : f_X1_bindingOf x M = bd_of x := rfl
theorem bd_of_r {x : Int} (h : 1 ≤ bd_of x) : 0 ≤ x ∧ x ≤ 256 := by
  unfold bd_of f_X1_bindingOf at h
  by_cases h1 : x = 42
  · omega
  · by_cases h2 : x = 43
    · omega
    · by_cases h3 : x = 45
      · omega
      · by_cases h4 : x = 47
        · omega
        · by_cases h5 : x = 60
          · omega
          · by_cases h6 : x = 61
            · omega
            · by_cases h7 : x = 62
              · omega
              · by_cases h8 : x = 256
                · omega
                · rw [if_neg h1, if_neg h2, if_neg h3, if_neg h4, if_neg h5, if_neg h6, if_neg h7, if_neg h8] at h
                  omega
theorem cl_unwindL {w : Int} (hw : 0 ≤ w) : ∀ (t u o : List Int) (n : Nat) (M : ax_M) (kx : ax_M → Prop × ax_M), cl_S a o (t ++ u) M → t.length < n → (∀ x, x ∈ t → w ≤ bd_of x ∧ 0 ≤ x ∧ x ≤ 256) → (u = [] ∨ ∃ y v, u = y :: v ∧ bd_of y < w) → o.length + t.length ≤ 40 →
    ∃ N, cl_S a (o ++ t.map (fun x => 2000 + x)) u N ∧ cl_F a M N ∧ f_X1_unwind_L0 (a : Int) w n M kx = kx N := by
  intro t
  induction t with
  | nil =>
    intro u o n M kx h hn ht hu ho
    obtain ⟨n, rfl⟩ : ∃ k, n = k + 1 := ⟨n - 1, by simp at hn; omega⟩
    rw [List.nil_append] at h
    refine ⟨M, by simpa using h, cl_F.rf, ?_⟩
    rw [f_X1_unwind_L0, f_X1_unwind_B0, fo_t0]
    rcases hu with rfl | ⟨y, v, rfl, hy⟩
    · rw [h.2.2.1, if_pos (by decide)]
    · have e2 : ((a : Int) + 2).toNat = a + 2 := by omega
      have hp := (cl_pop h).2.2
      rw [h.2.2.1, if_neg (by rw [List.length_cons]; omega), e2, show (((y :: v).length : Int) - 1).toNat = v.length by rw [List.length_cons]; omega, hp, bd_of_eq, if_pos hy]
  | cons x t ih =>
    intro u o n M kx h hn ht hu ho
    obtain ⟨n, rfl⟩ : ∃ k, n = k + 1 := ⟨n - 1, by simp at hn; omega⟩
    have e2 : ((a : Int) + 2).toNat = a + 2 := by omega
    have hx := ht x List.mem_cons_self
    rw [List.cons_append] at h
    obtain ⟨p1, p2, p3⟩ := cl_pop h
    have hlen : (((x :: (t ++ u)).length : Int) - 1) = ((t ++ u).length : Int) := by rw [List.length_cons]; omega
    rw [f_X1_unwind_L0, f_X1_unwind_B0, fo_t0, h.2.2.1, if_neg (by rw [List.length_cons]; omega), e2, hlen, fo_t0, p3, bd_of_eq, if_neg (by omega)]
    simp only [ax_bd]
    have q1 : ax_up M a 3 ((t ++ u).length : Int) a 3 = ((t ++ u).length : Int) := by rw [fo_up_at, fo_u_s]
    have q2 : ax_up M a 3 ((t ++ u).length : Int) (a + 2) (t ++ u).length = x := by rw [ax_up_ne (show a + 2 ≠ a by omega), p3]
    rw [q1, fo_t0, q2, ax_wr_id (by omega) (by omega)]
    rw [List.length_cons] at ho hn
    obtain ⟨e1, e3⟩ := cl_emit (x := 2000 + x) p1 (by omega)
    obtain ⟨N, n1, n2, n3⟩ := ih u (o ++ [2000 + x]) n _ kx e1 (by omega) (fun y hy => ht y (List.mem_cons_of_mem _ hy)) hu (by rw [List.length_append]; simp; omega)
    refine ⟨N, ?_, (p2.tr e3).tr n2, n3⟩
    rw [List.map_cons]
    rw [List.append_assoc] at n1
    exact n1
theorem cl_unwind {w : Int} {t u : List Int} (hw : 0 ≤ w) (h : cl_S a o (t ++ u) M) (ht : ∀ x, x ∈ t → w ≤ bd_of x ∧ 0 ≤ x ∧ x ≤ 256) (hu : u = [] ∨ ∃ y v, u = y :: v ∧ bd_of y < w) (ho : o.length + t.length ≤ 40) :
    (f_X1_unwind (a : Int) w M).1 ∧ cl_S a (o ++ t.map (fun x => 2000 + x)) u (f_X1_unwind (a : Int) w M).2 ∧ cl_F a M (f_X1_unwind (a : Int) w M).2 := by
  obtain ⟨N, n1, n2, n3⟩ := cl_unwindL hw t u o 100 M (fun M8 => (True, M8)) h (by omega) ht hu ho
  unfold f_X1_unwind
  rw [n3]
  exact ⟨trivial, n1, n2⟩
end RUC
