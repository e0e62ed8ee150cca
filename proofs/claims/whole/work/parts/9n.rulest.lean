/-! ===== the class's reading of a rule, a sign at a time ===== -/
section RUT
variable {a : Nat} {M N K : ax_M} {o s : List Int} {wt dp dg cm : Int}
/-- the reader's state: code, stack, wants a thing, depth, digits, compared -/
def cl_T (a : Nat) (o s : List Int) (wt dp dg cm : Int) (M : ax_M) : Prop := cl_S a o s M ∧ M a 4 = wt ∧ M a 5 = dp ∧ M a 7 = dg ∧ M a 6 = cm
def cl_G (a : Nat) (M N : ax_M) : Prop := (∀ t, t ≠ a → t ≠ a + 1 → t ≠ a + 2 → N t = M t) ∧ ∀ f, f ≠ 1 → f ≠ 3 → f ≠ 4 → f ≠ 5 → f ≠ 6 → f ≠ 7 → N a f = M a f
theorem cl_G.rf : cl_G a M M := ⟨fun _ _ _ _ => rfl, fun _ _ _ _ _ _ _ => rfl⟩
theorem cl_G.tr (h : cl_G a M N) (g : cl_G a N K) : cl_G a M K := ⟨fun t h1 h2 h3 => (g.1 t h1 h2 h3).trans (h.1 t h1 h2 h3), fun f h1 h2 h3 h4 h5 h6 => (g.2 f h1 h2 h3 h4 h5 h6).trans (h.2 f h1 h2 h3 h4 h5 h6)⟩
theorem cl_F.g (h : cl_F a M N) : cl_G a M N := ⟨h.1, fun f h1 h2 _ _ _ _ => h.2 f h1 h2⟩
theorem cl_T.f {o' s' : List Int} (h : cl_T a o s wt dp dg cm M) (hF : cl_F a M N) (hS : cl_S a o' s' N) : cl_T a o' s' wt dp dg cm N := ⟨hS, by rw [hF.2 4 (by decide) (by decide)]; exact h.2.1, by rw [hF.2 5 (by decide) (by decide)]; exact h.2.2.1, by rw [hF.2 7 (by decide) (by decide)]; exact h.2.2.2.1, by rw [hF.2 6 (by decide) (by decide)]; exact h.2.2.2.2⟩
theorem cl_S.up {f : Nat} {x : Int} (h : cl_S a o s M) (h1 : f ≠ 1) (h3 : f ≠ 3) : cl_S a o s (ax_up M a f x) :=
  ⟨by rw [fo_up_at, fo_u_o (Ne.symm h1)]; exact h.1, fun i hi => by rw [ax_up_ne (show a + 1 ≠ a by omega)]; exact h.2.1 i hi, by rw [fo_up_at, fo_u_o (Ne.symm h3)]; exact h.2.2.1, fun i hi => by rw [ax_up_ne (show a + 2 ≠ a by omega)]; exact h.2.2.2 i hi⟩
theorem cl_G.up {f : Nat} {x : Int} (h : f = 4 ∨ f = 5 ∨ f = 6 ∨ f = 7) : cl_G a M (ax_up M a f x) := ⟨fun t t0 _ _ => ax_up_ne t0, fun g g1 g3 g4 g5 g6 g7 => by rw [fo_up_at, fo_u_o (by omega)]⟩
theorem cl_T.u4 {x : Int} (h : cl_T a o s wt dp dg cm M) : cl_T a o s x dp dg cm (ax_up M a 4 x) := ⟨h.1.up (by decide) (by decide), by rw [fo_up_at, fo_u_s], by rw [fo_up_at, fo_u_o (by decide)]; exact h.2.2.1, by rw [fo_up_at, fo_u_o (by decide)]; exact h.2.2.2.1, by rw [fo_up_at, fo_u_o (by decide)]; exact h.2.2.2.2⟩
theorem cl_T.u5 {x : Int} (h : cl_T a o s wt dp dg cm M) : cl_T a o s wt x dg cm (ax_up M a 5 x) := ⟨h.1.up (by decide) (by decide), by rw [fo_up_at, fo_u_o (by decide)]; exact h.2.1, by rw [fo_up_at, fo_u_s], by rw [fo_up_at, fo_u_o (by decide)]; exact h.2.2.2.1, by rw [fo_up_at, fo_u_o (by decide)]; exact h.2.2.2.2⟩
theorem cl_T.u6 {x : Int} (h : cl_T a o s wt dp dg cm M) : cl_T a o s wt dp dg x (ax_up M a 6 x) := ⟨h.1.up (by decide) (by decide), by rw [fo_up_at, fo_u_o (by decide)]; exact h.2.1, by rw [fo_up_at, fo_u_o (by decide)]; exact h.2.2.1, by rw [fo_up_at, fo_u_o (by decide)]; exact h.2.2.2.1, by rw [fo_up_at, fo_u_s]⟩
theorem cl_T.u7 {x : Int} (h : cl_T a o s wt dp dg cm M) : cl_T a o s wt dp x cm (ax_up M a 7 x) := ⟨h.1.up (by decide) (by decide), by rw [fo_up_at, fo_u_o (by decide)]; exact h.2.1, by rw [fo_up_at, fo_u_o (by decide)]; exact h.2.2.1, by rw [fo_up_at, fo_u_s], by rw [fo_up_at, fo_u_o (by decide)]; exact h.2.2.2.2⟩
/-- a sign that is no digit: what goes on -/
theorem go_nd {c : Int} (hc : ¬ (48 ≤ c ∧ c ≤ 57)) (h4 : M a 4 = wt) (b1 : wt = 0 → (f_X1_followsThing (a : Int) c (ax_up M a 7 0)).1) : (f_X1_goesOnBy (a : Int) c M).1 ∧ (f_X1_goesOnBy (a : Int) c M).2 = if wt = 0 then (f_X1_followsThing (a : Int) c (ax_up M a 7 0)).2 else f_X1_opensThing (a : Int) c (ax_up M a 7 0) := by
  have e4 : ax_up M a 7 0 a 4 = wt := by rw [fo_up_at, fo_u_o (by decide), h4]
  unfold f_X1_goesOnBy
  simp only [ax_bd]
  rw [fo_t0, e4]
  unfold ax_rc
  by_cases hw : wt = 0
  · simp only [if_pos hw]
    by_cases h1 : c < 48
    · rw [if_pos h1]; exact ⟨⟨b1 hw, trivial⟩, rfl⟩
    · rw [if_neg h1, if_pos (by omega)]; exact ⟨⟨b1 hw, trivial⟩, rfl⟩
  · simp only [if_neg hw]
    by_cases h1 : c < 48
    · rw [if_pos h1]; exact ⟨trivial, rfl⟩
    · rw [if_neg h1, if_pos (by omega)]; exact ⟨trivial, rfl⟩
theorem go_d {c : Int} (hc : 48 ≤ c ∧ c ≤ 57) : (f_X1_goesOnBy (a : Int) c M).1 ∧ (f_X1_goesOnBy (a : Int) c M).2 = f_X1_goesOnByDigit (a : Int) (c - 48) M := by
  unfold f_X1_goesOnBy
  rw [if_neg (by omega), if_neg (by omega)]
  exact ⟨trivial, rfl⟩
/-- a number's first digit -/
theorem go_d1 {c : Int} (h : cl_T a o s 1 dp dg cm M) (hc : 48 ≤ c ∧ c ≤ 57) (ho : o.length < 40) : (f_X1_goesOnBy (a : Int) c M).1 ∧ (f_X1_goesOnBy (a : Int) c M).2.1 = 1 ∧ cl_T a (o ++ [c - 48]) s 0 dp 1 cm (f_X1_goesOnBy (a : Int) c M).2.2 ∧ cl_G a M (f_X1_goesOnBy (a : Int) c M).2.2 := by
  obtain ⟨g1, g2⟩ := go_d (a := a) (M := M) hc
  obtain ⟨e1, e2⟩ := cl_emit (x := c - 48) h.1 ho
  refine ⟨g1, ?_⟩
  rw [g2]
  unfold f_X1_goesOnByDigit
  simp only [ax_bd]
  rw [fo_t0, h.2.1, if_neg (by decide)]
  exact ⟨rfl, ((h.f e2 e1).u7).u4, (e2.g.tr (cl_G.up (by omega))).tr (cl_G.up (by omega))⟩
/-- a digit that cannot stand there -/
theorem go_dn {c : Int} (h : cl_T a o s 0 dp dg cm M) (hc : 48 ≤ c ∧ c ≤ 57) (hd : dg = 0 ∨ 3 ≤ dg) : (f_X1_goesOnBy (a : Int) c M).1 ∧ (f_X1_goesOnBy (a : Int) c M).2 = (0, M) := by
  obtain ⟨g1, g2⟩ := go_d (a := a) (M := M) hc
  refine ⟨g1, ?_⟩
  rw [g2]
  unfold f_X1_goesOnByDigit
  simp only [ax_bd]
  rw [fo_t0, h.2.1, if_pos rfl, h.2.2.2.1]
  rcases hd with e | e
  · rw [if_pos e]
  · rw [if_neg (by omega), if_pos e]
/-- a number's next digit -/
theorem go_d2 {c y : Int} (h : cl_T a (o ++ [y]) s 0 dp dg cm M) (hc : 48 ≤ c ∧ c ≤ 57) (hd : 1 ≤ dg ∧ dg < 3) (hy : 0 ≤ y ∧ y ≤ 1000) : (f_X1_goesOnBy (a : Int) c M).1 ∧ (f_X1_goesOnBy (a : Int) c M).2.1 = 1 ∧ cl_T a (o ++ [10 * y + (c - 48)]) s 0 dp (dg + 1) cm (f_X1_goesOnBy (a : Int) c M).2.2 ∧ cl_G a M (f_X1_goesOnBy (a : Int) c M).2.2 := by
  obtain ⟨g1, g2⟩ := go_d (a := a) (M := M) hc
  refine ⟨g1, ?_⟩
  rw [g2]
  obtain ⟨⟨h1, h2, h3, h4⟩, t4, t5, t7, t6⟩ := h
  have e1 : ((a : Int) + 1).toNat = a + 1 := by omega
  have hl : (o ++ [y]).length = o.length + 1 := by simp
  rw [hl] at h1 h2
  have ey : M (a + 1) o.length = y := by
    have := h2 o.length (by omega)
    rw [List.getElem?_append_right (Nat.le_refl _), Nat.sub_self] at this
    exact (Option.some.inj this).symm
  have ei : (((o.length + 1 : Nat) : Int) - 1).toNat = o.length := by omega
  unfold f_X1_goesOnByDigit
  simp only [ax_bd]
  rw [fo_t0, t4, if_pos rfl, t7, if_neg (by omega), if_neg (by omega), h1, if_pos (by omega), e1, ei, ey, ax_wr_id (x := 10 * y) (by omega) (by omega), ax_wr_id (by omega) (by omega), ax_up_ne (show a ≠ a + 1 by omega), t7]
  have hS : cl_S a (o ++ [10 * y + (c - 48)]) s (ax_up M (a + 1) o.length (10 * y + (c - 48))) := by
    have hl2 : (o ++ [10 * y + (c - 48)]).length = o.length + 1 := by simp
    refine ⟨by rw [hl2, ax_up_ne (show a ≠ a + 1 by omega), h1], fun i hi => ?_, by rw [ax_up_ne (show a ≠ a + 1 by omega), h3], fun i hi => by rw [ax_up_ne (show a + 2 ≠ a + 1 by omega)]; exact h4 i hi⟩
    rw [hl2] at hi
    rw [fo_up_at]
    by_cases e : i = o.length
    · subst e
      rw [fo_u_s, List.getElem?_append_right (Nat.le_refl _), Nat.sub_self]
      rfl
    · rw [fo_u_o e, List.getElem?_append_left (by omega)]
      have := h2 i hi
      rw [List.getElem?_append_left (by omega)] at this
      exact this
  dsimp only
  refine ⟨rfl, ⟨hS.up (by decide) (by decide), ?_, ?_, ?_, ?_⟩, ⟨fun t t0 t1 _ => by rw [ax_up_ne t0, ax_up_ne t1], fun f _ _ _ _ _ f7 => by rw [fo_up_at, fo_u_o f7, ax_up_ne (show a ≠ a + 1 by omega)]⟩⟩
  · rw [fo_up_at, fo_u_o (by decide), ax_up_ne (show a ≠ a + 1 by omega), t4]
  · rw [fo_up_at, fo_u_o (by decide), ax_up_ne (show a ≠ a + 1 by omega), t5]
  · rw [fo_up_at, fo_u_s]
  · rw [fo_up_at, fo_u_o (by decide), ax_up_ne (show a ≠ a + 1 by omega), t6]
end RUT
