/-! ===== the class's reading of a rule: signs that are no digits ===== -/
section RUV
variable {a : Nat} {M N K : ax_M} {o s t u : List Int} {wt dp dg cm c w : Int}
def it_of (c : Int) : Int := if c = 100 then 0 else if c = 102 then 1 else if c = 119 then 2 else if c = 99 then 3 else if c = 108 then 4 else if c = 115 then 5 else -1
theorem it_eq : ax_ix 0 c = it_of c := by
  by_cases h : 0 ≤ c ∧ c ≤ 255
  · obtain ⟨n, rfl⟩ : ∃ n : Nat, c = (n : Int) := ⟨c.toNat, by omega⟩
    have : ∀ n : Nat, n < 256 → ax_ix 0 (n : Int) = it_of (n : Int) := by decide +kernel
    exact this n (by omega)
  · unfold ax_ix it_of
    rw [if_neg h, if_neg (by omega), if_neg (by omega), if_neg (by omega), if_neg (by omega), if_neg (by omega), if_neg (by omega)]
/-- what a step gives -/
def cl_1 (a : Nat) (R : Prop × Int × ax_M) (M : ax_M) (o s : List Int) (wt dp dg cm : Int) : Prop := R.1 ∧ R.2.1 = 1 ∧ cl_T a o s wt dp dg cm R.2.2 ∧ cl_G a M R.2.2
def cl_0 (a : Nat) (R : Prop × Int × ax_M) (M : ax_M) : Prop := R.1 ∧ R.2.1 = 0 ∧ cl_G a M R.2.2
theorem cl_0d (h : cl_T a o s 0 dp dg cm M) (hc : 48 ≤ c ∧ c ≤ 57) (hd : dg = 0 ∨ 3 ≤ dg) : cl_0 a (f_X1_goesOnBy (a : Int) c M) M := by
  obtain ⟨g1, g2⟩ := go_dn h hc hd
  exact ⟨g1, by rw [g2], by rw [g2]; exact cl_G.rf⟩
theorem go_w (h : cl_T a o s 1 dp dg cm M) (hc : ¬ (48 ≤ c ∧ c ≤ 57)) : (f_X1_goesOnBy (a : Int) c M).1 ∧ (f_X1_goesOnBy (a : Int) c M).2 = f_X1_opensThing (a : Int) c (ax_up M a 7 0) := by
  obtain ⟨g1, g2⟩ := go_nd (a := a) (M := M) hc h.2.1 (fun h => absurd h (by decide))
  rw [if_neg (by decide)] at g2
  exact ⟨g1, g2⟩
theorem go_neg (h : cl_T a o s 1 dp dg cm M) (hs : s.length < 40) : cl_1 a (f_X1_goesOnBy (a : Int) 45 M) M o (256 :: s) 1 dp 0 cm := by
  obtain ⟨g1, g2⟩ := go_w (c := 45) h (by decide)
  have h7 := h.u7 (x := 0)
  obtain ⟨e1, e2⟩ := cl_push (x := 256) h7.1 hs
  have e : f_X1_opensThing (a : Int) 45 (ax_up M a 7 0) = (1, f_X1_push (a : Int) 256 (ax_up M a 7 0)) := rfl
  refine ⟨g1, by rw [g2, e], ?_, ?_⟩
  · rw [g2, e]; exact h7.f e2 e1
  · rw [g2, e]; exact (cl_G.up (by omega)).tr e2.g
theorem go_open (h : cl_T a o s 1 dp dg cm M) (hs : s.length < 40) (hd : dp < 4) : cl_1 a (f_X1_goesOnBy (a : Int) 40 M) M o (40 :: s) 1 (dp + 1) 0 (ax_and cm (ax_xor (ax_shl 1 (dp + 1)) (-1))) := by
  obtain ⟨g1, g2⟩ := go_w (c := 40) h (by decide)
  have h7 := h.u7 (x := 0)
  have k7 : cl_G a M (ax_up M a 7 0) := cl_G.up (by omega)
  have h5 := h7.u5 (x := dp + 1)
  have k5 : cl_G a M (ax_up (ax_up M a 7 0) a 5 (dp + 1)) := k7.tr (cl_G.up (by omega))
  have e : f_X1_opensThing (a : Int) 40 (ax_up M a 7 0) = (1, f_X1_push (a : Int) 40 (ax_up (ax_up (ax_up M a 7 0) a 5 (dp + 1)) a 6 (ax_and cm (ax_xor (ax_shl 1 (dp + 1)) (-1))))) := by
    unfold f_X1_opensThing
    simp only [ax_bd]
    rw [if_pos (by decide), if_neg (by decide), fo_t0, h7.2.2.1, if_pos hd, h5.2.2.2.2, h5.2.2.1]
  have h6 := h5.u6 (x := ax_and cm (ax_xor (ax_shl 1 (dp + 1)) (-1)))
  have k6 := k5.tr (cl_G.up (f := 6) (x := ax_and cm (ax_xor (ax_shl 1 (dp + 1)) (-1))) (by omega))
  obtain ⟨e1, e2⟩ := cl_push (x := 40) h6.1 hs
  refine ⟨g1, by rw [g2, e], ?_, ?_⟩
  · rw [g2, e]; exact h6.f e2 e1
  · rw [g2, e]; exact k6.tr e2.g
theorem go_open_n (h : cl_T a o s 1 dp dg cm M) (hd : 4 ≤ dp) : cl_0 a (f_X1_goesOnBy (a : Int) 40 M) M := by
  obtain ⟨g1, g2⟩ := go_w (c := 40) h (by decide)
  have h7 := h.u7 (x := 0)
  have e : f_X1_opensThing (a : Int) 40 (ax_up M a 7 0) = (0, ax_up M a 7 0) := by
    unfold f_X1_opensThing
    simp only [ax_bd]
    rw [if_pos (by decide), if_neg (by decide), fo_t0, h7.2.2.1, if_neg (by omega)]
  exact ⟨g1, by rw [g2, e], by rw [g2, e]; exact cl_G.up (by omega)⟩
theorem go_thing (h : cl_T a o s 1 dp dg cm M) (ho : o.length < 40) (hi : 0 ≤ it_of c) : cl_1 a (f_X1_goesOnBy (a : Int) c M) M (o ++ [1000 + it_of c]) s 0 dp 0 cm := by
  have hr : c ≠ 45 ∧ c ≠ 40 ∧ ¬ (48 ≤ c ∧ c ≤ 57) := by
    unfold it_of at hi
    refine ⟨fun e => ?_, fun e => ?_, fun e => ?_⟩
    · subst e; exact absurd hi (by decide)
    · subst e; exact absurd hi (by decide)
    · rw [if_neg (by omega), if_neg (by omega), if_neg (by omega), if_neg (by omega), if_neg (by omega), if_neg (by omega)] at hi
      omega
  obtain ⟨g1, g2⟩ := go_w (c := c) h hr.2.2
  have h7 := h.u7 (x := 0)
  obtain ⟨e1, e2⟩ := cl_emit (x := 1000 + it_of c) h7.1 ho
  have e : f_X1_opensThing (a : Int) c (ax_up M a 7 0) = (1, ax_up (f_X1_emit (a : Int) (1000 + it_of c) (ax_up M a 7 0)) a 4 0) := by
    unfold f_X1_opensThing
    simp only [ax_bd]
    rw [if_pos hr.1, if_pos hr.2.1, it_eq, if_pos hi, fo_t0]
  refine ⟨g1, by rw [g2, e], ?_, ?_⟩
  · rw [g2, e]; exact (h7.f e2 e1).u4
  · rw [g2, e]; exact ((cl_G.up (by omega)).tr e2.g).tr (cl_G.up (by omega))
theorem go_thing_n (h : cl_T a o s 1 dp dg cm M) (h1 : c ≠ 45) (h2 : c ≠ 40) (h3 : ¬ (48 ≤ c ∧ c ≤ 57)) (hi : it_of c < 0) : cl_0 a (f_X1_goesOnBy (a : Int) c M) M := by
  obtain ⟨g1, g2⟩ := go_w (c := c) h h3
  have e : f_X1_opensThing (a : Int) c (ax_up M a 7 0) = (0, ax_up M a 7 0) := by
    unfold f_X1_opensThing
    simp only [ax_bd]
    rw [if_pos h1, if_pos h2, it_eq, if_neg (by omega)]
  exact ⟨g1, by rw [g2, e], by rw [g2, e]; exact cl_G.up (by omega)⟩
theorem go_f (h : cl_T a o s 0 dp dg cm M) (hc : ¬ (48 ≤ c ∧ c ≤ 57)) (b1 : (f_X1_followsThing (a : Int) c (ax_up M a 7 0)).1) : (f_X1_goesOnBy (a : Int) c M).1 ∧ (f_X1_goesOnBy (a : Int) c M).2 = (f_X1_followsThing (a : Int) c (ax_up M a 7 0)).2 := by
  obtain ⟨g1, g2⟩ := go_nd (a := a) (M := M) hc h.2.1 (fun _ => b1)
  rw [if_pos rfl] at g2
  exact ⟨g1, g2⟩
theorem go_f0 (h : cl_T a o s 0 dp dg cm M) (hc : ¬ (48 ≤ c ∧ c ≤ 57)) (e : f_X1_followsThing (a : Int) c (ax_up M a 7 0) = (True, 0, ax_up M a 7 0)) : cl_0 a (f_X1_goesOnBy (a : Int) c M) M := by
  obtain ⟨g1, g2⟩ := go_f h hc (by rw [e]; trivial)
  exact ⟨g1, by rw [g2, e], by rw [g2, e]; exact cl_G.up (by omega)⟩
theorem go_close_n (h : cl_T a o s 0 dp dg cm M) (hd : dp < 1) : cl_0 a (f_X1_goesOnBy (a : Int) 41 M) M := by
  have h7 := h.u7 (x := 0)
  refine go_f0 h (by decide) ?_
  unfold f_X1_followsThing
  rw [if_neg (by decide), fo_t0, h7.2.2.1, if_neg (by omega)]
theorem go_none (h : cl_T a o s 0 dp dg cm M) (hc : ¬ (48 ≤ c ∧ c ≤ 57)) (h1 : c ≠ 41) (hb : bd_of c = 0) : cl_0 a (f_X1_goesOnBy (a : Int) c M) M := by
  refine go_f0 h hc ?_
  unfold f_X1_followsThing
  simp only [ax_bd]
  rw [if_pos h1, bd_of_eq, hb, if_neg (by decide)]
theorem go_close (h : cl_T a o (t ++ 40 :: u) 0 dp dg cm M) (hd : 1 ≤ dp) (ht : ∀ x, x ∈ t → 1 ≤ bd_of x) (ho : o.length + t.length ≤ 40) : cl_1 a (f_X1_goesOnBy (a : Int) 41 M) M (o ++ t.map (fun x => 2000 + x)) u 0 (dp - 1) 0 cm := by
  have h7 := h.u7 (x := 0)
  have k7 : cl_G a M (ax_up M a 7 0) := cl_G.up (by omega)
  have h5 := h7.u5 (x := dp - 1)
  have k5 : cl_G a M (ax_up (ax_up M a 7 0) a 5 (dp - 1)) := k7.tr (cl_G.up (by omega))
  obtain ⟨u1, u2, u3⟩ := cl_unwind (w := 1) (t := t) (u := 40 :: u) (by decide) h5.1 (fun x hx => ⟨ht x hx, bd_of_r (ht x hx)⟩) (Or.inr ⟨40, u, rfl, by decide⟩) ho
  have hT := h5.f u3 u2
  have kT := k5.tr u3.g
  have e : f_X1_followsThing (a : Int) 41 (ax_up M a 7 0) = ax_rc (f_X1_unwind (a : Int) 1 (ax_up (ax_up M a 7 0) a 5 (dp - 1))) (fun M20 => (True, (1, ax_up M20 a 3 (if 0 < M20 a 3 - 1 then M20 a 3 - 1 else 0)))) := by
    unfold f_X1_followsThing
    simp only [ax_bd]
    rw [if_neg (by decide), fo_t0, h7.2.2.1, if_pos hd]
  unfold ax_rc at e
  dsimp only at e
  generalize f_X1_unwind (a : Int) 1 (ax_up (ax_up M a 7 0) a 5 (dp - 1)) = W at u1 u2 u3 hT kT e
  have e3 : (if 0 < W.2 a 3 - 1 then W.2 a 3 - 1 else 0) = (u.length : Int) := by
    rw [u2.2.2.1, List.length_cons]
    split <;> omega
  rw [e3] at e
  obtain ⟨p1, p2, _⟩ := cl_pop u2
  obtain ⟨g1, g2⟩ := go_f (c := 41) h (by decide) (by rw [e]; exact ⟨u1, trivial⟩)
  refine ⟨g1, by rw [g2, e], ?_, ?_⟩
  · rw [g2, e]; exact hT.f p2 p1
  · rw [g2, e]; exact kT.tr p2.g
/-- a join that is no comparison -/
theorem go_op2 (h : cl_T a o (t ++ u) 0 dp dg cm M) (hc : ¬ (48 ≤ c ∧ c ≤ 57)) (h41 : c ≠ 41) (hb : bd_of c = w) (hw : 2 ≤ w) (ht : ∀ x, x ∈ t → w ≤ bd_of x) (hu : u = [] ∨ ∃ y v, u = y :: v ∧ bd_of y < w) (ho : o.length + t.length ≤ 40) (hs : u.length < 40) :
    cl_1 a (f_X1_goesOnBy (a : Int) c M) M (o ++ t.map (fun x => 2000 + x)) (c :: u) 1 dp 0 cm := by
  have h7 := h.u7 (x := 0)
  have k7 : cl_G a M (ax_up M a 7 0) := cl_G.up (by omega)
  obtain ⟨u1, u2, u3⟩ := cl_unwind (w := w) (t := t) (u := u) (by omega) h7.1 (fun x hx => ⟨ht x hx, bd_of_r (by have := ht x hx; omega)⟩) hu ho
  have hT := h7.f u3 u2
  have kT := k7.tr u3.g
  have e : f_X1_followsThing (a : Int) c (ax_up M a 7 0) = ax_rc (f_X1_unwind (a : Int) w (ax_up M a 7 0)) (fun M6 => (True, (1, ax_up (f_X1_push (a : Int) c M6) a 4 1))) := by
    unfold f_X1_followsThing
    simp only [ax_bd]
    rw [if_pos h41, bd_of_eq, hb, if_pos (by omega), if_pos (by omega)]
    rfl
  unfold ax_rc at e
  dsimp only at e
  generalize f_X1_unwind (a : Int) w (ax_up M a 7 0) = W at u1 u2 u3 hT kT e
  obtain ⟨p1, p2⟩ := cl_push (x := c) u2 hs
  obtain ⟨g1, g2⟩ := go_f h hc (by rw [e]; exact ⟨u1, trivial⟩)
  refine ⟨g1, by rw [g2, e], ?_, ?_⟩
  · rw [g2, e]; exact (hT.f p2 p1).u4
  · rw [g2, e]; exact (kT.tr p2.g).tr (cl_G.up (by omega))
/-- a comparison -/
theorem go_op1 (h : cl_T a o (t ++ u) 0 dp dg cm M) (hc : ¬ (48 ≤ c ∧ c ≤ 57)) (h41 : c ≠ 41) (hb : bd_of c = 1) (hbit : ax_and (ax_shr cm dp) 1 = 0) (ht : ∀ x, x ∈ t → 1 ≤ bd_of x) (hu : u = [] ∨ ∃ y v, u = y :: v ∧ bd_of y < 1) (ho : o.length + t.length ≤ 40) (hs : u.length < 40) :
    cl_1 a (f_X1_goesOnBy (a : Int) c M) M (o ++ t.map (fun x => 2000 + x)) (c :: u) 1 dp 0 (ax_or cm (ax_shl 1 dp)) := by
  have h7 := h.u7 (x := 0)
  have k7 : cl_G a M (ax_up M a 7 0) := cl_G.up (by omega)
  have h6 := h7.u6 (x := ax_or cm (ax_shl 1 dp))
  have k6 : cl_G a M (ax_up (ax_up M a 7 0) a 6 (ax_or cm (ax_shl 1 dp))) := k7.tr (cl_G.up (by omega))
  obtain ⟨u1, u2, u3⟩ := cl_unwind (w := 1) (t := t) (u := u) (by omega) h6.1 (fun x hx => ⟨ht x hx, bd_of_r (ht x hx)⟩) hu ho
  have hT := h6.f u3 u2
  have kT := k6.tr u3.g
  have e : f_X1_followsThing (a : Int) c (ax_up M a 7 0) = ax_rc (f_X1_unwind (a : Int) 1 (ax_up (ax_up M a 7 0) a 6 (ax_or cm (ax_shl 1 dp)))) (fun M13 => (True, (1, ax_up (f_X1_push (a : Int) c M13) a 4 1))) := by
    unfold f_X1_followsThing
    simp only [ax_bd]
    rw [if_pos h41, bd_of_eq, hb, if_pos (by decide), if_neg (by decide), fo_t0, h7.2.2.2.2, h7.2.2.1, if_pos hbit]
  unfold ax_rc at e
  dsimp only at e
  generalize f_X1_unwind (a : Int) 1 (ax_up (ax_up M a 7 0) a 6 (ax_or cm (ax_shl 1 dp))) = W at u1 u2 u3 hT kT e
  obtain ⟨p1, p2⟩ := cl_push (x := c) u2 hs
  obtain ⟨g1, g2⟩ := go_f h hc (by rw [e]; exact ⟨u1, trivial⟩)
  refine ⟨g1, by rw [g2, e], ?_, ?_⟩
  · rw [g2, e]; exact (hT.f p2 p1).u4
  · rw [g2, e]; exact (kT.tr p2.g).tr (cl_G.up (by omega))
theorem go_op1_n (h : cl_T a o s 0 dp dg cm M) (hc : ¬ (48 ≤ c ∧ c ≤ 57)) (h41 : c ≠ 41) (hb : bd_of c = 1) (hbit : ax_and (ax_shr cm dp) 1 ≠ 0) : cl_0 a (f_X1_goesOnBy (a : Int) c M) M := by
  have h7 := h.u7 (x := 0)
  refine go_f0 h hc ?_
  unfold f_X1_followsThing
  simp only [ax_bd]
  rw [if_pos h41, bd_of_eq, hb, if_pos (by decide), if_neg (by decide), fo_t0, h7.2.2.2.2, h7.2.2.1, if_neg hbit]
end RUV
