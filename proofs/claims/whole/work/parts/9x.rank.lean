/-! ===== readsRank, side by side ===== -/
section RNK
variable {a n p d r : Nat} {Y Mc : ax_M} {cs o s : List Int} {cm dg : Int}
/-- how far the codes of a rank's joins lie behind 2000 -/
def jn_off (r : Nat) : Int := if r = 0 then 0 else if r = 1 then 3 else 5
theorem jn_of {M : ax_M} {p n : Nat} (hr : r ≤ 2) (hat : M 0 5 = (p : Int)) (hto : M 0 6 = (n : Int)) : (f_X3_takesOf (r + 1) M).1 ∧ (f_X3_takesOf (r + 1) M).2 = if p < n ∧ 0 ≤ op_of (r : Int) (M 2 p) then (op_of (r : Int) (M 2 p), ax_up M 0 5 ((p + 1 : Nat) : Int)) else (-1, M) := by
  rcases (by omega : r = 0 ∨ r = 1 ∨ r = 2) with e | e | e <;> subst e
  · exact ml_of1 hat hto
  · exact ml_of2 hat hto
  · exact ml_of3 hat hto
theorem jn_c {c : Int} (hr : r ≤ 2) (hc : 0 ≤ c ∧ c ≤ 255) (h : 0 ≤ op_of (r : Int) c) : fo_sgn ((2000 + op_of (r : Int) c) + jn_off r) = 2000 + c ∧ bd_of c = ((r + 1 : Nat) : Int) ∧ ¬ (48 ≤ c ∧ c ≤ 57) ∧ c ≠ 41 ∧ 2000 ≤ (2000 + op_of (r : Int) c) + jn_off r ∧ (2000 + op_of (r : Int) c) + jn_off r ≤ 2006 := by
  obtain ⟨m, rfl⟩ : ∃ m : Nat, c = (m : Int) := ⟨c.toNat, by omega⟩
  rcases (by omega : r = 0 ∨ r = 1 ∨ r = 2) with e | e | e <;> subst e
  · have : ∀ m, m < 256 → 0 ≤ op_of 0 (m : Nat) → fo_sgn ((2000 + op_of 0 ((m : Nat) : Int)) + jn_off 0) = 2000 + (m : Int) ∧ bd_of (m : Nat) = 1 ∧ ¬ (48 ≤ (m : Int) ∧ (m : Int) ≤ 57) ∧ (m : Int) ≠ 41 ∧ 2000 ≤ (2000 + op_of 0 ((m : Nat) : Int)) + jn_off 0 ∧ (2000 + op_of 0 ((m : Nat) : Int)) + jn_off 0 ≤ 2006 := by decide +kernel
    exact this m (by omega) h
  · have : ∀ m, m < 256 → 0 ≤ op_of 1 (m : Nat) → fo_sgn ((2000 + op_of 1 ((m : Nat) : Int)) + jn_off 1) = 2000 + (m : Int) ∧ bd_of (m : Nat) = 2 ∧ ¬ (48 ≤ (m : Int) ∧ (m : Int) ≤ 57) ∧ (m : Int) ≠ 41 ∧ 2000 ≤ (2000 + op_of 1 ((m : Nat) : Int)) + jn_off 1 ∧ (2000 + op_of 1 ((m : Nat) : Int)) + jn_off 1 ≤ 2006 := by decide +kernel
    exact this m (by omega) h
  · have : ∀ m, m < 256 → 0 ≤ op_of 2 (m : Nat) → fo_sgn ((2000 + op_of 2 ((m : Nat) : Int)) + jn_off 2) = 2000 + (m : Int) ∧ bd_of (m : Nat) = 3 ∧ ¬ (48 ≤ (m : Int) ∧ (m : Int) ≤ 57) ∧ (m : Int) ≠ 41 ∧ 2000 ≤ (2000 + op_of 2 ((m : Nat) : Int)) + jn_off 2 ∧ (2000 + op_of 2 ((m : Nat) : Int)) + jn_off 2 ≤ 2006 := by decide +kernel
    exact this m (by omega) h
/-- the loop's body, for all ranks alike -/
theorem jn_B {fT : ax_M → Prop × Int × ax_M} {fR : Int → ax_M → Prop × Int × ax_M} {M : ax_M} {kc : Int → ax_M → Prop × Int × ax_M} {kx : ax_M → Prop × Int × ax_M} (hr : r ≤ 2) : f_X3_readsRank_B24 fT fR (r : Int) 1 M kc kx = ax_rc (f_X3_takesOf (r + 1) M) (fun y => (if 0 ≤ y.1 then ax_rc (fR ((r : Int) + 1) y.2) (fun z => (if z.1 ≠ 0 then ax_rc (f_X3_codes ((2000 + y.1) + jn_off r) z.2) (fun K => kc (if r = 0 then 0 else 1) K) else (True, (0, z.2)))) else (True, (1, y.2)))) := by
  unfold f_X3_readsRank_B24
  rw [if_neg (by decide)]
  rcases (by omega : r = 0 ∨ r = 1 ∨ r = 2) with e | e | e <;> subst e
  · rw [if_neg (by decide)]; rfl
  · rw [if_pos (by decide), if_neg (by decide)]; rfl
  · rw [if_pos (by decide), if_pos (by decide)]; rfl
/-- a join read by the class -/
theorem jn_go {N : ax_M} {o' t : List Int} {dg' cm' c : Int} (hr : r ≤ 2) (hc : 0 ≤ c ∧ c ≤ 255) (h : 0 ≤ op_of (r : Int) c) (hT : cl_T a o' (t ++ s) 0 (d : Int) dg' cm' N) (hd : d ≤ 4) (hcm : 0 ≤ cm' ∧ cm' < 32) (ht : ∀ x, x ∈ t → (r : Int) + 1 ≤ bd_of x) (hu : s = [] ∨ ∃ y v, s = y :: v ∧ bd_of y < (r : Int) + 1) (hb : r = 0 → ru_bit cm' d = 0) (ho : o'.length + t.length ≤ 40) (hs : s.length < 40) :
    ∃ cm2, cl_1 a (f_X1_goesOnBy (a : Int) c N) N (o' ++ t.map (fun x => 2000 + x)) (c :: s) 1 (d : Int) 0 cm2 ∧ (0 ≤ cm2 ∧ cm2 < 32) ∧ (∀ j, j < d + 1 → (r = 0 → j < d) → ru_bit cm2 j = ru_bit cm' j) ∧ (r = 0 → ru_bit cm2 d ≠ 0) := by
  obtain ⟨j1, j2, j3, j4, j5, j6⟩ := jn_c hr hc h
  by_cases r0 : r = 0
  · subst r0
    obtain ⟨u1, u2, u3⟩ := ru_set (cm := cm') (d := d) hcm (by omega)
    exact ⟨_, go_op1 hT j3 j4 (by rw [j2]; rfl) (hb rfl) (fun x hx => by have := ht x hx; omega) (hu.imp id (fun ⟨y, v, e1, e2⟩ => ⟨y, v, e1, by omega⟩)) ho hs, u1, fun j _ hj => u3 j (hj rfl), fun _ => u2⟩
  · exact ⟨cm', go_op2 hT j3 j4 j2 (by omega) (fun x hx => by have := ht x hx; omega) (hu.imp id (fun ⟨y, v, e1, e2⟩ => ⟨y, v, e1, by omega⟩)) ho hs, hcm, fun _ _ _ => rfl, fun e => absurd e r0⟩
/-- behind an operand of this rank -/
def sm_L (a n p d r l : Nat) (cs o s : List Int) (cm : Int) (Y Mc : ax_M) (more : Int) (Y' : ax_M) : Prop := ml_F Y Y' ∧ ∃ (N : ax_M) (g t o' : List Int) (dg' cm' : Int), 1 ≤ l ∧ cl_run a (Y 2) l p Mc N ∧ Y' 0 5 = ((p + l : Nat) : Int) ∧ p + l ≤ n ∧ Y' 0 7 = (d : Int) ∧ ml_S (cs ++ g) Y' ∧ cl_T a o' (t ++ s) 0 d dg' cm' N ∧
  (∀ x, x ∈ t → (r : Int) + 1 ≤ bd_of x) ∧ o' ++ t.map (fun x => 2000 + x) = o ++ g.map fo_sgn ∧ (∀ gs h, fo_wf gs (h + 1) → fo_wf (g ++ gs) h) ∧ o'.length + (t.length + s.length) ≤ p + l ∧ g.length ≤ l ∧ (p + l < n → 48 ≤ Y 2 (p + l) → Y 2 (p + l) ≤ 57 → dg' = 0 ∨ 3 ≤ dg') ∧ (0 ≤ cm' ∧ cm' < 32) ∧ (∀ j, j < d + 1 → (r = 0 → j < d) → ru_bit cm' j = ru_bit cm j) ∧ (∀ q : Nat, r + 1 ≤ q → 1 ≤ q → q ≤ 2 → p + l < n → op_of (q : Int) (Y 2 (p + l)) < 0) ∧ ((more = 0 ∧ r = 0 ∧ ru_bit cm' d ≠ 0) ∨ (more = 1 ∧ (r = 0 → ru_bit cm' d = 0)))
theorem jn_loop {K : Nat} {fT : ax_M → Prop × Int × ax_M} {fR : Int → ax_M → Prop × Int × ax_M} (HR : sm_R a n K fR) (h6 : Y 0 6 = (n : Int)) (hr : r ≤ 2) (hn : n ≤ 40) (hd : d ≤ 4) (hp : p ≤ n) (hcs : cs.length ≤ p) (hb : ∀ i, i < n → 0 ≤ Y 2 i ∧ Y 2 i ≤ 255) (hu : s = [] ∨ ∃ y v, s = y :: v ∧ bd_of y < (r : Int) + 1) (hK : (n - p) + 4 * (4 - d) + (4 - r) < K + 1) :
    ∀ (f l : Nat) (more : Int) (Y' : ax_M), n - (p + l) < f → sm_L a n p d r l cs o s cm Y Mc more Y' →
    sm_no a n p cs Y Mc (f_X3_readsRank_L24 fT fR (r : Int) f more Y' (fun M30 => (True, (1, M30)))) ∨ sm_ok a n p d r cs o s cm Y Mc (f_X3_readsRank_L24 fT fR (r : Int) f more Y' (fun M30 => (True, (1, M30)))) := by
  intro f
  induction f with
  | zero => intro l more Y' hf; omega
  | succ f ih =>
    intro l more Y' hf ⟨hF, N, g, t, o', dg', cm', b1, b2, b3, b4, b5, b6, b7, b8, b9, b10, b11, b12, b13, b14, b15, b16, b17⟩
    have hfn : ∀ k, p + l < n → n - (p + (l + (1 + k))) < f := by
      clear ih b2 b3 b5 b6 b7 b8 b9 b10 b11 b12 b13 b14 b15 b16 b17 hF HR h6 hb hu hK
      intro k hk
      omega
    rw [f_X3_readsRank_L24]
    rcases b17 with ⟨m0, r0, hbit⟩ | ⟨m1, hbit⟩
    · right
      subst m0
      subst r0
      rw [show f_X3_readsRank_B24 fT fR ((0 : Nat) : Int) 0 Y' (fun u2 M9 => f_X3_readsRank_L24 fT fR ((0 : Nat) : Int) f u2 M9 (fun M30 => (True, (1, M30)))) (fun M30 => (True, (1, M30))) = (True, (1, Y')) from rfl]
      exact ⟨trivial, rfl, hF, l, N, g, t, o', dg', cm', b1, b2, b3, b4, b5, b6, b7, b8, b9, b10, b11, b12, b13, b14, b15, fun q q1 q2 q3 q4 => b16 q (by omega) q2 q3 q4, fun _ _ _ => hbit⟩
    · subst m1
      rw [jn_B hr]
      have eT : Y' 2 = Y 2 := hF.1 2 (by decide) (by decide)
      have e6 : Y' 0 6 = (n : Int) := by rw [hF.2 6 (by decide) (by decide) (by decide), h6]
      obtain ⟨k1, k2⟩ := jn_of (r := r) hr b3 e6
      rw [eT] at k2
      generalize f_X3_takesOf (r + 1) Y' = W at k1 k2 ⊢
      obtain ⟨W1, W2⟩ := W
      dsimp only at k1 k2
      subst k2
      unfold ax_rc
      by_cases c1 : p + l < n ∧ 0 ≤ op_of (r : Int) (Y 2 (p + l))
      · rw [if_pos c1]
        dsimp only
        rw [if_pos c1.2]
        have hcb := hb (p + l) c1.1
        obtain ⟨cm2, g1, g2, g3, g4⟩ := jn_go (s := s) hr hcb c1.2 b7 hd b14 b8 hu hbit (by omega) (by omega)
        obtain ⟨j1, j2, j3, j4, j5, j6⟩ := jn_c hr hcb c1.2
        obtain ⟨N1, hr1, hT1⟩ := g1.run (T := Y 2) (p := p + l)
        have e2 : ax_up Y' 0 5 ((p + l + 1 : Nat) : Int) 2 = Y 2 := by rw [ax_up_ne (by decide), eT]
        have hI1 : sm_I a n (p + l + 1) d (cs ++ g) (o' ++ t.map (fun x => 2000 + x)) (Y 2 (p + l) :: s) 0 cm2 (ax_up Y' 0 5 ((p + l + 1 : Nat) : Int)) N1 := ⟨by rw [fo_up_at, fo_u_s], by rw [fo_up_at, fo_u_o (by decide), e6], by rw [fo_up_at, fo_u_o (by decide), b5], b6.up (by decide), hT1, by omega, hn, hd, g2, by rw [List.length_cons, List.length_append, List.length_map]; omega, by rw [List.length_append]; omega, fun i hi => by rw [e2]; exact hb i hi⟩
        have hF1 : ml_F Y (ax_up Y' 0 5 ((p + l + 1 : Nat) : Int)) := hF.tr (ml_F.up (by omega))
        have hsub := HR (r + 1) (p + l + 1) d (cs ++ g) _ _ 0 cm2 _ N1 (by omega) hI1 (Or.inr ⟨_, s, rfl, by rw [j2]; omega⟩) (fun e => by omega) (by omega)
        rw [show ((r + 1 : Nat) : Int) = (r : Int) + 1 by omega] at hsub
        generalize ax_up Y' 0 5 ((p + l + 1 : Nat) : Int) = Y1 at e2 hF1 hsub ⊢
        generalize fR ((r : Int) + 1) Y1 = R at hsub ⊢
        rcases hsub with ⟨a1, a2, a3, l2, N2, f1, f2, f3, f4, f5, f6, f7⟩ | ⟨a1, a2, a3, l2, N2, g', t', o2, dg2, cm3, d1, d2, d3, d4, d5, d6, d7, d8, d9, d10, d11, d12, d13, d14, d15, d16, d17⟩
        · left
          rw [if_neg (show ¬ R.2.1 ≠ 0 by omega)]
          rw [e2] at f1 f4
          rw [show p + l + 1 + l2 = p + (l + (1 + l2)) by omega] at f2 f3 f4 f5
          rw [List.length_append] at f7
          refine ⟨⟨k1, a1, trivial⟩, rfl, hF1.tr a3, l + (1 + l2), N2, b2.tr (hr1.tr f1), f2, f3, f4, f5, ?_, ?_⟩
          · show 0 ≤ R.2.2 0 11
            omega
          · show R.2.2 0 11 ≤ _
            omega
        · rw [if_pos (show R.2.1 ≠ 0 by omega)]
          rw [e2] at d2 d13 d16 d17
          rw [show p + l + 1 + l2 = p + (l + (1 + l2)) by omega] at d3 d4 d11 d13 d16 d17
          rw [List.length_cons] at d11
          obtain ⟨q1, q2, q3, q4⟩ := ml_codes (x := (2000 + op_of (r : Int) (Y 2 (p + l))) + jn_off r) d6 (by rw [List.length_append, List.length_append]; omega)
          generalize hcc : (2000 + op_of (r : Int) (Y 2 (p + l))) + jn_off r = cc at j1 j5 j6 q1 q2 q3 q4 ⊢
          generalize f_X3_codes cc R.2.2 = V at q1 q2 q3 q4 ⊢
          have hA : ml_S (cs ++ (g ++ (g' ++ [cc]))) V.2 := by rw [← List.append_assoc, ← List.append_assoc]; exact q2
          have hB : cl_T a o2 (t' ++ [Y 2 (p + l)] ++ s) 0 d dg2 cm3 N2 := by rw [List.append_assoc]; exact d7
          have hC : ∀ x, x ∈ t' ++ [Y 2 (p + l)] → (r : Int) + 1 ≤ bd_of x := by
            intro x hx
            rcases List.mem_append.mp hx with h | h
            · have := d8 x h; omega
            · have : x = Y 2 (p + l) := by simpa using h
              subst this
              rw [j2]; omega
          have hD : o2 ++ (t' ++ [Y 2 (p + l)]).map (fun x => 2000 + x) = o ++ (g ++ (g' ++ [cc])).map fo_sgn := by
            rw [List.map_append, List.map_append, List.map_append, ← List.append_assoc, d9, b9, List.map_cons, List.map_nil, List.map_cons, List.map_nil, j1]
            simp only [List.append_assoc]
          have hE : ∀ gs h, fo_wf gs (h + 1) → fo_wf ((g ++ (g' ++ [cc])) ++ gs) h := by
            intro gs h hw
            rw [List.append_assoc, List.append_assoc]
            refine b10 _ h (d10 _ (h + 1) ?_)
            show (if cc = 3000 then 1 ≤ h + 1 + 1 ∧ fo_wf gs (h + 1 + 1) else if 2000 ≤ cc then cc ≤ 2006 ∧ 2 ≤ h + 1 + 1 ∧ fo_wf gs (h + 1 + 1 - 1) else (cc < 1000 ∨ cc ≤ 1005) ∧ fo_wf gs (h + 1 + 1 + 1))
            rw [if_neg (by omega), if_pos (by omega)]
            exact ⟨j6, by omega, hw⟩
          have hF2 : o2.length + ((t' ++ [Y 2 (p + l)]).length + s.length) ≤ p + (l + (1 + l2)) := by rw [List.length_append, List.length_singleton]; omega
          have hG : (g ++ (g' ++ [cc])).length ≤ l + (1 + l2) := by rw [List.length_append, List.length_append, List.length_singleton]; omega
          have hH : ∀ j, j < d + 1 → (r = 0 → j < d) → ru_bit cm3 j = ru_bit cm j := fun j j1' j2' => by rw [d15 j (by omega) (fun e => by omega), g3 j (by omega) j2', b15 j (by omega) j2']
          have hI : ((if r = 0 then (0 : Int) else 1) = 0 ∧ r = 0 ∧ ru_bit cm3 d ≠ 0) ∨ ((if r = 0 then (0 : Int) else 1) = 1 ∧ (r = 0 → ru_bit cm3 d = 0)) := by
            by_cases r0 : r = 0
            · rw [if_pos r0]
              exact Or.inl ⟨rfl, r0, by rw [d15 d (by omega) (fun e => by omega)]; exact g4 r0⟩
            · rw [if_neg r0]
              exact Or.inr ⟨rfl, fun e => absurd e r0⟩
          have hJ : ∀ q : Nat, r + 1 ≤ q → 1 ≤ q → q ≤ 2 → p + (l + (1 + l2)) < n → op_of (q : Int) (Y 2 (p + (l + (1 + l2)))) < 0 := d16
          have e5 : V.2 0 5 = ((p + (l + (1 + l2)) : Nat) : Int) := by rw [q4 5 (by decide), d3]
          have e7 : V.2 0 7 = (d : Int) := by rw [q4 7 (by decide), d5]
          have hL : sm_L a n p d r (l + (1 + l2)) cs o s cm Y Mc (if r = 0 then 0 else 1) V.2 := ⟨(hF1.tr a3).tr q3, N2, g ++ (g' ++ [cc]), t' ++ [Y 2 (p + l)], o2, dg2, cm3, by omega, b2.tr (hr1.tr d2), e5, d4, e7, hA, hB, hC, hD, hE, hF2, hG, d13, d14, hH, hJ, hI⟩
          have hnext := ih (l + (1 + l2)) (if r = 0 then 0 else 1) V.2 (hfn l2 c1.1) hL
          rcases hnext with z | z
          · obtain ⟨z1, z2⟩ := z
            exact Or.inl ⟨⟨k1, a1, q1, z1⟩, z2⟩
          · obtain ⟨z1, z2⟩ := z
            exact Or.inr ⟨⟨k1, a1, q1, z1⟩, z2⟩
      · right
        rw [if_neg c1]
        dsimp only
        rw [if_neg (show ¬ (0 : Int) ≤ -1 by decide)]
        refine ⟨⟨k1, trivial⟩, rfl, hF, l, N, g, t, o', dg', cm', b1, b2, b3, b4, b5, b6, b7, b8, b9, b10, b11, b12, b13, b14, b15, fun q q1 q2 q3 q4 => ?_, fun r0 q4 q5 => ?_⟩
        · by_cases e : q = r
          · subst e
            have := fun z => c1 ⟨q4, z⟩
            omega
          · exact b16 q (by omega) q2 q3 q4
        · subst r0
          exact absurd ⟨q4, q5⟩ c1
theorem sm_rank {K : Nat} {fT : ax_M → Prop × Int × ax_M} {fR : Int → ax_M → Prop × Int × ax_M} (HT : sm_T a n K fT) (HR : sm_R a n K fR) : sm_R a n (K + 1) (f_X3_readsRank fT fR) := by
  intro r p d cs o s dg cm Y Mc hr3 h hu h0 hK
  have h' := h
  obtain ⟨h5, h6, h7, hS, hT, hp, hn, hd, hc, hz, hl, hb⟩ := h
  unfold f_X3_readsRank
  by_cases e : r = 3
  · subst e
    rw [if_neg (by decide)]
    have hsub := HT p d cs o s dg cm Y Mc h' (by omega)
    unfold ax_rc
    rcases hsub with ⟨a1, a2⟩ | ⟨a1, a2⟩
    · exact Or.inl ⟨⟨a1, trivial⟩, a2⟩
    · exact Or.inr ⟨⟨a1, trivial⟩, a2⟩
  · rw [if_pos (by omega)]
    have hsub := HR (r + 1) p d cs o s dg cm Y Mc (by omega) h' (hu.imp id (fun ⟨y, v, e1, e2⟩ => ⟨y, v, e1, by omega⟩)) (fun e => by omega) (by omega)
    rw [show ((r + 1 : Nat) : Int) = (r : Int) + 1 by omega] at hsub
    unfold ax_rc
    generalize fR ((r : Int) + 1) Y = R at hsub ⊢
    dsimp only
    rcases hsub with ⟨a1, a2, a3, l, N, g1, g2, g3, g4, g5, g6, g7⟩ | ⟨a1, a2, a3, l, N, g, t, o', dg', cm', b1, b2, b3, b4, b5, b6, b7, b8, b9, b10, b11, b12, b13, b14, b15, b16, b17⟩
    · left
      rw [if_neg (show ¬ R.2.1 ≠ 0 by omega)]
      exact ⟨⟨a1, trivial⟩, rfl, a3, l, N, g1, g2, g3, g4, g5, g6, g7⟩
    · rw [if_pos (show R.2.1 ≠ 0 by omega)]
      have hnext := jn_loop (fT := fT) (Mc := Mc) (cm := cm) (o := o) HR h6 (show r ≤ 2 by omega) hn hd hp hl hb hu hK 100 l 1 R.2.2 (by omega) ⟨a3, N, g, t, o', dg', cm', b1, b2, b3, b4, b5, b6, b7, fun x hx => by have := b8 x hx; omega, b9, b10, b11, b12, b13, b14, fun j j1 j2 => b15 j j1 (fun e => by omega), fun q q1 q2 q3 => b16 q q1 q2 q3, Or.inr ⟨rfl, fun e => by rw [b15 d (by omega) (fun e => by omega)]; exact h0 e⟩⟩
      rcases hnext with ⟨z1, z2⟩ | ⟨z1, z2⟩
      · exact Or.inl ⟨⟨a1, z1⟩, z2⟩
      · exact Or.inr ⟨⟨a1, z1⟩, z2⟩
theorem sm_rec : ∀ k : Nat, sm_T a n k (f_X3_rec k).1 ∧ sm_R a n k (f_X3_rec k).2 := by
  intro k
  induction k with
  | zero => exact ⟨fun _ _ _ _ _ _ _ _ _ _ h => absurd h (Nat.not_lt_zero _), fun _ _ _ _ _ _ _ _ _ _ _ _ _ _ h => absurd h (Nat.not_lt_zero _)⟩
  | succ k ih => exact ⟨sm_thing ih.1 ih.2, sm_rank ih.1 ih.2⟩
end RNK
