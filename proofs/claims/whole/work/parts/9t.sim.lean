/-! ===== both readings side by side: bits of comparisons, what is to be had ===== -/
def ru_bit (cm : Int) (j : Nat) : Int := ax_and (ax_shr cm (j : Int)) 1
theorem ru_open {cm : Int} {d : Nat} (hc : 0 ≤ cm ∧ cm < 32) (hd : d < 4) : (0 ≤ ax_and cm (ax_xor (ax_shl 1 ((d : Int) + 1)) (-1)) ∧ ax_and cm (ax_xor (ax_shl 1 ((d : Int) + 1)) (-1)) < 32) ∧ ru_bit (ax_and cm (ax_xor (ax_shl 1 ((d : Int) + 1)) (-1))) (d + 1) = 0 ∧ ∀ j, j < d + 1 → ru_bit (ax_and cm (ax_xor (ax_shl 1 ((d : Int) + 1)) (-1))) j = ru_bit cm j := by
  obtain ⟨m, rfl⟩ : ∃ m : Nat, cm = (m : Int) := ⟨cm.toNat, by omega⟩
  have : ∀ m, m < 32 → ∀ d, d < 4 → (0 ≤ ax_and (m : Nat) (ax_xor (ax_shl 1 ((d : Nat) + 1)) (-1)) ∧ ax_and (m : Nat) (ax_xor (ax_shl 1 ((d : Nat) + 1)) (-1)) < 32) ∧ ru_bit (ax_and (m : Nat) (ax_xor (ax_shl 1 ((d : Nat) + 1)) (-1))) (d + 1) = 0 ∧ ∀ j, j < d + 1 → ru_bit (ax_and (m : Nat) (ax_xor (ax_shl 1 ((d : Nat) + 1)) (-1))) j = ru_bit (m : Nat) j := by decide +kernel
  exact this m (by omega) d hd
theorem ru_set {cm : Int} {d : Nat} (hc : 0 ≤ cm ∧ cm < 32) (hd : d < 5) : (0 ≤ ax_or cm (ax_shl 1 (d : Int)) ∧ ax_or cm (ax_shl 1 (d : Int)) < 32) ∧ ru_bit (ax_or cm (ax_shl 1 (d : Int))) d ≠ 0 ∧ ∀ j, j < d → ru_bit (ax_or cm (ax_shl 1 (d : Int))) j = ru_bit cm j := by
  obtain ⟨m, rfl⟩ : ∃ m : Nat, cm = (m : Int) := ⟨cm.toNat, by omega⟩
  have : ∀ m, m < 32 → ∀ d, d < 5 → (0 ≤ ax_or (m : Nat) (ax_shl 1 (d : Nat)) ∧ ax_or (m : Nat) (ax_shl 1 (d : Nat)) < 32) ∧ ru_bit (ax_or (m : Nat) (ax_shl 1 (d : Nat))) d ≠ 0 ∧ ∀ j, j < d → ru_bit (ax_or (m : Nat) (ax_shl 1 (d : Nat))) j = ru_bit (m : Nat) j := by decide +kernel
  exact this m (by omega) d hd
section SIM
variable {a n p d : Nat} {Y Mc : ax_M} {cs o s : List Int} {cm dg : Int}
/-- before a thing: the model's memory, the class's -/
def sm_I (a n p d : Nat) (cs o s : List Int) (dg cm : Int) (Y Mc : ax_M) : Prop := Y 0 5 = (p : Int) ∧ Y 0 6 = (n : Int) ∧ Y 0 7 = (d : Int) ∧ ml_S cs Y ∧ cl_T a o s 1 d dg cm Mc ∧ p ≤ n ∧ n ≤ 40 ∧ d ≤ 4 ∧ (0 ≤ cm ∧ cm < 32) ∧ o.length + s.length ≤ p ∧ cs.length ≤ p ∧ ∀ i, i < n → 0 ≤ Y 2 i ∧ Y 2 i ≤ 255
/-- the model says no: the class stops at the same sign, or wants more at the end -/
def sm_no (a n p : Nat) (cs : List Int) (Y Mc : ax_M) (R : Prop × Int × ax_M) : Prop := R.1 ∧ R.2.1 = 0 ∧ ml_F Y R.2.2 ∧ ∃ (l : Nat) (N : ax_M), cl_run a (Y 2) l p Mc N ∧ R.2.2 0 5 = ((p + l : Nat) : Int) ∧ p + l ≤ n ∧ (p + l < n → cl_0 a (f_X1_goesOnBy (a : Int) (Y 2 (p + l)) N) N) ∧ (p + l = n → N a 4 ≠ 0 ∨ 0 < N a 5) ∧ 0 ≤ R.2.2 0 11 ∧ R.2.2 0 11 ≤ (cs.length : Int) + (l : Int)
/-- the model says yes (rank r, 3 a thing): the class has gone over the same signs; t of its stack is still to be laid down, they bind r + 1 at least; what comes is no join of this rank or more, or a comparison more than there may be -/
def sm_ok (a n p d r : Nat) (cs o s : List Int) (cm : Int) (Y Mc : ax_M) (R : Prop × Int × ax_M) : Prop := R.1 ∧ R.2.1 = 1 ∧ ml_F Y R.2.2 ∧ ∃ (l : Nat) (N : ax_M) (g t o' : List Int) (dg' cm' : Int), 1 ≤ l ∧ cl_run a (Y 2) l p Mc N ∧ R.2.2 0 5 = ((p + l : Nat) : Int) ∧ p + l ≤ n ∧ R.2.2 0 7 = (d : Int) ∧ ml_S (cs ++ g) R.2.2 ∧ cl_T a o' (t ++ s) 0 d dg' cm' N ∧
  (∀ x, x ∈ t → (r : Int) + 1 ≤ bd_of x) ∧ o' ++ t.map (fun x => 2000 + x) = o ++ g.map fo_sgn ∧ (∀ gs h, fo_wf gs (h + 1) → fo_wf (g ++ gs) h) ∧ o'.length + (t.length + s.length) ≤ p + l ∧ g.length ≤ l ∧ (p + l < n → 48 ≤ Y 2 (p + l) → Y 2 (p + l) ≤ 57 → dg' = 0 ∨ 3 ≤ dg') ∧ (0 ≤ cm' ∧ cm' < 32) ∧ (∀ j, j < d + 1 → (r = 0 → j < d) → ru_bit cm' j = ru_bit cm j) ∧ (∀ q : Nat, r ≤ q → 1 ≤ q → q ≤ 2 → p + l < n → op_of (q : Int) (Y 2 (p + l)) < 0) ∧ (r = 0 → p + l < n → 0 ≤ op_of 0 (Y 2 (p + l)) → ru_bit cm' d ≠ 0)
/-- a number -/
theorem sm_num (h : sm_I a n p d cs o s dg cm Y Mc) (h0 : p < n ∧ 48 ≤ Y 2 p ∧ Y 2 p ≤ 57) : sm_ok a n p d 3 cs o s cm Y Mc (ax_rc (f_X3_number 3 Y) (fun y24 => ax_rc (f_X3_codes y24.1 y24.2) (fun M25 => (True, (1, M25))))) := by
  obtain ⟨h5, h6, h7, hS, hT, hp, hn, hd, hc, hz, hl, hb⟩ := h
  obtain ⟨r1, k, v, N, k1, k3, k4, r2, v0, v9, hr, hT', hdg⟩ := nm_3 h5 h6 (by omega) h0 hT (by omega)
  have hS1 : ml_S cs (ax_up Y 0 5 ((p + k : Nat) : Int)) := hS.up (by decide)
  obtain ⟨c1, c2, c3, c4⟩ := ml_codes (x := v) hS1 (by omega)
  unfold ax_rc
  rw [r2]
  dsimp only
  refine ⟨⟨r1, c1, trivial⟩, rfl, (ml_F.up (by omega)).tr c3, k, N, [v], [], o ++ [v], k, cm, k1, hr, by rw [c4 5 (by decide), fo_up_at, fo_u_s], k4, by rw [c4 7 (by decide), fo_up_at, fo_u_o (by decide), h7], c2, hT', fun x hx => absurd hx (by simp), ?_, fun gs h hw => ?_, ?_, ?_, fun g1 g2 g3 => Or.inr (by have := hdg g1 g2 g3; omega), hc, fun _ _ _ => rfl, fun q h1 _ h2 _ => by omega, fun h => absurd h (by decide)⟩
  · have e : fo_sgn v = v := by
      unfold fo_sgn
      rw [if_neg (by omega), if_neg (by omega), if_neg (by omega), if_neg (by omega), if_neg (by omega), if_neg (by omega), if_neg (by omega), if_neg (by omega)]
    rw [List.map_nil, List.append_nil, List.map_cons, List.map_nil, e]
  · rw [List.singleton_append]
    show (if v = 3000 then 1 ≤ h ∧ fo_wf gs h else if 2000 ≤ v then v ≤ 2006 ∧ 2 ≤ h ∧ fo_wf gs (h - 1) else (v < 1000 ∨ v ≤ 1005) ∧ fo_wf gs (h + 1))
    rw [if_neg (by omega), if_neg (by omega)]
    exact ⟨Or.inl (by omega), hw⟩
  · simp; omega
  · simp; omega
/-- a thing by its letter -/
theorem sm_letter (h : sm_I a n p d cs o s dg cm Y Mc) (h0 : p < n ∧ 0 ≤ it_of (Y 2 p)) : sm_ok a n p d 3 cs o s cm Y Mc (ax_rc (f_X3_codes (1000 + it_of (Y 2 p)) (ax_up Y 0 5 ((p + 1 : Nat) : Int))) (fun M23 => (True, (1, M23)))) := by
  obtain ⟨h5, h6, h7, hS, hT, hp, hn, hd, hc, hz, hl, hb⟩ := h
  have hi5 : it_of (Y 2 p) ≤ 5 := by unfold it_of; repeat' split <;> first | omega | decide
  obtain ⟨N, hr, hT'⟩ := (go_thing hT (by omega) h0.2).run (T := Y 2) (p := p)
  have hS1 : ml_S cs (ax_up Y 0 5 ((p + 1 : Nat) : Int)) := hS.up (by decide)
  obtain ⟨c1, c2, c3, c4⟩ := ml_codes (x := 1000 + it_of (Y 2 p)) hS1 (by omega)
  generalize hv : it_of (Y 2 p) = i at *
  unfold ax_rc
  dsimp only
  refine ⟨⟨c1, trivial⟩, rfl, (ml_F.up (by omega)).tr c3, 1, N, [1000 + i], [], o ++ [1000 + i], 0, cm, by decide, hr, by rw [c4 5 (by decide), fo_up_at, fo_u_s], by omega, by rw [c4 7 (by decide), fo_up_at, fo_u_o (by decide), h7], c2, hT', fun x hx => absurd hx (by simp), ?_, fun gs h hw => ?_, ?_, ?_, fun _ _ _ => Or.inl rfl, hc, fun _ _ _ => rfl, fun q h1 _ h2 _ => by omega, fun h => absurd h (by decide)⟩
  · have e : fo_sgn (1000 + i) = 1000 + i := by
      unfold fo_sgn
      rw [if_neg (by omega), if_neg (by omega), if_neg (by omega), if_neg (by omega), if_neg (by omega), if_neg (by omega), if_neg (by omega), if_neg (by omega)]
    rw [List.map_nil, List.append_nil, List.map_cons, List.map_nil, e]
  · rw [List.singleton_append]
    show (if 1000 + i = 3000 then 1 ≤ h ∧ fo_wf gs h else if 2000 ≤ 1000 + i then 1000 + i ≤ 2006 ∧ 2 ≤ h ∧ fo_wf gs (h - 1) else (1000 + i < 1000 ∨ 1000 + i ≤ 1005) ∧ fo_wf gs (h + 1))
    rw [if_neg (by omega), if_neg (by omega)]
    exact ⟨Or.inr (by omega), hw⟩
  · simp; omega
  · simp
/-- what is to be had of readsThing, and of readsRank -/
def sm_T (a n K : Nat) (fT : ax_M → Prop × Int × ax_M) : Prop := ∀ (p d : Nat) (cs o s : List Int) (dg cm : Int) (Y Mc : ax_M), sm_I a n p d cs o s dg cm Y Mc → (n - p) + 4 * (4 - d) < K → sm_no a n p cs Y Mc (fT Y) ∨ sm_ok a n p d 3 cs o s cm Y Mc (fT Y)
def sm_R (a n K : Nat) (fR : Int → ax_M → Prop × Int × ax_M) : Prop := ∀ (r p d : Nat) (cs o s : List Int) (dg cm : Int) (Y Mc : ax_M), r ≤ 3 → sm_I a n p d cs o s dg cm Y Mc → (s = [] ∨ ∃ y v, s = y :: v ∧ bd_of y < (r : Int) + 1) → (r = 0 → ru_bit cm d = 0) → (n - p) + 4 * (4 - d) + (4 - r) < K → sm_no a n p cs Y Mc (fR (r : Int) Y) ∨ sm_ok a n p d r cs o s cm Y Mc (fR (r : Int) Y)
/-- one sign, then what comes of the rest: no -/
theorem sm_no_1 {R : Prop × Int × ax_M} {Y1 N1 : ax_M} (hr : cl_run a (Y 2) 1 p Mc N1) (hY : ml_F Y Y1) (e2 : Y1 2 = Y 2) (h : sm_no a n (p + 1) cs Y1 N1 R) : sm_no a n p cs Y Mc R := by
  obtain ⟨h1, h2, h3, l, N, g1, g2, g3, g4, g5, g6, g7⟩ := h
  rw [e2] at g1 g4
  rw [show p + 1 + l = p + (1 + l) by omega] at g2 g3 g4 g5
  exact ⟨h1, h2, hY.tr h3, 1 + l, N, hr.tr g1, g2, g3, g4, g5, g6, by omega⟩
/-- the class cannot go on here, the model says no -/
theorem sm_no_0 {R : Prop × Int × ax_M} (h1 : R.1) (h2 : R.2.1 = 0) (h3 : ml_F Y R.2.2) (h4 : R.2.2 0 5 = (p : Int)) (hp : p ≤ n) (h5 : p < n → cl_0 a (f_X1_goesOnBy (a : Int) (Y 2 p) Mc) Mc) (h6 : p = n → Mc a 4 ≠ 0 ∨ 0 < Mc a 5) (h7 : R.2.2 0 11 = (cs.length : Int)) : sm_no a n p cs Y Mc R :=
  ⟨h1, h2, h3, 0, Mc, rfl, h4, hp, h5, h6, by omega, by omega⟩
/-- a minus ahead of a thing -/
theorem sm_minus {K : Nat} {fT : ax_M → Prop × Int × ax_M} (HT : sm_T a n K fT) (h : sm_I a n p d cs o s dg cm Y Mc) (hK : (n - p) + 4 * (4 - d) < K + 1) (h0 : p < n ∧ Y 2 p = 45) :
    sm_no a n p cs Y Mc (ax_rc (fT (ax_up Y 0 5 ((p + 1 : Nat) : Int))) (fun y26 => ax_rc (f_X3_codes 3000 y26.2) (fun M27 => (True, (y26.1, M27))))) ∨ sm_ok a n p d 3 cs o s cm Y Mc (ax_rc (fT (ax_up Y 0 5 ((p + 1 : Nat) : Int))) (fun y26 => ax_rc (f_X3_codes 3000 y26.2) (fun M27 => (True, (y26.1, M27))))) := by
  obtain ⟨h5, h6, h7, hS, hT, hp, hn, hd, hc, hz, hl, hb⟩ := h
  have hg := go_neg hT (by omega)
  rw [← h0.2] at hg
  obtain ⟨N1, hr, hT1⟩ := hg.run (T := Y 2) (p := p)
  have hI1 : sm_I a n (p + 1) d cs o (256 :: s) 0 cm (ax_up Y 0 5 ((p + 1 : Nat) : Int)) N1 := ⟨by rw [fo_up_at, fo_u_s], by rw [fo_up_at, fo_u_o (by decide), h6], by rw [fo_up_at, fo_u_o (by decide), h7], hS.up (by decide), hT1, by omega, hn, hd, hc, by rw [List.length_cons]; omega, by omega, fun i hi => by rw [ax_up_ne (by decide)]; exact hb i hi⟩
  have e2 : ax_up Y 0 5 ((p + 1 : Nat) : Int) 2 = Y 2 := ax_up_ne (by decide)
  have hF : ml_F Y (ax_up Y 0 5 ((p + 1 : Nat) : Int)) := ml_F.up (by omega)
  have hsub := HT (p + 1) d cs o (256 :: s) 0 cm _ N1 hI1 (by omega)
  generalize ax_up Y 0 5 ((p + 1 : Nat) : Int) = Y1 at e2 hF hsub ⊢
  unfold ax_rc
  dsimp only
  generalize fT Y1 = R at hsub ⊢
  rcases hsub with ⟨a1, a2, a3, l, N, g1, g2, g3, g4, g5, g6, g7⟩ | ⟨a1, a2, a3, l, N, g, t, o', dg', cm', b1, b2, b3, b4, b5, b6, b7, b8, b9, b10, b11, b12, b13, b14, b15, b16, b17⟩
  · left
    rw [e2] at g1 g4
    rw [show p + 1 + l = p + (1 + l) by omega] at g2 g3 g4 g5
    have hc1 : (f_X3_codes 3000 R.2.2).1 ∧ ml_F R.2.2 (f_X3_codes 3000 R.2.2).2 ∧ (∀ f, f ≠ 11 → (f_X3_codes 3000 R.2.2).2 0 f = R.2.2 0 f) ∧ (f_X3_codes 3000 R.2.2).2 0 11 = R.2.2 0 11 + 1 := by
      unfold f_X3_codes ax_rq
      simp only [ax_bd]
      have e11 : ax_up R.2.2 4 (R.2.2 0 11).toNat 3000 0 11 = R.2.2 0 11 := by rw [ax_up_ne (by decide)]
      rw [e11]
      exact ⟨⟨by omega, by omega, trivial⟩, ⟨fun t h1 h2 => by rw [ax_up_ne h1, ax_up_ne h2], fun f _ _ f11 => by rw [fo_up_at, fo_u_o f11, ax_up_ne (by decide)]⟩, fun f hf => by rw [fo_up_at, fo_u_o hf, ax_up_ne (by decide)], by rw [fo_up_at, fo_u_s]⟩
    obtain ⟨c1, c2, c3, c4⟩ := hc1
    exact ⟨⟨a1, c1, trivial⟩, a2, (hF.tr a3).tr c2, 1 + l, N, hr.tr g1, by dsimp only; rw [c3 5 (by decide), g2], g3, g4, g5, by dsimp only; omega, by dsimp only; omega⟩
  · right
    rw [e2] at b2 b13 b16 b17
    rw [show p + 1 + l = p + (1 + l) by omega] at b3 b4 b11 b13 b16 b17
    rw [List.length_cons] at b11
    obtain ⟨c1, c2, c3, c4⟩ := ml_codes (x := 3000) b6 (by rw [List.length_append]; omega)
    refine ⟨⟨a1, c1, trivial⟩, a2, (hF.tr a3).tr c3, 1 + l, N, g ++ [3000], t ++ [256], o', dg', cm', by omega, hr.tr b2, by dsimp only; rw [c4 5 (by decide), b3], b4, by dsimp only; rw [c4 7 (by decide), b5], by rw [← List.append_assoc]; exact c2, by rw [List.append_assoc]; exact b7, fun x hx => ?_, ?_, fun gs hh hw => ?_, ?_, ?_, b13, b14, b15, b16, b17⟩
    · rcases List.mem_append.mp hx with h | h
      · exact b8 x h
      · have : x = 256 := by simpa using h
        subst this
        decide
    · rw [List.map_append, List.map_append, ← List.append_assoc, b9, List.append_assoc]
      rfl
    · rw [List.append_assoc]
      refine b10 _ hh ?_
      show (if (3000 : Int) = 3000 then 1 ≤ hh + 1 ∧ fo_wf gs (hh + 1) else _)
      rw [if_pos rfl]
      exact ⟨by omega, hw⟩
    · rw [List.length_append]; simp; omega
    · rw [List.length_append]; simp; omega
end SIM
