/-! ===== both readings side by side: bits of comparisons, what is to be had ===== -/
def ru_bit (cm : Int) (j : Nat) : Int := ax_and (ax_shr cm (j : Int)) 1
theorem ru_open {cm : Int} {d : Nat} (hc : 0 ≤ cm ∧ cm < 32) (hd : d < 4) : (0 ≤ ax_and cm (ax_xor (ax_shl 1 ((d : Int) + 1)) (-1)) ∧ ax_and cm (ax_xor (ax_shl 1 ((d : Int) + 1)) (-1)) < 32) ∧ ru_bit (ax_and cm (ax_xor (ax_shl 1 ((d : Int) + 1)) (-1))) (d + 1) = 0 ∧ ∀ j, j < d + 1 → ru_bit (ax_and cm (ax_xor (ax_shl 1 ((d : Int) + 1)) (-1))) j = ru_bit cm j := by
  obtain ⟨m, rfl⟩ : ∃ m : Nat, cm = (m : Int) := ⟨cm.toNat, by omega⟩
  have : ∀ m, m < 32 → ∀ d, d < 4 → (0 ≤ ax_and (m : Nat) (ax_xor (ax_shl 1 ((d : Nat) + 1)) (-1)) ∧ ax_and (m : Nat) (ax_xor (ax_shl 1 ((d : Nat) + 1)) (-1)) < 32) ∧ ru_bit (ax_and (m : Nat) (ax_xor (ax_shl 1 ((d : Nat) + 1)) (-1))) (d + 1) = 0 ∧ ∀ j, j < d + 1 → ru_bit (ax_and (m : Nat) (ax_xor (ax_shl 1 ((d : Nat) + 1)) (-1))) j = ru_bit (m : Nat) j := by decide +kernel
  exact this m (by omega) d hd
theorem ru_set {cm : Int} {d : Nat} (hc : 0 ≤ cm ∧ cm < 32) (hd : d < 5) : (0 ≤ ax_or cm (ax_shl 1 (d : Int)) ∧ ax_or cm (ax_shl 1 (d : Int)) < 32) ∧ ru_bit (ax_or cm (ax_shl 1 (d : Int))) d ≠ 0 ∧ ∀ j, j < d → ru_bit (ax_or cm (ax_shl 1 (d : Int))) j = ru_bit cm j := by
  obtain ⟨m, rfl⟩ : ∃ m : Nat, cm = (m : Int) := ⟨cm.toNat, by omega⟩
  have : ∀ m, m < 32 → ∀ d, d < 5 → (0 ≤ ax_or (m : Nat) (ax_shl 1 (d : Nat)) ∧ ax_or (m : Nat) (ax_shl 1 (d : Nat)) < 32) ∧ ru_bit (ax_or (m : Nat) (ax_shl 1 (d : Nat))) d ≠ 0 ∧ ∀ j, j < d → ru_bit (ax_or (m : Nat) (ax_shl 1 (d : Nat))) j = ru_bit (m : Nat) j := by decide +kernel
  exact this m (by omega) d hd
section SIM
variable {a n p d : Nat} {Y Mc : ax_M} {cs o s : List Int} {cm dg : Int}
/-- before a thing: the model's memory, the class's -/
def sm_I (a n p d : Nat) (cs o s : List Int) (dg cm : Int) (Y Mc : ax_M) : Prop := Y 0 5 = (p : Int) ∧ Y 0 6 = (n : Int) ∧ Y 0 7 = (d : Int) ∧ ml_S cs Y ∧ cl_T a o s 1 d dg cm Mc ∧ p ≤ n ∧ n ≤ 40 ∧ d ≤ 4 ∧ (0 ≤ cm ∧ cm < 32) ∧ o.length + s.length ≤ p ∧ cs.length ≤ p
/-- the model says no: the class stops at the same sign, or wants more at the end -/
def sm_no (a n p : Nat) (Y Mc : ax_M) (R : Prop × Int × ax_M) : Prop := R.1 ∧ R.2.1 = 0 ∧ ml_F Y R.2.2 ∧ ∃ (l : Nat) (N : ax_M), cl_run a (Y 2) l p Mc N ∧ R.2.2 0 5 = ((p + l : Nat) : Int) ∧ p + l ≤ n ∧ (p + l < n → cl_0 a (f_X1_goesOnBy (a : Int) (Y 2 (p + l)) N) N) ∧ (p + l = n → N a 4 ≠ 0 ∨ 0 < N a 5)
/-- the model says yes (rank r, 3 a thing): the class has gone over the same signs; t of its stack is still to be laid down, they bind r + 1 at least; what comes is no join of this rank or more, or a comparison more than there may be -/
def sm_ok (a n p d r : Nat) (cs o s : List Int) (cm : Int) (Y Mc : ax_M) (R : Prop × Int × ax_M) : Prop := R.1 ∧ R.2.1 = 1 ∧ ml_F Y R.2.2 ∧ ∃ (l : Nat) (N : ax_M) (g t o' : List Int) (dg' cm' : Int), 1 ≤ l ∧ cl_run a (Y 2) l p Mc N ∧ R.2.2 0 5 = ((p + l : Nat) : Int) ∧ p + l ≤ n ∧ R.2.2 0 7 = (d : Int) ∧ ml_S (cs ++ g) R.2.2 ∧ cl_T a o' (t ++ s) 0 d dg' cm' N ∧
  (∀ x, x ∈ t → (r : Int) + 1 ≤ bd_of x) ∧ o' ++ t.map (fun x => 2000 + x) = o ++ g.map fo_sgn ∧ (∀ gs h, fo_wf gs (h + 1) → fo_wf (g ++ gs) h) ∧ o'.length + (t.length + s.length) ≤ p + l ∧ cs.length + g.length ≤ p + l ∧ (p + l < n → 48 ≤ Y 2 (p + l) → Y 2 (p + l) ≤ 57 → dg' = 0 ∨ 3 ≤ dg') ∧ (0 ≤ cm' ∧ cm' < 32) ∧ (∀ j, j < d + 1 → (r = 0 → j < d) → ru_bit cm' j = ru_bit cm j) ∧ (∀ q : Nat, r ≤ q → 1 ≤ q → q ≤ 2 → p + l < n → op_of (q : Int) (Y 2 (p + l)) < 0) ∧ (r = 0 → p + l < n → 0 ≤ op_of 0 (Y 2 (p + l)) → ru_bit cm' d ≠ 0)
/-- a number -/
theorem sm_num (h : sm_I a n p d cs o s dg cm Y Mc) (h0 : p < n ∧ 48 ≤ Y 2 p ∧ Y 2 p ≤ 57) : sm_ok a n p d 3 cs o s cm Y Mc (ax_rc (f_X3_number 3 Y) (fun y24 => ax_rc (f_X3_codes y24.1 y24.2) (fun M25 => (True, (1, M25))))) := by
  obtain ⟨h5, h6, h7, hS, hT, hp, hn, hd, hc, hz, hl⟩ := h
  obtain ⟨r1, k, v, N, k1, k3, k4, r2, v0, v9, hr, hT', hdg⟩ := nm_3 h5 h6 (by omega) h0 hT (by omega)
  have hS1 : ml_S cs (ax_up Y 0 5 ((p + k : Nat) : Int)) := hS.up (by decide)
  obtain ⟨c1, c2, c3, c4⟩ := ml_codes (x := v) hS1 (by omega)
  unfold ax_rc
  rw [r2]
  dsimp only
  refine ⟨⟨r1, c1, trivial⟩, rfl, (ml_F.up (by omega)).tr c3, k, N, [v], [], o ++ [v], k, cm, k1, hr, by rw [c4 5 (by decide), fo_up_at, fo_u_s], k4, by rw [c4 7 (by decide), fo_up_at, fo_u_o (by decide), h7], c2, hT', fun x hx => absurd hx (by simp), ?_, fun gs h hw => ?_, ?_, ?_, fun g1 g2 g3 => Or.inr (by have := hdg g1 g2 g3; omega), hc, fun _ _ _ => rfl, fun q h1 _ h2 _ => by omega, fun h => absurd h (by decide)⟩
  · have e : fo_sgn v = v := by
      unfold fo_sgn
      rw [if_neg (by omega), if_neg (by omega), if_neg (by omega), if_neg (by omega), if_neg (by omega), if_neg (by omega), if_neg (by omega), if_neg (by omega)]
    rw [List.map_nil, List.append_nil, List.map_cons, List.map_nil, e]
  · rw [List.singleton_append]
    show (if v = 3000 then 1 ≤ h ∧ fo_wf gs h else if 2000 ≤ v then v ≤ 2006 ∧ 2 ≤ h ∧ fo_wf gs (h - 1) else (v < 1000 ∨ v ≤ 1005) ∧ fo_wf gs (h + 1))
    rw [if_neg (by omega), if_neg (by omega)]
    exact ⟨Or.inl (by omega), hw⟩
  · simp; omega
  · simp; omega
/-- a thing by its letter -/
theorem sm_letter (h : sm_I a n p d cs o s dg cm Y Mc) (h0 : p < n ∧ 0 ≤ it_of (Y 2 p)) : sm_ok a n p d 3 cs o s cm Y Mc (ax_rc (f_X3_codes (1000 + it_of (Y 2 p)) (ax_up Y 0 5 ((p + 1 : Nat) : Int))) (fun M23 => (True, (1, M23)))) := by
  obtain ⟨h5, h6, h7, hS, hT, hp, hn, hd, hc, hz, hl⟩ := h
  have hi5 : it_of (Y 2 p) ≤ 5 := by unfold it_of; repeat' split <;> first | omega | decide
  obtain ⟨N, hr, hT'⟩ := (go_thing hT (by omega) h0.2).run (T := Y 2) (p := p)
  have hS1 : ml_S cs (ax_up Y 0 5 ((p + 1 : Nat) : Int)) := hS.up (by decide)
  obtain ⟨c1, c2, c3, c4⟩ := ml_codes (x := 1000 + it_of (Y 2 p)) hS1 (by omega)
  generalize hv : it_of (Y 2 p) = i at *
  unfold ax_rc
  dsimp only
  refine ⟨⟨c1, trivial⟩, rfl, (ml_F.up (by omega)).tr c3, 1, N, [1000 + i], [], o ++ [1000 + i], 0, cm, by decide, hr, by rw [c4 5 (by decide), fo_up_at, fo_u_s], by omega, by rw [c4 7 (by decide), fo_up_at, fo_u_o (by decide), h7], c2, hT', fun x hx => absurd hx (by simp), ?_, fun gs h hw => ?_, ?_, ?_, fun _ _ _ => Or.inl rfl, hc, fun _ _ _ => rfl, fun q h1 _ h2 _ => by omega, fun h => absurd h (by decide)⟩
  · have e : fo_sgn (1000 + i) = 1000 + i := by
      unfold fo_sgn
      rw [if_neg (by omega), if_neg (by omega), if_neg (by omega), if_neg (by omega), if_neg (by omega), if_neg (by omega), if_neg (by omega), if_neg (by omega)]
    rw [List.map_nil, List.append_nil, List.map_cons, List.map_nil, e]
  · rw [List.singleton_append]
    show (if 1000 + i = 3000 then 1 ≤ h ∧ fo_wf gs h else if 2000 ≤ 1000 + i then 1000 + i ≤ 2006 ∧ 2 ≤ h ∧ fo_wf gs (h - 1) else (1000 + i < 1000 ∨ 1000 + i ≤ 1005) ∧ fo_wf gs (h + 1))
    rw [if_neg (by omega), if_neg (by omega)]
    exact ⟨Or.inr (by omega), hw⟩
  · simp; omega
  · simp; omega
/-- what is to be had of readsThing, and of readsRank -/
def sm_T (a n K : Nat) (fT : ax_M → Prop × Int × ax_M) : Prop := ∀ (p d : Nat) (cs o s : List Int) (dg cm : Int) (Y Mc : ax_M), sm_I a n p d cs o s dg cm Y Mc → (n - p) + 4 * (4 - d) < K → sm_no a n p Y Mc (fT Y) ∨ sm_ok a n p d 3 cs o s cm Y Mc (fT Y)
def sm_R (a n K : Nat) (fR : Int → ax_M → Prop × Int × ax_M) : Prop := ∀ (r p d : Nat) (cs o s : List Int) (dg cm : Int) (Y Mc : ax_M), r ≤ 3 → sm_I a n p d cs o s dg cm Y Mc → (s = [] ∨ ∃ y v, s = y :: v ∧ bd_of y < (r : Int) + 1) → (r = 0 → ru_bit cm d = 0) → (n - p) + 4 * (4 - d) + (4 - r) < K → sm_no a n p Y Mc (fR (r : Int) Y) ∨ sm_ok a n p d r cs o s cm Y Mc (fR (r : Int) Y)
/-- one sign, then what comes of the rest: no -/
theorem sm_no_1 {R : Prop × Int × ax_M} {Y1 N1 : ax_M} (hr : cl_run a (Y 2) 1 p Mc N1) (hY : ml_F Y Y1) (e2 : Y1 2 = Y 2) (h : sm_no a n (p + 1) Y1 N1 R) : sm_no a n p Y Mc R := by
  obtain ⟨h1, h2, h3, l, N, g1, g2, g3, g4, g5⟩ := h
  rw [e2] at g1 g4
  rw [show p + 1 + l = p + (1 + l) by omega] at g2 g3 g4 g5
  exact ⟨h1, h2, hY.tr h3, 1 + l, N, hr.tr g1, g2, g3, g4, g5⟩
/-- the class cannot go on here, the model says no -/
theorem sm_no_0 {R : Prop × Int × ax_M} (h1 : R.1) (h2 : R.2.1 = 0) (h3 : ml_F Y R.2.2) (h4 : R.2.2 0 5 = (p : Int)) (hp : p ≤ n) (h5 : p < n → cl_0 a (f_X1_goesOnBy (a : Int) (Y 2 p) Mc) Mc) (h6 : p = n → Mc a 4 ≠ 0 ∨ 0 < Mc a 5) : sm_no a n p Y Mc R :=
  ⟨h1, h2, h3, 0, Mc, rfl, h4, hp, h5, h6⟩
end SIM
