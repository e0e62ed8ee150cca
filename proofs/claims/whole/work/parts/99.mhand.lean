/-! ===== the model's common (calls itself) and takesOf (over a constant text) ===== -/
theorem wt_c7 : Cond.methodLink "FlashFolioModel" 7 yX3_common ∈ ax_T := wt_1420
theorem wt_cs : Cond.static yX3_common ∈ ax_T := wt_1421
/-- the model's common, within n calls -/
def f_X3_common_N : Nat → Int → Int → Prop × Int
  | 0, _, _ => (False, 0)
  | n + 1, a, b => if ax_lcmp b 0 ≠ 0 then ax_rq (b ≠ 0) (ax_rc (f_X3_common_N n b (ax_lrem a b)) (fun y => (True, y))) else (True, a)
def f_X3_common (x0 x2 : Int) (M : ax_M) : Prop × Int := f_X3_common_N 60 x0 x2
theorem c_X3_common_N (d : Nat) (M : ax_M) : ∀ (n : Nat) (a b : Int), (f_X3_common_N n a b).1 → ax_Met ax_LM gX3_common (d + n) [(1, 0, a), (1, 0, b)] M (ax_ql M (f_X3_common_N n a b).2) := by
  intro n
  induction n with
  | zero => intro a b h; exact False.elim h
  | succ n ih =>
    intro a b hX
    refine ax_body (by decide) (fun X => Nat.le_of_ble_eq_true rfl) (fun hok => ?_)
    show ax_W ax_LM gX3_common (d + n + 1) 0 [(0, (1, 0, a)), (2, (1, 0, b))] [] M _
    rw [f_X3_common_N] at hX ⊢
    refine ax_lump ax_layM ok_kX3 [(0, .lload_n 2, 1, 0, 0, 0), (1, .lconst 0, 1, 0, 0, 0), (2, .lcmp, 1, 0, 0, 0)] (pc' := 3) (lc' := [(0, (1, 0, a)), (2, (1, 0, b))]) (st' := [(0, 0, ax_lcmp b 0)]) (M' := M) (C' := True) (by decide +kernel) rfl trivial ?_
    refine ax_zne_s (q := fun r => ax_ql M r) hX (off := 7) (tgt := 10) (by decide +kernel) (by decide) (fun h hX => ?_) (fun h hX => ?_)
    · refine ax_rq_s hX (fun h0 hX => ?_)
      refine ax_lump ax_layM ok_kX3 [(10, .lload_n 2, 1, 0, 0, 0), (11, .lload_n 0, 1, 0, 0, 0), (12, .lload_n 2, 1, 0, 0, 0), (13, .lrem, 1, 0, 0, 0)] (pc' := 14) (lc' := [(0, (1, 0, a)), (2, (1, 0, b))]) (st' := [(1, 0, ax_lrem a b), (1, 0, b)]) (M' := M) (C' := (True ∧ b ≠ 0)) (by decide +kernel) rfl ⟨trivial, h0⟩ ?_
      refine ax_cSl_r (q := fun r => ax_ql M r) hX (G1 := gX3_common) (d1 := d + n) (i := 7) (n := 2) (as := [(1, 0, b), (1, 0, ax_lrem a b)]) (st := []) (by decide +kernel) calX3_common (by omega) rfl wt_c7 wt_cs (Nat.le_of_ble_eq_true rfl) rfl (fun h => ih b (ax_lrem a b) h) (fun y hX => ?_)
      exact ax_lret (by decide +kernel) rfl ⟨rfl, rfl⟩
    · refine ax_lump ax_layM ok_kX3 [(6, .lload_n 0, 1, 0, 0, 0), (7, .goto 10, 3, 17, 0, 0)] (pc' := 17) (lc' := [(0, (1, 0, a)), (2, (1, 0, b))]) (st' := [(1, 0, a)]) (M' := M) (C' := True) (by decide +kernel) rfl trivial ?_
      exact ax_lret (by decide +kernel) rfl ⟨rfl, rfl⟩
theorem c_X3_common (d : Nat) (x0 x2 : Int) (M : ax_M) (hX : (f_X3_common x0 x2 M).1) : ax_Met ax_LM gX3_common (d + 60) [(1, 0, x0), (1, 0, x2)] M (ax_ql M (f_X3_common x0 x2 M).2) := c_X3_common_N d M 60 x0 x2 hX
/-- takesOf, from place j on, of n -/
def f_X3_takesOf_N (t : Nat) (M : ax_M) : Nat → Nat → Int × ax_M
  | 0, _ => (-1, M)
  | n + 1, j => if M 0 6 ≤ M 0 5 then (-1, M) else if ax_sg t j = M 2 (M 0 5).toNat then ((j : Int), ax_up M 0 5 (M 0 5 + 1)) else f_X3_takesOf_N t M n (j + 1)
def f_X3_takesOf (t1 : Nat) (M : ax_M) : Prop × Int × ax_M := (t1 < 6, f_X3_takesOf_N t1 M (ax_ln t1) 0)
theorem w_X3_takesOf (d : Nat) (t : Nat) (ht : t < 6) (M : ax_M) : ∀ (n j : Nat), j + n = ax_ln t → ax_W ax_LM gX3_takesOf (d + 4) 2 [(2, (0, 0, (j : Int))), (0, (2, 3, 0)), (1, (7, t, 0))] [] M (ax_qm (-1) 5 (f_X3_takesOf_N t M n j)) := by
  have h6 := (ax_ln_eq t ht).2
  intro n
  induction n with
  | zero =>
    intro j hj
    refine ax_lump ax_layM ok_kX3 [(2, .iload_n 2, 1, 0, 0, 0), (3, .aload_n 1, 1, 0, 0, 0)] (pc' := 4) (lc' := [(2, (0, 0, (j : Int))), (0, (2, 3, 0)), (1, (7, t, 0))]) (st' := [(7, t, 0), (0, 0, (j : Int))]) (M' := M) (C' := True) (by decide +kernel) rfl trivial ?_
    refine ax_cTi (G1 := gS_length) (d1 := d + 1) (i := 52) (n := 0) (as := []) (st := [(0, 0, (j : Int))]) (by decide +kernel) ht cal_gS_length (by omega) rfl wt_926 wt_249 wt_250 (Nat.le_of_ble_eq_true rfl) rfl (cS_length ax_layM d t ht M) (fun _ => ?_)
    refine ax_icmp_ge (off := 49) (tgt := 56) (by decide +kernel) (by decide) (fun _ => ?_) (fun h => absurd (show (j : Int) ≥ (ax_ln t : Int) by omega) h)
    refine ax_lump ax_layM ok_kX3 [(56, .iconst (-1), 1, 0, 0, 0)] (pc' := 57) (lc' := [(2, (0, 0, (j : Int))), (0, (2, 3, 0)), (1, (7, t, 0))]) (st' := [(0, 0, -1)]) (M' := M) (C' := True) (by decide +kernel) rfl trivial ?_
    exact ax_iret (by decide +kernel) rfl ⟨rfl, rfl, (show (-1 : Int) ≤ -1 by decide), (show (-1 : Int) ≤ 5 by decide)⟩
  | succ n ih =>
    intro j hj
    refine ax_lump ax_layM ok_kX3 [(2, .iload_n 2, 1, 0, 0, 0), (3, .aload_n 1, 1, 0, 0, 0)] (pc' := 4) (lc' := [(2, (0, 0, (j : Int))), (0, (2, 3, 0)), (1, (7, t, 0))]) (st' := [(7, t, 0), (0, 0, (j : Int))]) (M' := M) (C' := True) (by decide +kernel) rfl trivial ?_
    refine ax_cTi (G1 := gS_length) (d1 := d + 1) (i := 52) (n := 0) (as := []) (st := [(0, 0, (j : Int))]) (by decide +kernel) ht cal_gS_length (by omega) rfl wt_926 wt_249 wt_250 (Nat.le_of_ble_eq_true rfl) rfl (cS_length ax_layM d t ht M) (fun _ => ?_)
    refine ax_icmp_ge (off := 49) (tgt := 56) (by decide +kernel) (by decide) (fun h => absurd h (by omega)) (fun _ => ?_)
    refine ax_fact (i := 0) (c := 3) (f := 5) (hi := 80) (s := 0) (by simp) rfl rfl rfl (fun hf1 => ?_)
    have hf1 : 0 ≤ (M 0 5) ∧ (M 0 5) ≤ 80 := hf1
    refine ax_fact (i := 0) (c := 3) (f := 6) (hi := 80) (s := 0) (by simp) rfl rfl rfl (fun hf2 => ?_)
    have hf2 : 0 ≤ (M 0 6) ∧ (M 0 6) ≤ 80 := hf2
    refine ax_lump ax_layM ok_kX3 [(10, .aload_n 0, 1, 0, 0, 0), (11, .getfield 29, 3, 3, 5, 0), (14, .aload_n 0, 1, 0, 0, 0), (15, .getfield 41, 3, 3, 6, 0)] (pc' := 18) (lc' := [(2, (0, 0, (j : Int))), (0, (2, 3, 0)), (1, (7, t, 0))]) (st' := [(0, 0, M 0 6), (0, 0, M 0 5)]) (M' := M) (C' := True) (by decide +kernel) rfl trivial ?_
    rw [f_X3_takesOf_N]
    refine ax_icmp_ge (off := 38) (tgt := 56) (by decide +kernel) (by decide) (fun h => ?_) (fun h => ?_)
    · rw [if_pos (show M 0 6 ≤ M 0 5 by omega)]
      refine ax_lump ax_layM ok_kX3 [(56, .iconst (-1), 1, 0, 0, 0)] (pc' := 57) (lc' := [(2, (0, 0, (j : Int))), (0, (2, 3, 0)), (1, (7, t, 0))]) (st' := [(0, 0, -1)]) (M' := M) (C' := True) (by decide +kernel) rfl trivial ?_
      exact ax_iret (by decide +kernel) rfl ⟨rfl, rfl, (show (-1 : Int) ≤ -1 by decide), (show (-1 : Int) ≤ 5 by decide)⟩
    · rw [if_neg (show ¬ M 0 6 ≤ M 0 5 by omega)]
      refine ax_lump ax_layM ok_kX3 [(21, .aload_n 1, 1, 0, 0, 0), (22, .iload_n 2, 1, 0, 0, 0)] (pc' := 23) (lc' := [(2, (0, 0, (j : Int))), (0, (2, 3, 0)), (1, (7, t, 0))]) (st' := [(0, 0, (j : Int)), (7, t, 0)]) (M' := M) (C' := True) (by decide +kernel) rfl trivial ?_
      refine ax_cTi (G1 := gS_charAt) (d1 := d + 3) (i := 58) (n := 1) (as := [(0, 0, (j : Int))]) (st := []) (by decide +kernel) ht cal_gS_charAt (by omega) rfl wt_927 wt_928 wt_929 (Nat.le_of_ble_eq_true rfl) rfl (cS_charAt ax_layM d t ht j ⟨by omega, by omega⟩ M) (fun _ => ?_)
      rw [show ((j : Int)).toNat = j from rfl]
      refine ax_lump ax_layM ok_kX3 [(26, .aload_n 0, 1, 0, 0, 0), (27, .getfield 21, 3, 3, 3, 0), (30, .aload_n 0, 1, 0, 0, 0), (31, .getfield 29, 3, 3, 5, 0), (34, .iaload, 1, 0, 0, 0)] (pc' := 35) (lc' := [(2, (0, 0, (j : Int))), (0, (2, 3, 0)), (1, (7, t, 0))]) (st' := [(0, 0, M 2 (M 0 5).toNat), (0, 0, ax_sg t j)]) (M' := M) (C' := (True ∧ (0 ≤ (M 0 5) ∧ (M 0 5) < ((80 : Nat) : Int)))) (by decide +kernel) rfl ⟨trivial, by omega, by omega⟩ ?_
      refine ax_icmp_ne (off := 15) (tgt := 50) (by decide +kernel) (by decide) (fun h2 => ?_) (fun h2 => ?_)
      · rw [if_neg h2]
        refine ax_lump ax_layM ok_kX3 [(50, .iinc 2 1, 3, 1, 0, 0), (53, .goto (-51), 3, 2, 0, 0)] (pc' := 2) (lc' := [(2, (0, 0, (j : Int) + 1)), (0, (2, 3, 0)), (1, (7, t, 0))]) (st' := []) (M' := M) (C' := (True ∧ ax_r32 ((j : Int) + 1))) (by decide +kernel) rfl ⟨trivial, by unfold ax_r32; omega⟩ ?_
        exact ih (j + 1) (by omega)
      · rw [if_pos (Decidable.not_not.mp h2)]
        refine ax_lump ax_layM ok_kX3 [(38, .aload_n 0, 1, 0, 0, 0), (39, .dup, 1, 0, 0, 0), (40, .getfield 29, 3, 3, 5, 0), (43, .iconst 1, 1, 0, 0, 0), (44, .iadd, 1, 1, 0, 0), (45, .putfield 29, 3, 3, 5, 0), (48, .iload_n 2, 1, 0, 0, 0)] (pc' := 49) (lc' := [(2, (0, 0, (j : Int))), (0, (2, 3, 0)), (1, (7, t, 0))]) (st' := [(0, 0, (j : Int))]) (M' := ax_up M 0 5 (M 0 5 + 1)) (C' := ((True ∧ ax_r32 (M 0 5 + 1)) ∧ (0 ≤ (M 0 5 + 1) ∧ (M 0 5 + 1) < ((81 : Nat) : Int)))) (by decide +kernel) rfl ⟨⟨trivial, by unfold ax_r32; omega⟩, by omega, by omega⟩ ?_
        exact ax_iret (by decide +kernel) rfl ⟨rfl, rfl, by omega, by omega⟩
theorem c_X3_takesOf (d : Nat) (t1 : Nat) (M : ax_M) (hX : (f_X3_takesOf t1 M).1) : ax_Met ax_LM gX3_takesOf (d + 4) [(2, 3, 0), (7, t1, 0)] M (ax_qm (-1) 5 (f_X3_takesOf t1 M).2) := by
  refine ax_body (by decide) (fun X => Nat.le_of_ble_eq_true rfl) (fun hok => ?_)
  show ax_W ax_LM gX3_takesOf (d + 4) 0 [(0, (2, 3, 0)), (1, (7, t1, 0))] [] M _
  refine ax_lump ax_layM ok_kX3 [(0, .iconst 0, 1, 0, 0, 0), (1, .istore_n 2, 1, 0, 0, 0)] (pc' := 2) (lc' := [(2, (0, 0, 0)), (0, (2, 3, 0)), (1, (7, t1, 0))]) (st' := []) (M' := M) (C' := True) (by decide +kernel) rfl trivial ?_
  exact w_X3_takesOf d t1 hX M (ax_ln t1) 0 (by omega)
/-- a constant text is loaded, by a wide index -/
theorem ax_ldcwS {L : ax_L} {G : ax_G} {d pc : Nat} {lc : List (Nat × ax_V)} {st : List ax_V} {M : ax_M} {Q : Option ax_V → ax_M → Prop} {i j : Nat} (hd : decode (ax_cc G) pc = .ok (.ldc_w i, 3)) (hj : (ax_tr.any fun r => r.1 == ax_own G && r.2.1 == i && r.2.2.1 == j) = true) (k : ax_W L G d (pc + 3) lc ((7, j, 0) :: st) M Q) : ax_W L G d pc lc st M Q := by
  intro p l e s m args below meth c X H locs ls hC hl hok hR hS
  obtain ⟨r, hr, hr2⟩ := List.any_eq_true.mp hj
  simp only [Bool.and_eq_true, beq_iff_eq] at hr2
  obtain ⟨⟨e1, e2⟩, e3⟩ := hr2
  have hZ := hC.2.2.2.2.2.2.2.2.2.2.1 r hr
  rw [e1, e2, e3] at hZ
  have k2 := k p l e s m args below meth c X H locs ls hC hl (hok.push (v := (7, j, 0)) trivial) hR hS
  intro T hT X0
  obtain ⟨t, a1, b1⟩ := k2 T hT X0
  exact ⟨t, X0.ldcStringW hC.1 hC.2.2.2.2.1 (text := r.2.2.2) (a := X.1 (2000 + j)) hZ.1 hZ.2 (g := F0 m pc ls (st.map (ax_vl X))) rfl (by rw [hC.2.1]; exact hd) t a1, b1⟩
