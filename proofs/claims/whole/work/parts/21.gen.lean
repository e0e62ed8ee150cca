def f_X3_faultOf_J20 (j1 : Int) (j2 : Int) (s0 : Int) (M : ax_M) : Int := (if j1 ≤ j2 then (if s0 = 0 then ((-1) - (M 0 5)) else 0) else (if s0 ≠ 0 then ((-1) - j2) else (if (M 0 5) < j2 then ((-1) - (M 0 5)) else ((-1) - j2))))
set_option maxRecDepth 100000 in
set_option maxHeartbeats 4000000 in
theorem w_X3_faultOf_J20 (d : Nat) (j1 : Int) (j2 : Int) (s0 : Int) (M : ax_M) (hw_s0 : 0 ≤ s0 ∧ s0 ≤ 1) : ax_W ax_LM gX3_faultOf (d + 0) 20 [(0, (2, 3, 0)), (1, (0, 0, j1)), (2, (0, 0, j2))] [(0, 0, s0)] M ((ax_qi (-2147483648) 2147483647 M) (f_X3_faultOf_J20 j1 j2 s0 M)) := by
  unfold f_X3_faultOf_J20
  refine ax_lump ax_layM ok_kX3 [(20, .istore 4, 2, 0, 0, 0), (22, .iload_n 1, 1, 0, 0, 0), (23, .iload_n 2, 1, 0, 0, 0)] (pc' := 24) (lc' := [(4, (0, 0, s0)), (0, (2, 3, 0)), (1, (0, 0, j1)), (2, (0, 0, j2))]) (st' := [(0, 0, j2), (0, 0, j1)]) (M' := M) (C' := True) (by decide +kernel) rfl trivial ?_
  refine ax_jle (off := 20) (tgt := 44) (by decide +kernel) (by decide) (fun h2 => ?_) (fun h2 => ?_)
  · refine ax_lump ax_layM ok_kX3 [(44, .iload 4, 2, 0, 0, 0)] (pc' := 46) (lc' := [(4, (0, 0, s0)), (0, (2, 3, 0)), (1, (0, 0, j1)), (2, (0, 0, j2))]) (st' := [(0, 0, s0)]) (M' := M) (C' := True) (by decide +kernel) rfl trivial ?_
    refine ax_zeq (off := 7) (tgt := 53) (by decide +kernel) (by decide) (fun h3 => ?_) (fun h3 => ?_)
    · refine ax_fact (i := 0) (c := 3) (f := 5) (hi := 80) (s := 0) (by simp) rfl rfl rfl (fun hf4 => ?_)
      have hf4 : 0 ≤ (M 0 5) ∧ (M 0 5) ≤ 80 := hf4
      refine ax_lump ax_layM ok_kX3 [(53, .iconst (-1), 1, 0, 0, 0), (54, .aload_n 0, 1, 0, 0, 0), (55, .getfield 29, 3, 3, 5, 0), (58, .isub, 1, 1, 0, 0)] (pc' := 59) (lc' := [(4, (0, 0, s0)), (0, (2, 3, 0)), (1, (0, 0, j1)), (2, (0, 0, j2))]) (st' := [(0, 0, ((-1) - (M 0 5)))]) (M' := M) (C' := (True ∧ ax_r32 ((-1) - (M 0 5)))) (by decide +kernel) rfl ⟨trivial, ⟨by omega, by omega⟩⟩ ?_
      refine ax_rngS (fun hr => ?_)
      exact ax_iret (by decide +kernel) rfl ⟨rfl, rfl, hr.1, hr.2⟩
    · refine ax_lump ax_layM ok_kX3 [(49, .iconst 0, 1, 0, 0, 0), (50, .goto 9, 3, 59, 0, 0)] (pc' := 59) (lc' := [(4, (0, 0, s0)), (0, (2, 3, 0)), (1, (0, 0, j1)), (2, (0, 0, j2))]) (st' := [(0, 0, 0)]) (M' := M) (C' := True) (by decide +kernel) rfl trivial ?_
      refine ax_rngS (fun hr => ?_)
      exact ax_iret (by decide +kernel) rfl ⟨rfl, rfl, hr.1, hr.2⟩
  · refine ax_lump ax_layM ok_kX3 [(27, .iload 4, 2, 0, 0, 0)] (pc' := 29) (lc' := [(4, (0, 0, s0)), (0, (2, 3, 0)), (1, (0, 0, j1)), (2, (0, 0, j2))]) (st' := [(0, 0, s0)]) (M' := M) (C' := True) (by decide +kernel) rfl trivial ?_
    refine ax_zne (off := 11) (tgt := 40) (by decide +kernel) (by decide) (fun h5 => ?_) (fun h5 => ?_)
    · refine ax_rngL (i := 2) (u := 0) (n := j2) (by simp) (fun hq6 => ?_)
      have hq6 : (-2147483648) ≤ j2 ∧ j2 ≤ 2147483647 := hq6
      refine ax_lump ax_layM ok_kX3 [(40, .iconst (-1), 1, 0, 0, 0), (41, .iload_n 2, 1, 0, 0, 0), (42, .isub, 1, 1, 0, 0)] (pc' := 43) (lc' := [(4, (0, 0, s0)), (0, (2, 3, 0)), (1, (0, 0, j1)), (2, (0, 0, j2))]) (st' := [(0, 0, ((-1) - j2))]) (M' := M) (C' := (True ∧ ax_r32 ((-1) - j2))) (by decide +kernel) rfl ⟨trivial, ⟨by omega, by omega⟩⟩ ?_
      refine ax_rngS (fun hr => ?_)
      exact ax_iret (by decide +kernel) rfl ⟨rfl, rfl, hr.1, hr.2⟩
    · refine ax_fact (i := 0) (c := 3) (f := 5) (hi := 80) (s := 0) (by simp) rfl rfl rfl (fun hf7 => ?_)
      have hf7 : 0 ≤ (M 0 5) ∧ (M 0 5) ≤ 80 := hf7
      refine ax_lump ax_layM ok_kX3 [(32, .aload_n 0, 1, 0, 0, 0), (33, .getfield 29, 3, 3, 5, 0), (36, .iload_n 2, 1, 0, 0, 0)] (pc' := 37) (lc' := [(4, (0, 0, s0)), (0, (2, 3, 0)), (1, (0, 0, j1)), (2, (0, 0, j2))]) (st' := [(0, 0, j2), (0, 0, (M 0 5))]) (M' := M) (C' := True) (by decide +kernel) rfl trivial ?_
      refine ax_jlt (off := 7) (tgt := 44) (by decide +kernel) (by decide) (fun h8 => ?_) (fun h8 => ?_)
      · refine ax_lump ax_layM ok_kX3 [(44, .iload 4, 2, 0, 0, 0)] (pc' := 46) (lc' := [(4, (0, 0, s0)), (0, (2, 3, 0)), (1, (0, 0, j1)), (2, (0, 0, j2))]) (st' := [(0, 0, s0)]) (M' := M) (C' := True) (by decide +kernel) rfl trivial ?_
        refine ax_if_eq (off := 7) (tgt := 53) (by decide +kernel) (by decide) (fun h9 => ?_) (fun h9 => ?_)
        · refine ax_lump ax_layM ok_kX3 [(53, .iconst (-1), 1, 0, 0, 0), (54, .aload_n 0, 1, 0, 0, 0), (55, .getfield 29, 3, 3, 5, 0), (58, .isub, 1, 1, 0, 0)] (pc' := 59) (lc' := [(4, (0, 0, s0)), (0, (2, 3, 0)), (1, (0, 0, j1)), (2, (0, 0, j2))]) (st' := [(0, 0, ((-1) - (M 0 5)))]) (M' := M) (C' := (True ∧ ax_r32 ((-1) - (M 0 5)))) (by decide +kernel) rfl ⟨trivial, ⟨by omega, by omega⟩⟩ ?_
          refine ax_rngS (fun hr => ?_)
          exact ax_iret (by decide +kernel) rfl ⟨rfl, rfl, hr.1, hr.2⟩
        · exfalso; omega
      · refine ax_rngL (i := 2) (u := 0) (n := j2) (by simp) (fun hq10 => ?_)
        have hq10 : (-2147483648) ≤ j2 ∧ j2 ≤ 2147483647 := hq10
        refine ax_lump ax_layM ok_kX3 [(40, .iconst (-1), 1, 0, 0, 0), (41, .iload_n 2, 1, 0, 0, 0), (42, .isub, 1, 1, 0, 0)] (pc' := 43) (lc' := [(4, (0, 0, s0)), (0, (2, 3, 0)), (1, (0, 0, j1)), (2, (0, 0, j2))]) (st' := [(0, 0, ((-1) - j2))]) (M' := M) (C' := (True ∧ ax_r32 ((-1) - j2))) (by decide +kernel) rfl ⟨trivial, ⟨by omega, by omega⟩⟩ ?_
        refine ax_rngS (fun hr => ?_)
        exact ax_iret (by decide +kernel) rfl ⟨rfl, rfl, hr.1, hr.2⟩
def f_X3_faultOf_J19 (j1 : Int) (j2 : Int) (M : ax_M) : Int := f_X3_faultOf_J20 j1 j2 0 M
set_option maxRecDepth 100000 in
set_option maxHeartbeats 4000000 in
theorem w_X3_faultOf_J19 (d : Nat) (j1 : Int) (j2 : Int) (M : ax_M)  : ax_W ax_LM gX3_faultOf (d + 0) 19 [(0, (2, 3, 0)), (1, (0, 0, j1)), (2, (0, 0, j2))] [] M ((ax_qi (-2147483648) 2147483647 M) (f_X3_faultOf_J19 j1 j2 M)) := by
  unfold f_X3_faultOf_J19
  refine ax_lump ax_layM ok_kX3 [(19, .iconst 0, 1, 0, 0, 0)] (pc' := 20) (lc' := [(0, (2, 3, 0)), (1, (0, 0, j1)), (2, (0, 0, j2))]) (st' := [(0, 0, 0)]) (M' := M) (C' := True) (by decide +kernel) rfl trivial ?_
  exact w_X3_faultOf_J20 d j1 j2 0 M (by omega)
def f_X3_faultOf (x1 : Int) (x2 : Int) (x3 : Int) (M : ax_M) : Int := (if x3 = 0 then f_X3_faultOf_J19 x1 x2 M else (if (M 0 5) ≠ (M 0 6) then f_X3_faultOf_J19 x1 x2 M else f_X3_faultOf_J20 x1 x2 1 M))
set_option maxRecDepth 100000 in
set_option maxHeartbeats 4000000 in
theorem c_X3_faultOf (d : Nat) (x1 : Int) (x2 : Int) (x3 : Int) (M : ax_M) (hp2 : 0 ≤ x3 ∧ x3 ≤ 1) : ax_Met ax_LM gX3_faultOf (d + 0) [(2, 3, 0), (0, 0, x1), (0, 0, x2), (0, 0, x3)] M ((ax_qi (-2147483648) 2147483647 M) (f_X3_faultOf x1 x2 x3 M)) := by
  refine ax_body (by decide) (fun X => Nat.le_of_ble_eq_true rfl) (fun hok => ?_)
  have hr_x1 : (-2147483648) ≤ x1 ∧ x1 ≤ 2147483647 := hok (0, 0, x1) (by simp)
  have hr_x2 : (-2147483648) ≤ x2 ∧ x2 ≤ 2147483647 := hok (0, 0, x2) (by simp)
  have hr_x3 : (-2147483648) ≤ x3 ∧ x3 ≤ 2147483647 := hok (0, 0, x3) (by simp)
  show ax_W ax_LM gX3_faultOf (d + 0) 0 [(0, (2, 3, 0)), (1, (0, 0, x1)), (2, (0, 0, x2)), (3, (0, 0, x3))] [] M _
  unfold f_X3_faultOf
  refine ax_lump ax_layM ok_kX3 [(0, .iload_n 3, 1, 0, 0, 0)] (pc' := 1) (lc' := [(0, (2, 3, 0)), (1, (0, 0, x1)), (2, (0, 0, x2)), (3, (0, 0, x3))]) (st' := [(0, 0, x3)]) (M' := M) (C' := True) (by decide +kernel) rfl trivial ?_
  refine ax_zeq (off := 18) (tgt := 19) (by decide +kernel) (by decide) (fun h1 => ?_) (fun h1 => ?_)
  · refine ax_pk [0,1,2] (lc' := [(0, (2, 3, 0)), (1, (0, 0, x1)), (2, (0, 0, x2))]) rfl ?_
    exact w_X3_faultOf_J19 d x1 x2 M 
  · refine ax_fact (i := 0) (c := 3) (f := 5) (hi := 80) (s := 0) (by simp) rfl rfl rfl (fun hf11 => ?_)
    have hf11 : 0 ≤ (M 0 5) ∧ (M 0 5) ≤ 80 := hf11
    refine ax_fact (i := 0) (c := 3) (f := 6) (hi := 80) (s := 0) (by simp) rfl rfl rfl (fun hf12 => ?_)
    have hf12 : 0 ≤ (M 0 6) ∧ (M 0 6) ≤ 80 := hf12
    refine ax_lump ax_layM ok_kX3 [(4, .aload_n 0, 1, 0, 0, 0), (5, .getfield 29, 3, 3, 5, 0), (8, .aload_n 0, 1, 0, 0, 0), (9, .getfield 41, 3, 3, 6, 0)] (pc' := 12) (lc' := [(0, (2, 3, 0)), (1, (0, 0, x1)), (2, (0, 0, x2)), (3, (0, 0, x3))]) (st' := [(0, 0, (M 0 6)), (0, 0, (M 0 5))]) (M' := M) (C' := True) (by decide +kernel) rfl trivial ?_
    refine ax_jne (off := 7) (tgt := 19) (by decide +kernel) (by decide) (fun h13 => ?_) (fun h13 => ?_)
    · refine ax_pk [0,1,2] (lc' := [(0, (2, 3, 0)), (1, (0, 0, x1)), (2, (0, 0, x2))]) rfl ?_
      exact w_X3_faultOf_J19 d x1 x2 M 
    · refine ax_lump ax_layM ok_kX3 [(15, .iconst 1, 1, 0, 0, 0), (16, .goto 4, 3, 20, 0, 0)] (pc' := 20) (lc' := [(0, (2, 3, 0)), (1, (0, 0, x1)), (2, (0, 0, x2)), (3, (0, 0, x3))]) (st' := [(0, 0, 1)]) (M' := M) (C' := True) (by decide +kernel) rfl trivial ?_
      refine ax_pk [0,1,2] (lc' := [(0, (2, 3, 0)), (1, (0, 0, x1)), (2, (0, 0, x2))]) rfl ?_
      exact w_X3_faultOf_J20 d x1 x2 1 M (by omega)
def f_X3_codes (x1 : Int) (M : ax_M) : Prop × ax_M := ax_rq ((0 ≤ (M 0 11) ∧ (M 0 11) < ((80 : Nat) : Int))) (ax_bd (ax_up M 4 (M 0 11).toNat x1) (fun M3 => ax_rq ((0 ≤ ((M3 0 11) + 1) ∧ ((M3 0 11) + 1) < ((81 : Nat) : Int))) (ax_bd (ax_up M3 0 11 ((M3 0 11) + 1)) (fun M6 => (True, M6)))))
set_option maxRecDepth 100000 in
set_option maxHeartbeats 4000000 in
theorem c_X3_codes (d : Nat) (x1 : Int) (M : ax_M)  (hX : (f_X3_codes x1 M).1) : ax_Met ax_LM gX3_codes (d + 0) [(2, 3, 0), (0, 0, x1)] M (ax_qv (f_X3_codes x1 M).2) := by
  refine ax_body (by decide) (fun X => Nat.le_of_ble_eq_true rfl) (fun hok => ?_)
  have hr_x1 : (-2147483648) ≤ x1 ∧ x1 ≤ 2147483647 := hok (0, 0, x1) (by simp)
  show ax_W ax_LM gX3_codes (d + 0) 0 [(0, (2, 3, 0)), (1, (0, 0, x1))] [] M _
  unfold f_X3_codes at hX ⊢
  refine ax_rq_s hX (fun hS2 hX => ?_)
  refine ax_fact (i := 0) (c := 3) (f := 11) (hi := 80) (s := 0) (by simp) rfl rfl rfl (fun hf1 => ?_)
  have hf1 : 0 ≤ (M 0 11) ∧ (M 0 11) ≤ 80 := hf1
  refine ax_lump ax_layM ok_kX3 [(0, .aload_n 0, 1, 0, 0, 0), (1, .getfield 70, 3, 3, 9, 0), (4, .aload_n 0, 1, 0, 0, 0), (5, .getfield 73, 3, 3, 11, 0), (8, .iload_n 1, 1, 0, 0, 0), (9, .iastore, 1, 0, 0, 0)] (pc' := 10) (lc' := [(0, (2, 3, 0)), (1, (0, 0, x1))]) (st' := []) (M' := (ax_up M 4 (M 0 11).toNat x1)) (C' := (True ∧ (0 ≤ (M 0 11) ∧ (M 0 11) < ((80 : Nat) : Int)))) (by decide +kernel) rfl ⟨trivial, hS2⟩ ?_
  refine ax_bdMe_s hX (fun M3 hM_M3 hX => ?_)
  have hk_k4 : (M3 0 11) = (M 0 11) := by rw [hM_M3]; exact ax_up_o1 (by omega)
  refine ax_rq_s hX (fun hS5 hX => ?_)
  refine ax_lump ax_layM ok_kX3 [(10, .aload_n 0, 1, 0, 0, 0), (11, .dup, 1, 0, 0, 0), (12, .getfield 73, 3, 3, 11, 0), (15, .iconst 1, 1, 0, 0, 0), (16, .iadd, 1, 1, 0, 0), (17, .putfield 73, 3, 3, 11, 0)] (pc' := 20) (lc' := [(0, (2, 3, 0)), (1, (0, 0, x1))]) (st' := []) (M' := (ax_up M3 0 11 ((M3 0 11) + 1))) (C' := ((True ∧ ax_r32 ((M3 0 11) + 1)) ∧ (0 ≤ ((M3 0 11) + 1) ∧ ((M3 0 11) + 1) < ((81 : Nat) : Int)))) (by decide +kernel) rfl ⟨⟨trivial, ⟨by omega, by omega⟩⟩, hS5⟩ ?_
  refine ax_bdMe_s hX (fun M6 hM_M6 hX => ?_)
  have hk_k7 : (M6 0 11) = ((M3 0 11) + 1) := by rw [hM_M6]; exact ax_up_s
  exact ax_vret (by decide +kernel) rfl ⟨rfl, rfl⟩
def f_X3_laysCode_B7 (a1 : Nat) (w2 : Int) (i : Int)  (M : ax_M) (kc : ax_M → ax_M) (kx : ax_M → ax_M) : ax_M := ax_bd (ax_up M 3 i.toNat (M a1 i.toNat)) (fun M2 => kc M2)
def f_X3_laysCode_L7 (a1 : Nat) (w2 : Int) : Nat → Int → ax_M → (ax_M → ax_M) → ax_M
  | 0, i, M, kx => kx M
  | n + 1, i, M, kx => f_X3_laysCode_B7 a1 w2 i  M (fun M9 => f_X3_laysCode_L7 a1 w2 n (i + 1) M9 kx) kx
set_option maxRecDepth 100000 in
set_option maxHeartbeats 4000000 in
theorem wb_X3_laysCode_B7 (d : Nat) (a1 : Nat) (w2 : Int) (i : Int)  (M : ax_M) (kc : ax_M → ax_M) (kx : ax_M → ax_M) (hw_w2 : 0 ≤ w2 ∧ w2 ≤ 80) (hi : 0 ≤ i ∧ i < w2)  (hkc : ∀ (M9 : ax_M), ax_W ax_LM gX3_laysCode (d + 0) 7 [(0, (2, 3, 0)), (1, (3, 80, (a1 : Int))), (2, (0, 0, w2)), (3, (0, 0, (i + 1)))] [] M9 (ax_qv (kc M9))) (hkx : ∀ (M9 : ax_M), (True) → ax_W ax_LM gX3_laysCode (d + 0) 27 [] [] M9 (ax_qv (kx M9))) : ax_W ax_LM gX3_laysCode (d + 0) 12 [(0, (2, 3, 0)), (1, (3, 80, (a1 : Int))), (2, (0, 0, w2)), (3, (0, 0, i))] [] M (ax_qv (f_X3_laysCode_B7 a1 w2 i  M kc kx)) := by
  unfold f_X3_laysCode_B7
  refine ax_lump ax_layM ok_kX3 [(12, .aload_n 0, 1, 0, 0, 0), (13, .getfield 112, 3, 3, 8, 0), (16, .iload_n 3, 1, 0, 0, 0), (17, .aload_n 1, 1, 0, 0, 0), (18, .iload_n 3, 1, 0, 0, 0), (19, .iaload, 1, 0, 0, 0), (20, .iastore, 1, 0, 0, 0)] (pc' := 21) (lc' := [(0, (2, 3, 0)), (1, (3, 80, (a1 : Int))), (2, (0, 0, w2)), (3, (0, 0, i))]) (st' := []) (M' := (ax_up M 3 i.toNat (M a1 i.toNat))) (C' := ((True ∧ (0 ≤ i ∧ i < ((80 : Nat) : Int))) ∧ (0 ≤ i ∧ i < ((80 : Nat) : Int)))) (by decide +kernel) rfl ⟨⟨trivial, by omega⟩, by omega⟩ ?_
  refine ax_bdMe (fun M2 hM_M2 => ?_)
  refine ax_lump ax_layM ok_kX3 [(21, .iinc 3 1, 3, 1, 0, 0), (24, .goto (-17), 3, 7, 0, 0)] (pc' := 7) (lc' := [(3, (0, 0, (i + 1))), (0, (2, 3, 0)), (1, (3, 80, (a1 : Int))), (2, (0, 0, w2))]) (st' := []) (M' := M2) (C' := (True ∧ ax_r32 (i + 1))) (by decide +kernel) rfl ⟨trivial, ⟨by omega, by omega⟩⟩ ?_
  refine ax_pk [1,2,3,0] (lc' := [(0, (2, 3, 0)), (1, (3, 80, (a1 : Int))), (2, (0, 0, w2)), (3, (0, 0, (i + 1)))]) rfl ?_
  exact hkc M2 
set_option maxRecDepth 100000 in
set_option maxHeartbeats 4000000 in
theorem w_X3_laysCode_L7 (d : Nat) (a1 : Nat) (w2 : Int) (kx : ax_M → ax_M) (hw_w2 : 0 ≤ w2 ∧ w2 ≤ 80) (hkx : ∀ (M9 : ax_M), (True) → ax_W ax_LM gX3_laysCode (d + 0) 27 [] [] M9 (ax_qv (kx M9))) : ∀ (n : Nat) (i : Int) (M : ax_M), 0 ≤ i ∧ n = (w2 - i).toNat → ax_W ax_LM gX3_laysCode (d + 0) 7 [(0, (2, 3, 0)), (1, (3, 80, (a1 : Int))), (2, (0, 0, w2)), (3, (0, 0, i))] [] M (ax_qv (f_X3_laysCode_L7 a1 w2 n i  M kx)) := by
  intro n
  induction n with
  | zero =>
    intro i M hin
    refine ax_lump ax_layM ok_kX3 [(7, .iload_n 3, 1, 0, 0, 0), (8, .iload_n 2, 1, 0, 0, 0)] (pc' := 9) (lc' := [(0, (2, 3, 0)), (1, (3, 80, (a1 : Int))), (2, (0, 0, w2)), (3, (0, 0, i))]) (st' := [(0, 0, w2), (0, 0, i)]) (M' := M) (C' := True) (by decide +kernel) rfl trivial ?_
    refine ax_icmp_ge (off := 18) (tgt := 27) (by decide +kernel) (by decide) (fun h => ?_) (fun h => ?_)
    · refine ax_pk [] (lc' := []) rfl ?_
      exact hkx M trivial
    · exfalso; omega
  | succ n ih =>
    intro i M hin
    refine ax_lump ax_layM ok_kX3 [(7, .iload_n 3, 1, 0, 0, 0), (8, .iload_n 2, 1, 0, 0, 0)] (pc' := 9) (lc' := [(0, (2, 3, 0)), (1, (3, 80, (a1 : Int))), (2, (0, 0, w2)), (3, (0, 0, i))]) (st' := [(0, 0, w2), (0, 0, i)]) (M' := M) (C' := True) (by decide +kernel) rfl trivial ?_
    refine ax_icmp_ge (off := 18) (tgt := 27) (by decide +kernel) (by decide) (fun h => ?_) (fun h => ?_)
    · exfalso; omega
    · exact wb_X3_laysCode_B7 d a1 w2 i  M _ kx hw_w2 (by omega)  (fun M9 => ih (i + 1)  M9 (by omega) ) hkx
def f_X3_laysCode (a1 : Nat) (x2 : Int) (M : ax_M) : ax_M := ax_bd (ax_up M 0 10 x2) (fun M1 => f_X3_laysCode_L7 a1 x2 (x2 - 0).toNat 0  M1 (fun M3 => M3))
set_option maxRecDepth 100000 in
set_option maxHeartbeats 4000000 in
theorem c_X3_laysCode (d : Nat) (a1 : Nat) (x2 : Int) (M : ax_M) (hp1 : 0 ≤ x2 ∧ x2 ≤ 80) : ax_Met ax_LM gX3_laysCode (d + 0) [(2, 3, 0), (3, 80, (a1 : Int)), (0, 0, x2)] M (ax_qv (f_X3_laysCode a1 x2 M)) := by
  refine ax_body (by decide) (fun X => Nat.le_of_ble_eq_true rfl) (fun hok => ?_)
  have hr_x2 : (-2147483648) ≤ x2 ∧ x2 ≤ 2147483647 := hok (0, 0, x2) (by simp)
  show ax_W ax_LM gX3_laysCode (d + 0) 0 [(0, (2, 3, 0)), (1, (3, 80, (a1 : Int))), (2, (0, 0, x2))] [] M _
  unfold f_X3_laysCode
  refine ax_lump ax_layM ok_kX3 [(0, .aload_n 0, 1, 0, 0, 0), (1, .iload_n 2, 1, 0, 0, 0), (2, .putfield 109, 3, 3, 10, 0)] (pc' := 5) (lc' := [(0, (2, 3, 0)), (1, (3, 80, (a1 : Int))), (2, (0, 0, x2))]) (st' := []) (M' := (ax_up M 0 10 x2)) (C' := (True ∧ (0 ≤ x2 ∧ x2 < ((81 : Nat) : Int)))) (by decide +kernel) rfl ⟨trivial, by omega⟩ ?_
  refine ax_bdMe (fun M1 hM_M1 => ?_)
  refine ax_lump ax_layM ok_kX3 [(5, .iconst 0, 1, 0, 0, 0), (6, .istore_n 3, 1, 0, 0, 0)] (pc' := 7) (lc' := [(3, (0, 0, 0)), (0, (2, 3, 0)), (1, (3, 80, (a1 : Int))), (2, (0, 0, x2))]) (st' := []) (M' := M1) (C' := True) (by decide +kernel) rfl trivial ?_
  refine ax_pk [1,2,3,0] (lc' := [(0, (2, 3, 0)), (1, (3, 80, (a1 : Int))), (2, (0, 0, x2)), (3, (0, 0, 0))]) rfl ?_
  refine w_X3_laysCode_L7 d a1 x2 _ (by omega) (fun M3 hx_3 => ?_) (x2 - 0).toNat 0  M1 (by omega) 
  exact ax_vret (by decide +kernel) rfl ⟨rfl, rfl⟩
def f_X3_worked (x0 : Int) (x1 : Int) (x2 : Int) (M : ax_M) : Int := (if x0 = 0 then (if x2 ≤ x1 then (f_X3_flag 0 M) else (f_X3_flag 1 M)) else (if x0 = 1 then (if x1 ≤ x2 then (f_X3_flag 0 M) else (f_X3_flag 1 M)) else (if x0 = 2 then (if x1 ≠ x2 then (f_X3_flag 0 M) else (f_X3_flag 1 M)) else (if x0 = 3 then (ax_wr (x1 + x2)) else (if x0 = 4 then (ax_wr (x1 - x2)) else (if x0 = 5 then (ax_wr (x1 * x2)) else (if x2 ≠ 0 then (ax_div x1 x2) else 0)))))))
set_option maxRecDepth 100000 in
set_option maxHeartbeats 4000000 in
theorem c_X3_worked (d : Nat) (x0 : Int) (x1 : Int) (x2 : Int) (M : ax_M)  : ax_Met ax_LM gX3_worked (d + 1) [(0, 0, x0), (0, 0, x1), (0, 0, x2)] M ((ax_qi (-2147483648) 2147483647 M) (f_X3_worked x0 x1 x2 M)) := by
  refine ax_body (by decide) (fun X => Nat.le_of_ble_eq_true rfl) (fun hok => ?_)
  have hr_x0 : (-2147483648) ≤ x0 ∧ x0 ≤ 2147483647 := hok (0, 0, x0) (by simp)
  have hr_x1 : (-2147483648) ≤ x1 ∧ x1 ≤ 2147483647 := hok (0, 0, x1) (by simp)
  have hr_x2 : (-2147483648) ≤ x2 ∧ x2 ≤ 2147483647 := hok (0, 0, x2) (by simp)
  show ax_W ax_LM gX3_worked (d + 1) 0 [(0, (0, 0, x0)), (1, (0, 0, x1)), (2, (0, 0, x2))] [] M _
  unfold f_X3_worked
  refine ax_lump ax_layM ok_kX3 [(0, .iload_n 0, 1, 0, 0, 0)] (pc' := 1) (lc' := [(0, (0, 0, x0)), (1, (0, 0, x1)), (2, (0, 0, x2))]) (st' := [(0, 0, x0)]) (M' := M) (C' := True) (by decide +kernel) rfl trivial ?_
  refine ax_ite (fun h1 => ?_) (fun h1 => ?_)
  · refine ax_swIn (dflt := 93) (lo := 0) (hi := 5) (off := 39) (offs := #[39, 53, 67, 81, 85, 89]) (len := 39) (tgt := 40) (by decide +kernel) (by omega) (by omega) (by rw [h1]; rfl) (by decide) ?_
    refine ax_lump ax_layM ok_kX3 [(40, .iload_n 1, 1, 0, 0, 0), (41, .iload_n 2, 1, 0, 0, 0)] (pc' := 42) (lc' := [(0, (0, 0, x0)), (1, (0, 0, x1)), (2, (0, 0, x2))]) (st' := [(0, 0, x2), (0, 0, x1)]) (M' := M) (C' := True) (by decide +kernel) rfl trivial ?_
    refine ax_jge (off := 7) (tgt := 49) (by decide +kernel) (by decide) (fun h2 => ?_) (fun h2 => ?_)
    · refine ax_lump ax_layM ok_kX3 [(49, .iconst 0, 1, 0, 0, 0)] (pc' := 50) (lc' := [(0, (0, 0, x0)), (1, (0, 0, x1)), (2, (0, 0, x2))]) (st' := [(0, 0, 0)]) (M' := M) (C' := True) (by decide +kernel) rfl trivial ?_
      refine ax_cSi (G1 := gX3_flag) (d1 := d + 0) (i := 44) (n := 1) (as := [(0, 0, 0)]) (st := []) (by decide +kernel) calX3_flag (by omega) rfl wt_904 wt_905 (Nat.le_of_ble_eq_true rfl) rfl (c_X3_flag d 0 M (by omega)) (fun hc3 => ?_)
      refine ax_rngS (fun hr => ?_)
      exact ax_iret (by decide +kernel) rfl ⟨rfl, rfl, hr.1, hr.2⟩
    · refine ax_lump ax_layM ok_kX3 [(45, .iconst 1, 1, 0, 0, 0), (46, .goto 4, 3, 50, 0, 0)] (pc' := 50) (lc' := [(0, (0, 0, x0)), (1, (0, 0, x1)), (2, (0, 0, x2))]) (st' := [(0, 0, 1)]) (M' := M) (C' := True) (by decide +kernel) rfl trivial ?_
      refine ax_cSi (G1 := gX3_flag) (d1 := d + 0) (i := 44) (n := 1) (as := [(0, 0, 1)]) (st := []) (by decide +kernel) calX3_flag (by omega) rfl wt_904 wt_905 (Nat.le_of_ble_eq_true rfl) rfl (c_X3_flag d 1 M (by omega)) (fun hc4 => ?_)
      refine ax_rngS (fun hr => ?_)
      exact ax_iret (by decide +kernel) rfl ⟨rfl, rfl, hr.1, hr.2⟩
  · refine ax_ite (fun h5 => ?_) (fun h5 => ?_)
    · refine ax_swIn (dflt := 93) (lo := 0) (hi := 5) (off := 53) (offs := #[39, 53, 67, 81, 85, 89]) (len := 39) (tgt := 54) (by decide +kernel) (by omega) (by omega) (by rw [h5]; rfl) (by decide) ?_
      refine ax_lump ax_layM ok_kX3 [(54, .iload_n 1, 1, 0, 0, 0), (55, .iload_n 2, 1, 0, 0, 0)] (pc' := 56) (lc' := [(0, (0, 0, x0)), (1, (0, 0, x1)), (2, (0, 0, x2))]) (st' := [(0, 0, x2), (0, 0, x1)]) (M' := M) (C' := True) (by decide +kernel) rfl trivial ?_
      refine ax_jle (off := 7) (tgt := 63) (by decide +kernel) (by decide) (fun h6 => ?_) (fun h6 => ?_)
      · refine ax_lump ax_layM ok_kX3 [(63, .iconst 0, 1, 0, 0, 0)] (pc' := 64) (lc' := [(0, (0, 0, x0)), (1, (0, 0, x1)), (2, (0, 0, x2))]) (st' := [(0, 0, 0)]) (M' := M) (C' := True) (by decide +kernel) rfl trivial ?_
        refine ax_cSi (G1 := gX3_flag) (d1 := d + 0) (i := 44) (n := 1) (as := [(0, 0, 0)]) (st := []) (by decide +kernel) calX3_flag (by omega) rfl wt_904 wt_905 (Nat.le_of_ble_eq_true rfl) rfl (c_X3_flag d 0 M (by omega)) (fun hc7 => ?_)
        refine ax_rngS (fun hr => ?_)
        exact ax_iret (by decide +kernel) rfl ⟨rfl, rfl, hr.1, hr.2⟩
      · refine ax_lump ax_layM ok_kX3 [(59, .iconst 1, 1, 0, 0, 0), (60, .goto 4, 3, 64, 0, 0)] (pc' := 64) (lc' := [(0, (0, 0, x0)), (1, (0, 0, x1)), (2, (0, 0, x2))]) (st' := [(0, 0, 1)]) (M' := M) (C' := True) (by decide +kernel) rfl trivial ?_
        refine ax_cSi (G1 := gX3_flag) (d1 := d + 0) (i := 44) (n := 1) (as := [(0, 0, 1)]) (st := []) (by decide +kernel) calX3_flag (by omega) rfl wt_904 wt_905 (Nat.le_of_ble_eq_true rfl) rfl (c_X3_flag d 1 M (by omega)) (fun hc8 => ?_)
        refine ax_rngS (fun hr => ?_)
        exact ax_iret (by decide +kernel) rfl ⟨rfl, rfl, hr.1, hr.2⟩
    · refine ax_ite (fun h9 => ?_) (fun h9 => ?_)
      · refine ax_swIn (dflt := 93) (lo := 0) (hi := 5) (off := 67) (offs := #[39, 53, 67, 81, 85, 89]) (len := 39) (tgt := 68) (by decide +kernel) (by omega) (by omega) (by rw [h9]; rfl) (by decide) ?_
        refine ax_lump ax_layM ok_kX3 [(68, .iload_n 1, 1, 0, 0, 0), (69, .iload_n 2, 1, 0, 0, 0)] (pc' := 70) (lc' := [(0, (0, 0, x0)), (1, (0, 0, x1)), (2, (0, 0, x2))]) (st' := [(0, 0, x2), (0, 0, x1)]) (M' := M) (C' := True) (by decide +kernel) rfl trivial ?_
        refine ax_jne (off := 7) (tgt := 77) (by decide +kernel) (by decide) (fun h10 => ?_) (fun h10 => ?_)
        · refine ax_lump ax_layM ok_kX3 [(77, .iconst 0, 1, 0, 0, 0)] (pc' := 78) (lc' := [(0, (0, 0, x0)), (1, (0, 0, x1)), (2, (0, 0, x2))]) (st' := [(0, 0, 0)]) (M' := M) (C' := True) (by decide +kernel) rfl trivial ?_
          refine ax_cSi (G1 := gX3_flag) (d1 := d + 0) (i := 44) (n := 1) (as := [(0, 0, 0)]) (st := []) (by decide +kernel) calX3_flag (by omega) rfl wt_904 wt_905 (Nat.le_of_ble_eq_true rfl) rfl (c_X3_flag d 0 M (by omega)) (fun hc11 => ?_)
          refine ax_rngS (fun hr => ?_)
          exact ax_iret (by decide +kernel) rfl ⟨rfl, rfl, hr.1, hr.2⟩
        · refine ax_lump ax_layM ok_kX3 [(73, .iconst 1, 1, 0, 0, 0), (74, .goto 4, 3, 78, 0, 0)] (pc' := 78) (lc' := [(0, (0, 0, x0)), (1, (0, 0, x1)), (2, (0, 0, x2))]) (st' := [(0, 0, 1)]) (M' := M) (C' := True) (by decide +kernel) rfl trivial ?_
          refine ax_cSi (G1 := gX3_flag) (d1 := d + 0) (i := 44) (n := 1) (as := [(0, 0, 1)]) (st := []) (by decide +kernel) calX3_flag (by omega) rfl wt_904 wt_905 (Nat.le_of_ble_eq_true rfl) rfl (c_X3_flag d 1 M (by omega)) (fun hc12 => ?_)
          refine ax_rngS (fun hr => ?_)
          exact ax_iret (by decide +kernel) rfl ⟨rfl, rfl, hr.1, hr.2⟩
      · refine ax_ite (fun h13 => ?_) (fun h13 => ?_)
        · refine ax_swIn (dflt := 93) (lo := 0) (hi := 5) (off := 81) (offs := #[39, 53, 67, 81, 85, 89]) (len := 39) (tgt := 82) (by decide +kernel) (by omega) (by omega) (by rw [h13]; rfl) (by decide) ?_
          refine ax_lump ax_layM ok_kX3 [(82, .iload_n 1, 1, 0, 0, 0), (83, .iload_n 2, 1, 0, 0, 0), (84, .iadd, 1, 0, 0, 0)] (pc' := 85) (lc' := [(0, (0, 0, x0)), (1, (0, 0, x1)), (2, (0, 0, x2))]) (st' := [(0, 0, (ax_wr (x1 + x2)))]) (M' := M) (C' := True) (by decide +kernel) rfl trivial ?_
          refine ax_rngS (fun hr => ?_)
          exact ax_iret (by decide +kernel) rfl ⟨rfl, rfl, hr.1, hr.2⟩
        · refine ax_ite (fun h14 => ?_) (fun h14 => ?_)
          · refine ax_swIn (dflt := 93) (lo := 0) (hi := 5) (off := 85) (offs := #[39, 53, 67, 81, 85, 89]) (len := 39) (tgt := 86) (by decide +kernel) (by omega) (by omega) (by rw [h14]; rfl) (by decide) ?_
            refine ax_lump ax_layM ok_kX3 [(86, .iload_n 1, 1, 0, 0, 0), (87, .iload_n 2, 1, 0, 0, 0), (88, .isub, 1, 0, 0, 0)] (pc' := 89) (lc' := [(0, (0, 0, x0)), (1, (0, 0, x1)), (2, (0, 0, x2))]) (st' := [(0, 0, (ax_wr (x1 - x2)))]) (M' := M) (C' := True) (by decide +kernel) rfl trivial ?_
            refine ax_rngS (fun hr => ?_)
            exact ax_iret (by decide +kernel) rfl ⟨rfl, rfl, hr.1, hr.2⟩
          · refine ax_ite (fun h15 => ?_) (fun h15 => ?_)
            · refine ax_swIn (dflt := 93) (lo := 0) (hi := 5) (off := 89) (offs := #[39, 53, 67, 81, 85, 89]) (len := 39) (tgt := 90) (by decide +kernel) (by omega) (by omega) (by rw [h15]; rfl) (by decide) ?_
              refine ax_lump ax_layM ok_kX3 [(90, .iload_n 1, 1, 0, 0, 0), (91, .iload_n 2, 1, 0, 0, 0), (92, .imul, 1, 0, 0, 0)] (pc' := 93) (lc' := [(0, (0, 0, x0)), (1, (0, 0, x1)), (2, (0, 0, x2))]) (st' := [(0, 0, (ax_wr (x1 * x2)))]) (M' := M) (C' := True) (by decide +kernel) rfl trivial ?_
              refine ax_rngS (fun hr => ?_)
              exact ax_iret (by decide +kernel) rfl ⟨rfl, rfl, hr.1, hr.2⟩
            · refine ax_swOut (dflt := 93) (lo := 0) (hi := 5) (offs := #[39, 53, 67, 81, 85, 89]) (len := 39) (tgt := 94) (by decide +kernel) (by omega) (by decide) ?_
              refine ax_lump ax_layM ok_kX3 [(94, .iload_n 2, 1, 0, 0, 0)] (pc' := 95) (lc' := [(0, (0, 0, x0)), (1, (0, 0, x1)), (2, (0, 0, x2))]) (st' := [(0, 0, x2)]) (M' := M) (C' := True) (by decide +kernel) rfl trivial ?_
              refine ax_zne (off := 7) (tgt := 102) (by decide +kernel) (by decide) (fun h16 => ?_) (fun h16 => ?_)
              · refine ax_lump ax_layM ok_kX3 [(102, .iload_n 1, 1, 0, 0, 0), (103, .iload_n 2, 1, 0, 0, 0), (104, .idiv, 1, 0, 0, 0)] (pc' := 105) (lc' := [(0, (0, 0, x0)), (1, (0, 0, x1)), (2, (0, 0, x2))]) (st' := [(0, 0, (ax_div x1 x2))]) (M' := M) (C' := (True ∧ x2 ≠ 0)) (by decide +kernel) rfl ⟨trivial, by omega⟩ ?_
                refine ax_rngS (fun hr => ?_)
                exact ax_iret (by decide +kernel) rfl ⟨rfl, rfl, hr.1, hr.2⟩
              · refine ax_lump ax_layM ok_kX3 [(98, .iconst 0, 1, 0, 0, 0), (99, .goto 6, 3, 105, 0, 0)] (pc' := 105) (lc' := [(0, (0, 0, x0)), (1, (0, 0, x1)), (2, (0, 0, x2))]) (st' := [(0, 0, 0)]) (M' := M) (C' := True) (by decide +kernel) rfl trivial ?_
                refine ax_rngS (fun hr => ?_)
                exact ax_iret (by decide +kernel) rfl ⟨rfl, rfl, hr.1, hr.2⟩
def f_X3_ruled_B4  (v1 : Int) (v2 : Int) (M : ax_M) (kc : Int → Int → ax_M → Prop × Int × ax_M) (kx : ax_M → Prop × Int × ax_M) : Prop × Int × ax_M := (if (M 0 10) ≤ v2 then kx M else ax_rq ((0 ≤ v2 ∧ v2 < ((80 : Nat) : Int))) (ax_bd (M 3 v2.toNat) (fun y4 => (if y4 ≠ 3000 then (if y4 < 2000 then (if y4 < 1000 then ax_rq ((0 ≤ v1 ∧ v1 < ((80 : Nat) : Int))) (ax_bd (ax_up M 5 v1.toNat y4) (fun M9 => kc (ax_wr (v1 + 1)) (v2 + 1) M9)) else ax_rq ((0 ≤ (y4 - 1000) ∧ (y4 - 1000) < ((6 : Nat) : Int))) (ax_rq ((0 ≤ v1 ∧ v1 < ((80 : Nat) : Int))) (ax_bd (ax_up M 5 v1.toNat (M 6 (y4 - 1000).toNat)) (fun M14 => kc (ax_wr (v1 + 1)) (v2 + 1) M14)))) else ax_rq ((0 ≤ (ax_wr ((ax_wr (v1 + (-1))) - 1)) ∧ (ax_wr ((ax_wr (v1 + (-1))) - 1)) < ((80 : Nat) : Int))) (ax_rq ((0 ≤ (ax_wr (v1 + (-1))) ∧ (ax_wr (v1 + (-1))) < ((80 : Nat) : Int))) (ax_rq ((0 ≤ (ax_wr ((ax_wr (v1 + (-1))) - 1)) ∧ (ax_wr ((ax_wr (v1 + (-1))) - 1)) < ((80 : Nat) : Int))) (ax_bd (ax_up M 5 (ax_wr ((ax_wr (v1 + (-1))) - 1)).toNat (f_X3_worked (y4 - 2000) (M 5 (ax_wr ((ax_wr (v1 + (-1))) - 1)).toNat) (M 5 (ax_wr (v1 + (-1))).toNat) M)) (fun M22 => kc (ax_wr (v1 + (-1))) (v2 + 1) M22))))) else ax_rq ((0 ≤ (ax_wr (v1 - 1)) ∧ (ax_wr (v1 - 1)) < ((80 : Nat) : Int))) (ax_rq ((0 ≤ (ax_wr (v1 - 1)) ∧ (ax_wr (v1 - 1)) < ((80 : Nat) : Int))) (ax_bd (ax_up M 5 (ax_wr (v1 - 1)).toNat (ax_wr (-(M 5 (ax_wr (v1 - 1)).toNat)))) (fun M27 => kc v1 (v2 + 1) M27)))))))
def f_X3_ruled_L4  : Nat → Int → Int → ax_M → (ax_M → Prop × Int × ax_M) → Prop × Int × ax_M
  | 0, _, _, _, _ => (False, (0, fun _ _ => 0))
  | n + 1, v1, v2, M, kx => f_X3_ruled_B4  v1 v2 M (fun u1 u2 M9 => f_X3_ruled_L4  n  u1 u2 M9 kx) kx
set_option maxRecDepth 100000 in
set_option maxHeartbeats 4000000 in
theorem wb_X3_ruled_B4 (d : Nat)  (v1 : Int) (v2 : Int) (M : ax_M) (kc : Int → Int → ax_M → Prop × Int × ax_M) (kx : ax_M → Prop × Int × ax_M)    (hkc : ∀ (u1 : Int) (u2 : Int) (M9 : ax_M), (kc u1 u2 M9).1 → ax_W ax_LM gX3_ruled (d + 2) 4 [(0, (2, 3, 0)), (1, (0, 0, u1)), (2, (0, 0, u2))] [] M9 ((ax_qm (-2147483648) 2147483647) (kc u1 u2 M9).2)) (hkx : ∀ (M9 : ax_M), (True) → (kx M9).1 → ax_W ax_LM gX3_ruled (d + 2) 125 [(0, (2, 3, 0))] [] M9 ((ax_qm (-2147483648) 2147483647) (kx M9).2)) (hX : (f_X3_ruled_B4  v1 v2 M kc kx).1) : ax_W ax_LM gX3_ruled (d + 2) 4 [(0, (2, 3, 0)), (1, (0, 0, v1)), (2, (0, 0, v2))] [] M ((ax_qm (-2147483648) 2147483647) (f_X3_ruled_B4  v1 v2 M kc kx).2) := by
  unfold f_X3_ruled_B4 at hX ⊢
  refine ax_fact (i := 0) (c := 3) (f := 10) (hi := 80) (s := 0) (by simp) rfl rfl rfl (fun hf1 => ?_)
  have hf1 : 0 ≤ (M 0 10) ∧ (M 0 10) ≤ 80 := hf1
  refine ax_lump ax_layM ok_kX3 [(4, .iload_n 2, 1, 0, 0, 0), (5, .aload_n 0, 1, 0, 0, 0), (6, .getfield 109, 3, 3, 10, 0)] (pc' := 9) (lc' := [(0, (2, 3, 0)), (1, (0, 0, v1)), (2, (0, 0, v2))]) (st' := [(0, 0, (M 0 10)), (0, 0, v2)]) (M' := M) (C' := True) (by decide +kernel) rfl trivial ?_
  refine ax_jge_s hX (off := 116) (tgt := 125) (by decide +kernel) (by decide) (fun h2 hX => ?_) (fun h2 hX => ?_)
  · refine ax_pk [0] (lc' := [(0, (2, 3, 0))]) rfl ?_
    exact hkx M trivial hX
  · refine ax_rq_s hX (fun hS3 hX => ?_)
    refine ax_lump ax_layM ok_kX3 [(12, .aload_n 0, 1, 0, 0, 0), (13, .getfield 112, 3, 3, 8, 0), (16, .iload_n 2, 1, 0, 0, 0), (17, .iaload, 1, 0, 0, 0), (18, .istore_n 3, 1, 0, 0, 0)] (pc' := 19) (lc' := [(3, (0, 0, (M 3 v2.toNat))), (0, (2, 3, 0)), (1, (0, 0, v1)), (2, (0, 0, v2))]) (st' := []) (M' := M) (C' := (True ∧ (0 ≤ v2 ∧ v2 < ((80 : Nat) : Int)))) (by decide +kernel) rfl ⟨trivial, hS3⟩ ?_
    refine ax_bdI0_s hX (e := (M 3 v2.toNat)) (fun y4 => [(3, (0, 0, y4)), (0, (2, 3, 0)), (1, (0, 0, v1)), (2, (0, 0, v2))]) (fun y4 => []) (fun y4 hX => ?_)
    refine ax_lump ax_layM ok_kX3 [(19, .iload_n 3, 1, 0, 0, 0), (20, .sipush 3000, 3, 0, 0, 0)] (pc' := 23) (lc' := [(3, (0, 0, y4)), (0, (2, 3, 0)), (1, (0, 0, v1)), (2, (0, 0, v2))]) (st' := [(0, 0, 3000), (0, 0, y4)]) (M' := M) (C' := True) (by decide +kernel) rfl trivial ?_
    refine ax_jne_s hX (off := 23) (tgt := 46) (by decide +kernel) (by decide) (fun h5 hX => ?_) (fun h5 hX => ?_)
    · refine ax_lump ax_layM ok_kX3 [(46, .iload_n 3, 1, 0, 0, 0), (47, .sipush 2000, 3, 0, 0, 0)] (pc' := 50) (lc' := [(3, (0, 0, y4)), (0, (2, 3, 0)), (1, (0, 0, v1)), (2, (0, 0, v2))]) (st' := [(0, 0, 2000), (0, 0, y4)]) (M' := M) (C' := True) (by decide +kernel) rfl trivial ?_
      refine ax_jlt_s hX (off := 39) (tgt := 89) (by decide +kernel) (by decide) (fun h6 hX => ?_) (fun h6 hX => ?_)
      · refine ax_lump ax_layM ok_kX3 [(89, .aload_n 0, 1, 0, 0, 0), (90, .getfield 122, 3, 3, 12, 0), (93, .iload_n 1, 1, 0, 0, 0), (94, .iload_n 3, 1, 0, 0, 0), (95, .sipush 1000, 3, 0, 0, 0)] (pc' := 98) (lc' := [(3, (0, 0, y4)), (0, (2, 3, 0)), (1, (0, 0, v1)), (2, (0, 0, v2))]) (st' := [(0, 0, 1000), (0, 0, y4), (0, 0, v1), (3, 80, 5)]) (M' := M) (C' := True) (by decide +kernel) rfl trivial ?_
        refine ax_jlt_s hX (off := 16) (tgt := 114) (by decide +kernel) (by decide) (fun h7 hX => ?_) (fun h7 hX => ?_)
        · refine ax_rq_s hX (fun hS8 hX => ?_)
          refine ax_lump ax_layM ok_kX3 [(114, .iload_n 3, 1, 0, 0, 0), (115, .iastore, 1, 0, 0, 0)] (pc' := 116) (lc' := [(3, (0, 0, y4)), (0, (2, 3, 0)), (1, (0, 0, v1)), (2, (0, 0, v2))]) (st' := []) (M' := (ax_up M 5 v1.toNat y4)) (C' := (True ∧ (0 ≤ v1 ∧ v1 < ((80 : Nat) : Int)))) (by decide +kernel) rfl ⟨trivial, hS8⟩ ?_
          refine ax_bdMe_s hX (fun M9 hM_M9 hX => ?_)
          have hk_k10 : (M9 0 10) = (M 0 10) := by rw [hM_M9]; exact ax_up_o1 (by omega)
          refine ax_rngL (i := 2) (u := 0) (n := v2) (by simp) (fun hq11 => ?_)
          have hq11 : (-2147483648) ≤ v2 ∧ v2 ≤ 2147483647 := hq11
          refine ax_lump ax_layM ok_kX3 [(116, .iinc 1 1, 3, 0, 0, 0), (119, .iinc 2 1, 3, 1, 0, 0), (122, .goto (-118), 3, 4, 0, 0)] (pc' := 4) (lc' := [(2, (0, 0, (v2 + 1))), (1, (0, 0, (ax_wr (v1 + 1)))), (3, (0, 0, y4)), (0, (2, 3, 0))]) (st' := []) (M' := M9) (C' := (True ∧ ax_r32 (v2 + 1))) (by decide +kernel) rfl ⟨trivial, ⟨by omega, by omega⟩⟩ ?_
          refine ax_pk [3,1,0] (lc' := [(0, (2, 3, 0)), (1, (0, 0, (ax_wr (v1 + 1)))), (2, (0, 0, (v2 + 1)))]) rfl ?_
          exact hkc (ax_wr (v1 + 1)) (v2 + 1) M9  hX
        · refine ax_rq_s hX (fun hS12 hX => ?_)
          refine ax_rq_s hX (fun hS13 hX => ?_)
          refine ax_lump ax_layM ok_kX3 [(101, .aload_n 0, 1, 0, 0, 0), (102, .getfield 129, 3, 3, 13, 0), (105, .iload_n 3, 1, 0, 0, 0), (106, .sipush 1000, 3, 0, 0, 0), (109, .isub, 1, 1, 0, 0), (110, .iaload, 1, 0, 0, 0), (111, .goto 4, 3, 115, 0, 0), (115, .iastore, 1, 0, 0, 0)] (pc' := 116) (lc' := [(3, (0, 0, y4)), (0, (2, 3, 0)), (1, (0, 0, v1)), (2, (0, 0, v2))]) (st' := []) (M' := (ax_up M 5 v1.toNat (M 6 (y4 - 1000).toNat))) (C' := (((True ∧ ax_r32 (y4 - 1000)) ∧ (0 ≤ (y4 - 1000) ∧ (y4 - 1000) < ((6 : Nat) : Int))) ∧ (0 ≤ v1 ∧ v1 < ((80 : Nat) : Int)))) (by decide +kernel) rfl ⟨⟨⟨trivial, ⟨by omega, by omega⟩⟩, hS12⟩, hS13⟩ ?_
          refine ax_bdMe_s hX (fun M14 hM_M14 hX => ?_)
          have hk_k15 : (M14 0 10) = (M 0 10) := by rw [hM_M14]; exact ax_up_o1 (by omega)
          refine ax_rngL (i := 2) (u := 0) (n := v2) (by simp) (fun hq16 => ?_)
          have hq16 : (-2147483648) ≤ v2 ∧ v2 ≤ 2147483647 := hq16
          refine ax_lump ax_layM ok_kX3 [(116, .iinc 1 1, 3, 0, 0, 0), (119, .iinc 2 1, 3, 1, 0, 0), (122, .goto (-118), 3, 4, 0, 0)] (pc' := 4) (lc' := [(2, (0, 0, (v2 + 1))), (1, (0, 0, (ax_wr (v1 + 1)))), (3, (0, 0, y4)), (0, (2, 3, 0))]) (st' := []) (M' := M14) (C' := (True ∧ ax_r32 (v2 + 1))) (by decide +kernel) rfl ⟨trivial, ⟨by omega, by omega⟩⟩ ?_
          refine ax_pk [3,1,0] (lc' := [(0, (2, 3, 0)), (1, (0, 0, (ax_wr (v1 + 1)))), (2, (0, 0, (v2 + 1)))]) rfl ?_
          exact hkc (ax_wr (v1 + 1)) (v2 + 1) M14  hX
      · refine ax_rq_s hX (fun hS18 hX => ?_)
        refine ax_rq_s hX (fun hS19 hX => ?_)
        refine ax_rngL (i := 3) (u := 0) (n := y4) (by simp) (fun hq17 => ?_)
        have hq17 : (-2147483648) ≤ y4 ∧ y4 ≤ 2147483647 := hq17
        refine ax_lump ax_layM ok_kX3 [(53, .iinc 1 (-1), 3, 0, 0, 0), (56, .aload_n 0, 1, 0, 0, 0), (57, .getfield 122, 3, 3, 12, 0), (60, .iload_n 1, 1, 0, 0, 0), (61, .iconst 1, 1, 0, 0, 0), (62, .isub, 1, 0, 0, 0), (63, .iload_n 3, 1, 0, 0, 0), (64, .sipush 2000, 3, 0, 0, 0), (67, .isub, 1, 1, 0, 0), (68, .aload_n 0, 1, 0, 0, 0), (69, .getfield 122, 3, 3, 12, 0), (72, .iload_n 1, 1, 0, 0, 0), (73, .iconst 1, 1, 0, 0, 0), (74, .isub, 1, 0, 0, 0), (75, .iaload, 1, 0, 0, 0), (76, .aload_n 0, 1, 0, 0, 0), (77, .getfield 122, 3, 3, 12, 0), (80, .iload_n 1, 1, 0, 0, 0), (81, .iaload, 1, 0, 0, 0)] (pc' := 82) (lc' := [(1, (0, 0, (ax_wr (v1 + (-1))))), (3, (0, 0, y4)), (0, (2, 3, 0)), (2, (0, 0, v2))]) (st' := [(0, 0, (M 5 (ax_wr (v1 + (-1))).toNat)), (0, 0, (M 5 (ax_wr ((ax_wr (v1 + (-1))) - 1)).toNat)), (0, 0, (y4 - 2000)), (0, 0, (ax_wr ((ax_wr (v1 + (-1))) - 1))), (3, 80, 5)]) (M' := M) (C' := (((True ∧ ax_r32 (y4 - 2000)) ∧ (0 ≤ (ax_wr ((ax_wr (v1 + (-1))) - 1)) ∧ (ax_wr ((ax_wr (v1 + (-1))) - 1)) < ((80 : Nat) : Int))) ∧ (0 ≤ (ax_wr (v1 + (-1))) ∧ (ax_wr (v1 + (-1))) < ((80 : Nat) : Int)))) (by decide +kernel) rfl ⟨⟨⟨trivial, ⟨by omega, by omega⟩⟩, hS18⟩, hS19⟩ ?_
        refine ax_cSi (G1 := gX3_worked) (d1 := d + 1) (i := 125) (n := 3) (as := [(0, 0, (y4 - 2000)), (0, 0, (M 5 (ax_wr ((ax_wr (v1 + (-1))) - 1)).toNat)), (0, 0, (M 5 (ax_wr (v1 + (-1))).toNat))]) (st := [(0, 0, (ax_wr ((ax_wr (v1 + (-1))) - 1))), (3, 80, 5)]) (by decide +kernel) calX3_worked (by omega) rfl wt_1246 wt_1247 (Nat.le_of_ble_eq_true rfl) rfl (c_X3_worked d (y4 - 2000) (M 5 (ax_wr ((ax_wr (v1 + (-1))) - 1)).toNat) (M 5 (ax_wr (v1 + (-1))).toNat) M) (fun hc20 => ?_)
        refine ax_rq_s hX (fun hS21 hX => ?_)
        refine ax_lump ax_layM ok_kX3 [(85, .iastore, 1, 0, 0, 0)] (pc' := 86) (lc' := [(1, (0, 0, (ax_wr (v1 + (-1))))), (3, (0, 0, y4)), (0, (2, 3, 0)), (2, (0, 0, v2))]) (st' := []) (M' := (ax_up M 5 (ax_wr ((ax_wr (v1 + (-1))) - 1)).toNat (f_X3_worked (y4 - 2000) (M 5 (ax_wr ((ax_wr (v1 + (-1))) - 1)).toNat) (M 5 (ax_wr (v1 + (-1))).toNat) M))) (C' := (True ∧ (0 ≤ (ax_wr ((ax_wr (v1 + (-1))) - 1)) ∧ (ax_wr ((ax_wr (v1 + (-1))) - 1)) < ((80 : Nat) : Int)))) (by decide +kernel) rfl ⟨trivial, hS21⟩ ?_
        refine ax_bdMe_s hX (fun M22 hM_M22 hX => ?_)
        have hk_k23 : (M22 0 10) = (M 0 10) := by rw [hM_M22]; exact ax_up_o1 (by omega)
        refine ax_rngL (i := 2) (u := 0) (n := v2) (by simp) (fun hq24 => ?_)
        have hq24 : (-2147483648) ≤ v2 ∧ v2 ≤ 2147483647 := hq24
        refine ax_lump ax_layM ok_kX3 [(86, .goto 33, 3, 119, 0, 0), (119, .iinc 2 1, 3, 1, 0, 0), (122, .goto (-118), 3, 4, 0, 0)] (pc' := 4) (lc' := [(2, (0, 0, (v2 + 1))), (1, (0, 0, (ax_wr (v1 + (-1))))), (3, (0, 0, y4)), (0, (2, 3, 0))]) (st' := []) (M' := M22) (C' := (True ∧ ax_r32 (v2 + 1))) (by decide +kernel) rfl ⟨trivial, ⟨by omega, by omega⟩⟩ ?_
        refine ax_pk [3,1,0] (lc' := [(0, (2, 3, 0)), (1, (0, 0, (ax_wr (v1 + (-1))))), (2, (0, 0, (v2 + 1)))]) rfl ?_
        exact hkc (ax_wr (v1 + (-1))) (v2 + 1) M22  hX
    · refine ax_rq_s hX (fun hS25 hX => ?_)
      refine ax_rq_s hX (fun hS26 hX => ?_)
      refine ax_lump ax_layM ok_kX3 [(26, .aload_n 0, 1, 0, 0, 0), (27, .getfield 122, 3, 3, 12, 0), (30, .iload_n 1, 1, 0, 0, 0), (31, .iconst 1, 1, 0, 0, 0), (32, .isub, 1, 0, 0, 0), (33, .aload_n 0, 1, 0, 0, 0), (34, .getfield 122, 3, 3, 12, 0), (37, .iload_n 1, 1, 0, 0, 0), (38, .iconst 1, 1, 0, 0, 0), (39, .isub, 1, 0, 0, 0), (40, .iaload, 1, 0, 0, 0), (41, .ineg, 1, 0, 0, 0), (42, .iastore, 1, 0, 0, 0)] (pc' := 43) (lc' := [(3, (0, 0, y4)), (0, (2, 3, 0)), (1, (0, 0, v1)), (2, (0, 0, v2))]) (st' := []) (M' := (ax_up M 5 (ax_wr (v1 - 1)).toNat (ax_wr (-(M 5 (ax_wr (v1 - 1)).toNat))))) (C' := ((True ∧ (0 ≤ (ax_wr (v1 - 1)) ∧ (ax_wr (v1 - 1)) < ((80 : Nat) : Int))) ∧ (0 ≤ (ax_wr (v1 - 1)) ∧ (ax_wr (v1 - 1)) < ((80 : Nat) : Int)))) (by decide +kernel) rfl ⟨⟨trivial, hS25⟩, hS26⟩ ?_
      refine ax_bdMe_s hX (fun M27 hM_M27 hX => ?_)
      have hk_k28 : (M27 0 10) = (M 0 10) := by rw [hM_M27]; exact ax_up_o1 (by omega)
      refine ax_rngL (i := 2) (u := 0) (n := v2) (by simp) (fun hq29 => ?_)
      have hq29 : (-2147483648) ≤ v2 ∧ v2 ≤ 2147483647 := hq29
      refine ax_lump ax_layM ok_kX3 [(43, .goto 76, 3, 119, 0, 0), (119, .iinc 2 1, 3, 1, 0, 0), (122, .goto (-118), 3, 4, 0, 0)] (pc' := 4) (lc' := [(2, (0, 0, (v2 + 1))), (3, (0, 0, y4)), (0, (2, 3, 0)), (1, (0, 0, v1))]) (st' := []) (M' := M27) (C' := (True ∧ ax_r32 (v2 + 1))) (by decide +kernel) rfl ⟨trivial, ⟨by omega, by omega⟩⟩ ?_
      refine ax_pk [2,3,0] (lc' := [(0, (2, 3, 0)), (1, (0, 0, v1)), (2, (0, 0, (v2 + 1)))]) rfl ?_
      exact hkc v1 (v2 + 1) M27  hX
set_option maxRecDepth 100000 in
set_option maxHeartbeats 4000000 in
theorem w_X3_ruled_L4 (d : Nat)  (kx : ax_M → Prop × Int × ax_M)  (hkx : ∀ (M9 : ax_M), (True) → (kx M9).1 → ax_W ax_LM gX3_ruled (d + 2) 125 [(0, (2, 3, 0))] [] M9 ((ax_qm (-2147483648) 2147483647) (kx M9).2)) : ∀ (n : Nat) (v1 : Int) (v2 : Int) (M : ax_M), (f_X3_ruled_L4  n v1 v2 M kx).1 → ax_W ax_LM gX3_ruled (d + 2) 4 [(0, (2, 3, 0)), (1, (0, 0, v1)), (2, (0, 0, v2))] [] M ((ax_qm (-2147483648) 2147483647) (f_X3_ruled_L4  n v1 v2 M kx).2) := by
  intro n
  induction n with
  | zero =>
    intro v1 v2 M hX
    exact False.elim hX
  | succ n ih =>
    intro v1 v2 M hX
    exact wb_X3_ruled_B4 d  v1 v2 M _ kx    (fun u1 u2 M9 hX => ih u1 u2 M9   hX) hkx hX
def f_X3_ruled  (M : ax_M) : Prop × Int × ax_M := f_X3_ruled_L4  100  0 0 M (fun M30 => (if (M30 0 10) ≠ 0 then (True, ((M30 5 0), M30)) else (if (M30 6 0) ≤ 4 then (True, ((f_X3_flag 0 M30), M30)) else (True, ((f_X3_flag 1 M30), M30)))))
set_option maxRecDepth 100000 in
set_option maxHeartbeats 4000000 in
theorem c_X3_ruled (d : Nat)  (M : ax_M)  (hX : (f_X3_ruled  M).1) : ax_Met ax_LM gX3_ruled (d + 2) [(2, 3, 0)] M ((ax_qm (-2147483648) 2147483647) (f_X3_ruled  M).2) := by
  refine ax_body (by decide) (fun X => Nat.le_of_ble_eq_true rfl) (fun hok => ?_)
  show ax_W ax_LM gX3_ruled (d + 2) 0 [(0, (2, 3, 0))] [] M _
  unfold f_X3_ruled at hX ⊢
  refine ax_lump ax_layM ok_kX3 [(0, .iconst 0, 1, 0, 0, 0), (1, .istore_n 1, 1, 0, 0, 0), (2, .iconst 0, 1, 0, 0, 0), (3, .istore_n 2, 1, 0, 0, 0)] (pc' := 4) (lc' := [(2, (0, 0, 0)), (1, (0, 0, 0)), (0, (2, 3, 0))]) (st' := []) (M' := M) (C' := True) (by decide +kernel) rfl trivial ?_
  refine ax_pk [2,1,0] (lc' := [(0, (2, 3, 0)), (1, (0, 0, 0)), (2, (0, 0, 0))]) rfl ?_
  refine w_X3_ruled_L4 d  _  (fun M30 hx_30 hX => ?_) 100  0 0 M   hX
  refine ax_fact (i := 0) (c := 3) (f := 10) (hi := 80) (s := 0) (by simp) rfl rfl rfl (fun hf31 => ?_)
  have hf31 : 0 ≤ (M30 0 10) ∧ (M30 0 10) ≤ 80 := hf31
  refine ax_lump ax_layM ok_kX3 [(125, .aload_n 0, 1, 0, 0, 0), (126, .getfield 109, 3, 3, 10, 0)] (pc' := 129) (lc' := [(0, (2, 3, 0))]) (st' := [(0, 0, (M30 0 10))]) (M' := M30) (C' := True) (by decide +kernel) rfl trivial ?_
  refine ax_zne_s hX (off := 24) (tgt := 153) (by decide +kernel) (by decide) (fun h32 hX => ?_) (fun h32 hX => ?_)
  · refine ax_lump ax_layM ok_kX3 [(153, .aload_n 0, 1, 0, 0, 0), (154, .getfield 122, 3, 3, 12, 0), (157, .iconst 0, 1, 0, 0, 0), (158, .iaload, 1, 0, 0, 0)] (pc' := 159) (lc' := [(0, (2, 3, 0))]) (st' := [(0, 0, (M30 5 0))]) (M' := M30) (C' := (True ∧ (0 ≤ 0 ∧ 0 < ((80 : Nat) : Int)))) (by decide +kernel) rfl ⟨trivial, by omega⟩ ?_
    refine ax_rngS (fun hr => ?_)
    exact ax_iret (by decide +kernel) rfl ⟨rfl, rfl, hr.1, hr.2⟩
  · refine ax_lump ax_layM ok_kX3 [(132, .aload_n 0, 1, 0, 0, 0), (133, .getfield 129, 3, 3, 13, 0), (136, .iconst 0, 1, 0, 0, 0), (137, .iaload, 1, 0, 0, 0), (138, .iconst 4, 1, 0, 0, 0)] (pc' := 139) (lc' := [(0, (2, 3, 0))]) (st' := [(0, 0, 4), (0, 0, (M30 6 0))]) (M' := M30) (C' := (True ∧ (0 ≤ 0 ∧ 0 < ((6 : Nat) : Int)))) (by decide +kernel) rfl ⟨trivial, by omega⟩ ?_
    refine ax_jle_s hX (off := 7) (tgt := 146) (by decide +kernel) (by decide) (fun h33 hX => ?_) (fun h33 hX => ?_)
    · refine ax_lump ax_layM ok_kX3 [(146, .iconst 0, 1, 0, 0, 0)] (pc' := 147) (lc' := [(0, (2, 3, 0))]) (st' := [(0, 0, 0)]) (M' := M30) (C' := True) (by decide +kernel) rfl trivial ?_
      refine ax_cSi (G1 := gX3_flag) (d1 := d + 0) (i := 44) (n := 1) (as := [(0, 0, 0)]) (st := []) (by decide +kernel) calX3_flag (by omega) rfl wt_904 wt_905 (Nat.le_of_ble_eq_true rfl) rfl (c_X3_flag d 0 M30 (by omega)) (fun hc34 => ?_)
      refine ax_lump ax_layM ok_kX3 [(150, .goto 9, 3, 159, 0, 0)] (pc' := 159) (lc' := [(0, (2, 3, 0))]) (st' := [(0, 0, (f_X3_flag 0 M30))]) (M' := M30) (C' := True) (by decide +kernel) rfl trivial ?_
      refine ax_rngS (fun hr => ?_)
      exact ax_iret (by decide +kernel) rfl ⟨rfl, rfl, hr.1, hr.2⟩
    · refine ax_lump ax_layM ok_kX3 [(142, .iconst 1, 1, 0, 0, 0), (143, .goto 4, 3, 147, 0, 0)] (pc' := 147) (lc' := [(0, (2, 3, 0))]) (st' := [(0, 0, 1)]) (M' := M30) (C' := True) (by decide +kernel) rfl trivial ?_
      refine ax_cSi (G1 := gX3_flag) (d1 := d + 0) (i := 44) (n := 1) (as := [(0, 0, 1)]) (st := []) (by decide +kernel) calX3_flag (by omega) rfl wt_904 wt_905 (Nat.le_of_ble_eq_true rfl) rfl (c_X3_flag d 1 M30 (by omega)) (fun hc35 => ?_)
      refine ax_lump ax_layM ok_kX3 [(150, .goto 9, 3, 159, 0, 0)] (pc' := 159) (lc' := [(0, (2, 3, 0))]) (st' := [(0, 0, (f_X3_flag 1 M30))]) (M' := M30) (C' := True) (by decide +kernel) rfl trivial ?_
      refine ax_rngS (fun hr => ?_)
      exact ax_iret (by decide +kernel) rfl ⟨rfl, rfl, hr.1, hr.2⟩
def f_X3_isBlock (x0 : Int) (M : ax_M) : Int := (f_X3_in x0 0 15 M)
set_option maxRecDepth 100000 in
set_option maxHeartbeats 4000000 in
theorem c_X3_isBlock (d : Nat) (x0 : Int) (M : ax_M)  : ax_Met ax_LM gX3_isBlock (d + 1) [(0, 0, x0)] M ((ax_qi 0 1 M) (f_X3_isBlock x0 M)) := by
  refine ax_body (by decide) (fun X => Nat.le_of_ble_eq_true rfl) (fun hok => ?_)
  have hr_x0 : (-2147483648) ≤ x0 ∧ x0 ≤ 2147483647 := hok (0, 0, x0) (by simp)
  show ax_W ax_LM gX3_isBlock (d + 1) 0 [(0, (0, 0, x0))] [] M _
  unfold f_X3_isBlock
  refine ax_lump ax_layM ok_kX3 [(0, .iload_n 0, 1, 0, 0, 0), (1, .i2l, 1, 0, 0, 0), (2, .lconst 0, 1, 0, 0, 0), (3, .ldc2_w 184, 3, 0, 0, 15)] (pc' := 6) (lc' := [(0, (0, 0, x0))]) (st' := [(1, 0, 15), (1, 0, 0), (1, 0, x0)]) (M' := M) (C' := True) (by decide +kernel) rfl trivial ?_
  refine ax_cSi (G1 := gX3_in) (d1 := d + 0) (i := 25) (n := 3) (as := [(1, 0, x0), (1, 0, 0), (1, 0, 15)]) (st := []) (by decide +kernel) calX3_in (by omega) rfl wt_875 wt_876 (Nat.le_of_ble_eq_true rfl) rfl (c_X3_in d x0 0 15 M) (fun hc1 => ?_)
  exact ax_zret (by decide +kernel) rfl (by omega) ⟨rfl, rfl, (show (0 : Int) ≤ (f_X3_in x0 0 15 M) from by omega), (show (f_X3_in x0 0 15 M) ≤ (1 : Int) from by omega)⟩
theorem g_X3_isBlock {v : Int} {M : ax_M} (h : ¬ f_X3_isBlock v M = 0) : 0 ≤ v ∧ v ≤ 15 := by
  unfold f_X3_isBlock at h
  exact g_X3_in h
def f_X3_isPage (x0 : Int) (M : ax_M) : Int := (f_X3_in x0 0 23 M)
set_option maxRecDepth 100000 in
set_option maxHeartbeats 4000000 in
theorem c_X3_isPage (d : Nat) (x0 : Int) (M : ax_M)  : ax_Met ax_LM gX3_isPage (d + 1) [(0, 0, x0)] M ((ax_qi 0 1 M) (f_X3_isPage x0 M)) := by
  refine ax_body (by decide) (fun X => Nat.le_of_ble_eq_true rfl) (fun hok => ?_)
  have hr_x0 : (-2147483648) ≤ x0 ∧ x0 ≤ 2147483647 := hok (0, 0, x0) (by simp)
  show ax_W ax_LM gX3_isPage (d + 1) 0 [(0, (0, 0, x0))] [] M _
  unfold f_X3_isPage
  refine ax_lump ax_layM ok_kX3 [(0, .iload_n 0, 1, 0, 0, 0), (1, .i2l, 1, 0, 0, 0), (2, .lconst 0, 1, 0, 0, 0), (3, .ldc2_w 186, 3, 0, 0, 23)] (pc' := 6) (lc' := [(0, (0, 0, x0))]) (st' := [(1, 0, 23), (1, 0, 0), (1, 0, x0)]) (M' := M) (C' := True) (by decide +kernel) rfl trivial ?_
  refine ax_cSi (G1 := gX3_in) (d1 := d + 0) (i := 25) (n := 3) (as := [(1, 0, x0), (1, 0, 0), (1, 0, 23)]) (st := []) (by decide +kernel) calX3_in (by omega) rfl wt_875 wt_876 (Nat.le_of_ble_eq_true rfl) rfl (c_X3_in d x0 0 23 M) (fun hc1 => ?_)
  exact ax_zret (by decide +kernel) rfl (by omega) ⟨rfl, rfl, (show (0 : Int) ≤ (f_X3_in x0 0 23 M) from by omega), (show (f_X3_in x0 0 23 M) ≤ (1 : Int) from by omega)⟩
theorem g_X3_isPage {v : Int} {M : ax_M} (h : ¬ f_X3_isPage v M = 0) : 0 ≤ v ∧ v ≤ 23 := by
  unfold f_X3_isPage at h
  exact g_X3_in h
def f_X3_pageAt (a0 : Nat) (x1 : Int) (M : ax_M) : Int := (ax_wr ((M a0 x1.toNat) - 1))
set_option maxRecDepth 100000 in
set_option maxHeartbeats 4000000 in
theorem c_X3_pageAt (d : Nat) (a0 : Nat) (x1 : Int) (M : ax_M) (hp1 : 0 ≤ x1 ∧ x1 ≤ 63) : ax_Met ax_LM gX3_pageAt (d + 0) [(3, 274, (a0 : Int)), (0, 0, x1)] M ((ax_qi (-2147483648) 2147483647 M) (f_X3_pageAt a0 x1 M)) := by
  refine ax_body (by decide) (fun X => Nat.le_of_ble_eq_true rfl) (fun hok => ?_)
  have hr_x1 : (-2147483648) ≤ x1 ∧ x1 ≤ 2147483647 := hok (0, 0, x1) (by simp)
  show ax_W ax_LM gX3_pageAt (d + 0) 0 [(0, (3, 274, (a0 : Int))), (1, (0, 0, x1))] [] M _
  unfold f_X3_pageAt
  refine ax_lump ax_layM ok_kX3 [(0, .aload_n 0, 1, 0, 0, 0), (1, .iload_n 1, 1, 0, 0, 0), (2, .iaload, 1, 0, 0, 0), (3, .iconst 1, 1, 0, 0, 0), (4, .isub, 1, 0, 0, 0)] (pc' := 5) (lc' := [(0, (3, 274, (a0 : Int))), (1, (0, 0, x1))]) (st' := [(0, 0, (ax_wr ((M a0 x1.toNat) - 1)))]) (M' := M) (C' := (True ∧ (0 ≤ x1 ∧ x1 < ((274 : Nat) : Int)))) (by decide +kernel) rfl ⟨trivial, by omega⟩ ?_
  refine ax_rngS (fun hr => ?_)
  exact ax_iret (by decide +kernel) rfl ⟨rfl, rfl, hr.1, hr.2⟩
def f_X3_isWritten (a0 : Nat) (x1 : Int) (M : ax_M) : Int := (if (M a0 x1.toNat) ≤ 0 then 0 else 1)
set_option maxRecDepth 100000 in
set_option maxHeartbeats 4000000 in
theorem c_X3_isWritten (d : Nat) (a0 : Nat) (x1 : Int) (M : ax_M) (hp1 : 0 ≤ x1 ∧ x1 ≤ 63) : ax_Met ax_LM gX3_isWritten (d + 0) [(3, 274, (a0 : Int)), (0, 0, x1)] M ((ax_qi 0 1 M) (f_X3_isWritten a0 x1 M)) := by
  refine ax_body (by decide) (fun X => Nat.le_of_ble_eq_true rfl) (fun hok => ?_)
  have hr_x1 : (-2147483648) ≤ x1 ∧ x1 ≤ 2147483647 := hok (0, 0, x1) (by simp)
  show ax_W ax_LM gX3_isWritten (d + 0) 0 [(0, (3, 274, (a0 : Int))), (1, (0, 0, x1))] [] M _
  unfold f_X3_isWritten
  refine ax_lump ax_layM ok_kX3 [(0, .aload_n 0, 1, 0, 0, 0), (1, .iload_n 1, 1, 0, 0, 0), (2, .iaload, 1, 0, 0, 0)] (pc' := 3) (lc' := [(0, (3, 274, (a0 : Int))), (1, (0, 0, x1))]) (st' := [(0, 0, (M a0 x1.toNat))]) (M' := M) (C' := (True ∧ (0 ≤ x1 ∧ x1 < ((274 : Nat) : Int)))) (by decide +kernel) rfl ⟨trivial, by omega⟩ ?_
  refine ax_zle (off := 7) (tgt := 10) (by decide +kernel) (by decide) (fun h1 => ?_) (fun h1 => ?_)
  · refine ax_lump ax_layM ok_kX3 [(10, .iconst 0, 1, 0, 0, 0)] (pc' := 11) (lc' := [(0, (3, 274, (a0 : Int))), (1, (0, 0, x1))]) (st' := [(0, 0, 0)]) (M' := M) (C' := True) (by decide +kernel) rfl trivial ?_
    exact ax_zret (by decide +kernel) rfl (by omega) ⟨rfl, rfl, (show (0 : Int) ≤ 0 from by omega), (show 0 ≤ (1 : Int) from by omega)⟩
  · refine ax_lump ax_layM ok_kX3 [(6, .iconst 1, 1, 0, 0, 0), (7, .goto 4, 3, 11, 0, 0)] (pc' := 11) (lc' := [(0, (3, 274, (a0 : Int))), (1, (0, 0, x1))]) (st' := [(0, 0, 1)]) (M' := M) (C' := True) (by decide +kernel) rfl trivial ?_
    exact ax_zret (by decide +kernel) rfl (by omega) ⟨rfl, rfl, (show (0 : Int) ≤ 1 from by omega), (show 1 ≤ (1 : Int) from by omega)⟩
def f_X3_blockOf_B2 (a0 : Nat) (w1 : Int) (w2 : Int) (M : ax_M) (i : Nat)  (kc : Unit → Int) (kx : Unit → Int) : Int := (if (M a0 (192 + (i : Int)).toNat) ≠ w1 then kc () else (if (M a0 (208 + (i : Int)).toNat) ≠ w2 then kc () else (i : Int)))
def f_X3_blockOf_L2 (a0 : Nat) (w1 : Int) (w2 : Int) (M : ax_M) : Nat → Nat → (Unit → Int) → Int
  | 0, i, kx => kx ()
  | n + 1, i, kx => f_X3_blockOf_B2 a0 w1 w2 M i  (fun _ => f_X3_blockOf_L2 a0 w1 w2 M n (i + 1)  kx) kx
set_option maxRecDepth 100000 in
set_option maxHeartbeats 4000000 in
theorem wb_X3_blockOf_B2 (d : Nat) (a0 : Nat) (w1 : Int) (w2 : Int) (M : ax_M) (i : Nat)  (kc : Unit → Int) (kx : Unit → Int)  (hi : 0 ≤ i ∧ i < 16)  (hkc : ∀ (_ : Unit), ax_W ax_LM gX3_blockOf (d + 0) 2 [(0, (3, 274, (a0 : Int))), (1, (0, 0, w1)), (2, (0, 0, w2)), (3, (0, 0, ((i : Int) + 1)))] [] M ((ax_qi (-1) 15 M) (kc ()))) (hkx : ∀ (_ : Unit), (True) → ax_W ax_LM gX3_blockOf (d + 0) 38 [] [] M ((ax_qi (-1) 15 M) (kx ()))) : ax_W ax_LM gX3_blockOf (d + 0) 8 [(0, (3, 274, (a0 : Int))), (1, (0, 0, w1)), (2, (0, 0, w2)), (3, (0, 0, (i : Int)))] [] M ((ax_qi (-1) 15 M) (f_X3_blockOf_B2 a0 w1 w2 M i  kc kx)) := by
  unfold f_X3_blockOf_B2
  refine ax_lump ax_layM ok_kX3 [(8, .aload_n 0, 1, 0, 0, 0), (9, .sipush 192, 3, 0, 0, 0), (12, .iload_n 3, 1, 0, 0, 0), (13, .iadd, 1, 1, 0, 0), (14, .iaload, 1, 0, 0, 0), (15, .iload_n 1, 1, 0, 0, 0)] (pc' := 16) (lc' := [(0, (3, 274, (a0 : Int))), (1, (0, 0, w1)), (2, (0, 0, w2)), (3, (0, 0, (i : Int)))]) (st' := [(0, 0, w1), (0, 0, (M a0 (192 + (i : Int)).toNat))]) (M' := M) (C' := ((True ∧ ax_r32 (192 + (i : Int))) ∧ (0 ≤ (192 + (i : Int)) ∧ (192 + (i : Int)) < ((274 : Nat) : Int)))) (by decide +kernel) rfl ⟨⟨trivial, ⟨by omega, by omega⟩⟩, by omega⟩ ?_
  refine ax_jne (off := 16) (tgt := 32) (by decide +kernel) (by decide) (fun h1 => ?_) (fun h1 => ?_)
  · refine ax_lump ax_layM ok_kX3 [(32, .iinc 3 1, 3, 1, 0, 0), (35, .goto (-33), 3, 2, 0, 0)] (pc' := 2) (lc' := [(3, (0, 0, ((i : Int) + 1))), (0, (3, 274, (a0 : Int))), (1, (0, 0, w1)), (2, (0, 0, w2))]) (st' := []) (M' := M) (C' := (True ∧ ax_r32 ((i : Int) + 1))) (by decide +kernel) rfl ⟨trivial, ⟨by omega, by omega⟩⟩ ?_
    refine ax_pk [1,2,3,0] (lc' := [(0, (3, 274, (a0 : Int))), (1, (0, 0, w1)), (2, (0, 0, w2)), (3, (0, 0, ((i : Int) + 1)))]) rfl ?_
    exact hkc () 
  · refine ax_lump ax_layM ok_kX3 [(19, .aload_n 0, 1, 0, 0, 0), (20, .sipush 208, 3, 0, 0, 0), (23, .iload_n 3, 1, 0, 0, 0), (24, .iadd, 1, 1, 0, 0), (25, .iaload, 1, 0, 0, 0), (26, .iload_n 2, 1, 0, 0, 0)] (pc' := 27) (lc' := [(0, (3, 274, (a0 : Int))), (1, (0, 0, w1)), (2, (0, 0, w2)), (3, (0, 0, (i : Int)))]) (st' := [(0, 0, w2), (0, 0, (M a0 (208 + (i : Int)).toNat))]) (M' := M) (C' := ((True ∧ ax_r32 (208 + (i : Int))) ∧ (0 ≤ (208 + (i : Int)) ∧ (208 + (i : Int)) < ((274 : Nat) : Int)))) (by decide +kernel) rfl ⟨⟨trivial, ⟨by omega, by omega⟩⟩, by omega⟩ ?_
    refine ax_jne (off := 5) (tgt := 32) (by decide +kernel) (by decide) (fun h2 => ?_) (fun h2 => ?_)
    · refine ax_lump ax_layM ok_kX3 [(32, .iinc 3 1, 3, 1, 0, 0), (35, .goto (-33), 3, 2, 0, 0)] (pc' := 2) (lc' := [(3, (0, 0, ((i : Int) + 1))), (0, (3, 274, (a0 : Int))), (1, (0, 0, w1)), (2, (0, 0, w2))]) (st' := []) (M' := M) (C' := (True ∧ ax_r32 ((i : Int) + 1))) (by decide +kernel) rfl ⟨trivial, ⟨by omega, by omega⟩⟩ ?_
      refine ax_pk [1,2,3,0] (lc' := [(0, (3, 274, (a0 : Int))), (1, (0, 0, w1)), (2, (0, 0, w2)), (3, (0, 0, ((i : Int) + 1)))]) rfl ?_
      exact hkc () 
    · refine ax_lump ax_layM ok_kX3 [(30, .iload_n 3, 1, 0, 0, 0)] (pc' := 31) (lc' := [(0, (3, 274, (a0 : Int))), (1, (0, 0, w1)), (2, (0, 0, w2)), (3, (0, 0, (i : Int)))]) (st' := [(0, 0, (i : Int))]) (M' := M) (C' := True) (by decide +kernel) rfl trivial ?_
      exact ax_iret (by decide +kernel) rfl ⟨rfl, rfl, (show ((-1) : Int) ≤ (i : Int) from by omega), (show (i : Int) ≤ (15 : Int) from by omega)⟩
set_option maxRecDepth 100000 in
set_option maxHeartbeats 4000000 in
theorem w_X3_blockOf_L2 (d : Nat) (a0 : Nat) (w1 : Int) (w2 : Int) (M : ax_M) (kx : Unit → Int)  (hkx : ∀ (_ : Unit), (True) → ax_W ax_LM gX3_blockOf (d + 0) 38 [] [] M ((ax_qi (-1) 15 M) (kx ()))) : ∀ (n : Nat) (i : Nat), 0 ≤ i ∧ i + n = 16 → ax_W ax_LM gX3_blockOf (d + 0) 2 [(0, (3, 274, (a0 : Int))), (1, (0, 0, w1)), (2, (0, 0, w2)), (3, (0, 0, (i : Int)))] [] M ((ax_qi (-1) 15 M) (f_X3_blockOf_L2 a0 w1 w2 M n i  kx)) := by
  intro n
  induction n with
  | zero =>
    intro i hin
    refine ax_lump ax_layM ok_kX3 [(2, .iload_n 3, 1, 0, 0, 0), (3, .bipush 16, 2, 0, 0, 0)] (pc' := 5) (lc' := [(0, (3, 274, (a0 : Int))), (1, (0, 0, w1)), (2, (0, 0, w2)), (3, (0, 0, (i : Int)))]) (st' := [(0, 0, 16), (0, 0, (i : Int))]) (M' := M) (C' := True) (by decide +kernel) rfl trivial ?_
    refine ax_icmp_ge (off := 33) (tgt := 38) (by decide +kernel) (by decide) (fun h => ?_) (fun h => ?_)
    · refine ax_pk [] (lc' := []) rfl ?_
      exact hkx () trivial
    · exfalso; omega
  | succ n ih =>
    intro i hin
    refine ax_lump ax_layM ok_kX3 [(2, .iload_n 3, 1, 0, 0, 0), (3, .bipush 16, 2, 0, 0, 0)] (pc' := 5) (lc' := [(0, (3, 274, (a0 : Int))), (1, (0, 0, w1)), (2, (0, 0, w2)), (3, (0, 0, (i : Int)))]) (st' := [(0, 0, 16), (0, 0, (i : Int))]) (M' := M) (C' := True) (by decide +kernel) rfl trivial ?_
    refine ax_icmp_ge (off := 33) (tgt := 38) (by decide +kernel) (by decide) (fun h => ?_) (fun h => ?_)
    · exfalso; omega
    · exact wb_X3_blockOf_B2 d a0 w1 w2 M i  _ kx  (by omega)  (fun _ => ih (i + 1)  (by omega) ) hkx
def f_X3_blockOf (a0 : Nat) (x1 : Int) (x2 : Int) (M : ax_M) : Int := f_X3_blockOf_L2 a0 x1 x2 M 16 0  (fun (_ : Unit) => (-1))
set_option maxRecDepth 100000 in
set_option maxHeartbeats 4000000 in
theorem c_X3_blockOf (d : Nat) (a0 : Nat) (x1 : Int) (x2 : Int) (M : ax_M)  : ax_Met ax_LM gX3_blockOf (d + 0) [(3, 274, (a0 : Int)), (0, 0, x1), (0, 0, x2)] M ((ax_qi (-1) 15 M) (f_X3_blockOf a0 x1 x2 M)) := by
  refine ax_body (by decide) (fun X => Nat.le_of_ble_eq_true rfl) (fun hok => ?_)
  have hr_x1 : (-2147483648) ≤ x1 ∧ x1 ≤ 2147483647 := hok (0, 0, x1) (by simp)
  have hr_x2 : (-2147483648) ≤ x2 ∧ x2 ≤ 2147483647 := hok (0, 0, x2) (by simp)
  show ax_W ax_LM gX3_blockOf (d + 0) 0 [(0, (3, 274, (a0 : Int))), (1, (0, 0, x1)), (2, (0, 0, x2))] [] M _
  unfold f_X3_blockOf
  refine ax_lump ax_layM ok_kX3 [(0, .iconst 0, 1, 0, 0, 0), (1, .istore_n 3, 1, 0, 0, 0)] (pc' := 2) (lc' := [(3, (0, 0, 0)), (0, (3, 274, (a0 : Int))), (1, (0, 0, x1)), (2, (0, 0, x2))]) (st' := []) (M' := M) (C' := True) (by decide +kernel) rfl trivial ?_
  refine ax_pk [1,2,3,0] (lc' := [(0, (3, 274, (a0 : Int))), (1, (0, 0, x1)), (2, (0, 0, x2)), (3, (0, 0, 0))]) rfl ?_
  refine w_X3_blockOf_L2 d a0 x1 x2 M _  (fun _ hx_2 => ?_) 16 0  (by omega) 
  refine ax_lump ax_layM ok_kX3 [(38, .iconst (-1), 1, 0, 0, 0)] (pc' := 39) (lc' := []) (st' := [(0, 0, (-1))]) (M' := M) (C' := True) (by decide +kernel) rfl trivial ?_
  exact ax_iret (by decide +kernel) rfl ⟨rfl, rfl, (show ((-1) : Int) ≤ (-1) from by omega), (show (-1) ≤ (15 : Int) from by omega)⟩
def f_X3_kindMany_B4 (a0 : Nat) (w1 : Int) (M : ax_M) (i : Nat) (v2 : Int) (kc : Int → Int) (kx : Int → Int) : Int := (if (M a0 (192 + (i : Int)).toNat) ≠ w1 then kc (v2 + (f_X3_flag 0 M)) else kc (v2 + (f_X3_flag 1 M)))
def f_X3_kindMany_L4 (a0 : Nat) (w1 : Int) (M : ax_M) : Nat → Nat → Int → (Int → Int) → Int
  | 0, i, v2, kx => kx v2
  | n + 1, i, v2, kx => f_X3_kindMany_B4 a0 w1 M i v2 (fun u2 => f_X3_kindMany_L4 a0 w1 M n (i + 1) u2 kx) kx
set_option maxRecDepth 100000 in
set_option maxHeartbeats 4000000 in
theorem wb_X3_kindMany_B4 (d : Nat) (a0 : Nat) (w1 : Int) (M : ax_M) (i : Nat) (v2 : Int) (kc : Int → Int) (kx : Int → Int)  (hi : 0 ≤ i ∧ i < 16) (hv2 : 0 ≤ v2 ∧ v2 ≤ 0 + 1 * ((i : Int) - 0)) (hkc : ∀ (u2 : Int), 0 ≤ u2 ∧ u2 ≤ 0 + 1 * (((i : Int) + 1) - 0) → ax_W ax_LM gX3_kindMany (d + 1) 4 [(0, (3, 274, (a0 : Int))), (1, (0, 0, w1)), (2, (0, 0, u2)), (3, (0, 0, ((i : Int) + 1)))] [] M ((ax_qi 0 16 M) (kc u2))) (hkx : ∀ (x2 : Int), ((0 ≤ x2 ∧ x2 ≤ 16)) → ax_W ax_LM gX3_kindMany (d + 1) 38 [(2, (0, 0, x2))] [] M ((ax_qi 0 16 M) (kx x2))) : ax_W ax_LM gX3_kindMany (d + 1) 10 [(0, (3, 274, (a0 : Int))), (1, (0, 0, w1)), (2, (0, 0, v2)), (3, (0, 0, (i : Int)))] [] M ((ax_qi 0 16 M) (f_X3_kindMany_B4 a0 w1 M i v2 kc kx)) := by
  unfold f_X3_kindMany_B4
  refine ax_lump ax_layM ok_kX3 [(10, .iload_n 2, 1, 0, 0, 0), (11, .aload_n 0, 1, 0, 0, 0), (12, .sipush 192, 3, 0, 0, 0), (15, .iload_n 3, 1, 0, 0, 0), (16, .iadd, 1, 1, 0, 0), (17, .iaload, 1, 0, 0, 0), (18, .iload_n 1, 1, 0, 0, 0)] (pc' := 19) (lc' := [(0, (3, 274, (a0 : Int))), (1, (0, 0, w1)), (2, (0, 0, v2)), (3, (0, 0, (i : Int)))]) (st' := [(0, 0, w1), (0, 0, (M a0 (192 + (i : Int)).toNat)), (0, 0, v2)]) (M' := M) (C' := ((True ∧ ax_r32 (192 + (i : Int))) ∧ (0 ≤ (192 + (i : Int)) ∧ (192 + (i : Int)) < ((274 : Nat) : Int)))) (by decide +kernel) rfl ⟨⟨trivial, ⟨by omega, by omega⟩⟩, by omega⟩ ?_
  refine ax_jne (off := 7) (tgt := 26) (by decide +kernel) (by decide) (fun h1 => ?_) (fun h1 => ?_)
  · refine ax_lump ax_layM ok_kX3 [(26, .iconst 0, 1, 0, 0, 0)] (pc' := 27) (lc' := [(0, (3, 274, (a0 : Int))), (1, (0, 0, w1)), (2, (0, 0, v2)), (3, (0, 0, (i : Int)))]) (st' := [(0, 0, 0), (0, 0, v2)]) (M' := M) (C' := True) (by decide +kernel) rfl trivial ?_
    refine ax_cSi (G1 := gX3_flag) (d1 := d + 0) (i := 44) (n := 1) (as := [(0, 0, 0)]) (st := [(0, 0, v2)]) (by decide +kernel) calX3_flag (by omega) rfl wt_904 wt_905 (Nat.le_of_ble_eq_true rfl) rfl (c_X3_flag d 0 M (by omega)) (fun hc2 => ?_)
    refine ax_lump ax_layM ok_kX3 [(30, .iadd, 1, 1, 0, 0), (31, .istore_n 2, 1, 0, 0, 0), (32, .iinc 3 1, 3, 1, 0, 0), (35, .goto (-31), 3, 4, 0, 0)] (pc' := 4) (lc' := [(3, (0, 0, ((i : Int) + 1))), (2, (0, 0, (v2 + (f_X3_flag 0 M)))), (0, (3, 274, (a0 : Int))), (1, (0, 0, w1))]) (st' := []) (M' := M) (C' := ((True ∧ ax_r32 (v2 + (f_X3_flag 0 M))) ∧ ax_r32 ((i : Int) + 1))) (by decide +kernel) rfl ⟨⟨trivial, ⟨by omega, by omega⟩⟩, ⟨by omega, by omega⟩⟩ ?_
    refine ax_pk [2,3,1,0] (lc' := [(0, (3, 274, (a0 : Int))), (1, (0, 0, w1)), (2, (0, 0, (v2 + (f_X3_flag 0 M)))), (3, (0, 0, ((i : Int) + 1)))]) rfl ?_
    exact hkc (v2 + (f_X3_flag 0 M)) (by omega)
  · refine ax_lump ax_layM ok_kX3 [(22, .iconst 1, 1, 0, 0, 0), (23, .goto 4, 3, 27, 0, 0)] (pc' := 27) (lc' := [(0, (3, 274, (a0 : Int))), (1, (0, 0, w1)), (2, (0, 0, v2)), (3, (0, 0, (i : Int)))]) (st' := [(0, 0, 1), (0, 0, v2)]) (M' := M) (C' := True) (by decide +kernel) rfl trivial ?_
    refine ax_cSi (G1 := gX3_flag) (d1 := d + 0) (i := 44) (n := 1) (as := [(0, 0, 1)]) (st := [(0, 0, v2)]) (by decide +kernel) calX3_flag (by omega) rfl wt_904 wt_905 (Nat.le_of_ble_eq_true rfl) rfl (c_X3_flag d 1 M (by omega)) (fun hc3 => ?_)
    refine ax_lump ax_layM ok_kX3 [(30, .iadd, 1, 1, 0, 0), (31, .istore_n 2, 1, 0, 0, 0), (32, .iinc 3 1, 3, 1, 0, 0), (35, .goto (-31), 3, 4, 0, 0)] (pc' := 4) (lc' := [(3, (0, 0, ((i : Int) + 1))), (2, (0, 0, (v2 + (f_X3_flag 1 M)))), (0, (3, 274, (a0 : Int))), (1, (0, 0, w1))]) (st' := []) (M' := M) (C' := ((True ∧ ax_r32 (v2 + (f_X3_flag 1 M))) ∧ ax_r32 ((i : Int) + 1))) (by decide +kernel) rfl ⟨⟨trivial, ⟨by omega, by omega⟩⟩, ⟨by omega, by omega⟩⟩ ?_
    refine ax_pk [2,3,1,0] (lc' := [(0, (3, 274, (a0 : Int))), (1, (0, 0, w1)), (2, (0, 0, (v2 + (f_X3_flag 1 M)))), (3, (0, 0, ((i : Int) + 1)))]) rfl ?_
    exact hkc (v2 + (f_X3_flag 1 M)) (by omega)
set_option maxRecDepth 100000 in
set_option maxHeartbeats 4000000 in
theorem w_X3_kindMany_L4 (d : Nat) (a0 : Nat) (w1 : Int) (M : ax_M) (kx : Int → Int)  (hkx : ∀ (x2 : Int), ((0 ≤ x2 ∧ x2 ≤ 16)) → ax_W ax_LM gX3_kindMany (d + 1) 38 [(2, (0, 0, x2))] [] M ((ax_qi 0 16 M) (kx x2))) : ∀ (n : Nat) (i : Nat) (v2 : Int), 0 ≤ i ∧ i + n = 16 → 0 ≤ v2 ∧ v2 ≤ 0 + 1 * ((i : Int) - 0) → ax_W ax_LM gX3_kindMany (d + 1) 4 [(0, (3, 274, (a0 : Int))), (1, (0, 0, w1)), (2, (0, 0, v2)), (3, (0, 0, (i : Int)))] [] M ((ax_qi 0 16 M) (f_X3_kindMany_L4 a0 w1 M n i v2 kx)) := by
  intro n
  induction n with
  | zero =>
    intro i v2 hin hv2
    refine ax_lump ax_layM ok_kX3 [(4, .iload_n 3, 1, 0, 0, 0), (5, .bipush 16, 2, 0, 0, 0)] (pc' := 7) (lc' := [(0, (3, 274, (a0 : Int))), (1, (0, 0, w1)), (2, (0, 0, v2)), (3, (0, 0, (i : Int)))]) (st' := [(0, 0, 16), (0, 0, (i : Int))]) (M' := M) (C' := True) (by decide +kernel) rfl trivial ?_
    refine ax_icmp_ge (off := 31) (tgt := 38) (by decide +kernel) (by decide) (fun h => ?_) (fun h => ?_)
    · refine ax_pk [2] (lc' := [(2, (0, 0, v2))]) rfl ?_
      exact hkx v2 (by omega)
    · exfalso; omega
  | succ n ih =>
    intro i v2 hin hv2
    refine ax_lump ax_layM ok_kX3 [(4, .iload_n 3, 1, 0, 0, 0), (5, .bipush 16, 2, 0, 0, 0)] (pc' := 7) (lc' := [(0, (3, 274, (a0 : Int))), (1, (0, 0, w1)), (2, (0, 0, v2)), (3, (0, 0, (i : Int)))]) (st' := [(0, 0, 16), (0, 0, (i : Int))]) (M' := M) (C' := True) (by decide +kernel) rfl trivial ?_
    refine ax_icmp_ge (off := 31) (tgt := 38) (by decide +kernel) (by decide) (fun h => ?_) (fun h => ?_)
    · exfalso; omega
    · exact wb_X3_kindMany_B4 d a0 w1 M i v2 _ kx  (by omega) hv2 (fun u2 hu2 => ih (i + 1) u2 (by omega) (by omega)) hkx
def f_X3_kindMany (a0 : Nat) (x1 : Int) (M : ax_M) : Int := f_X3_kindMany_L4 a0 x1 M 16 0 0 (fun z4 => z4)
set_option maxRecDepth 100000 in
set_option maxHeartbeats 4000000 in
theorem c_X3_kindMany (d : Nat) (a0 : Nat) (x1 : Int) (M : ax_M)  : ax_Met ax_LM gX3_kindMany (d + 1) [(3, 274, (a0 : Int)), (0, 0, x1)] M ((ax_qi 0 16 M) (f_X3_kindMany a0 x1 M)) := by
  refine ax_body (by decide) (fun X => Nat.le_of_ble_eq_true rfl) (fun hok => ?_)
  have hr_x1 : (-2147483648) ≤ x1 ∧ x1 ≤ 2147483647 := hok (0, 0, x1) (by simp)
  show ax_W ax_LM gX3_kindMany (d + 1) 0 [(0, (3, 274, (a0 : Int))), (1, (0, 0, x1))] [] M _
  unfold f_X3_kindMany
  refine ax_lump ax_layM ok_kX3 [(0, .iconst 0, 1, 0, 0, 0), (1, .istore_n 2, 1, 0, 0, 0), (2, .iconst 0, 1, 0, 0, 0), (3, .istore_n 3, 1, 0, 0, 0)] (pc' := 4) (lc' := [(3, (0, 0, 0)), (2, (0, 0, 0)), (0, (3, 274, (a0 : Int))), (1, (0, 0, x1))]) (st' := []) (M' := M) (C' := True) (by decide +kernel) rfl trivial ?_
  refine ax_pk [2,3,1,0] (lc' := [(0, (3, 274, (a0 : Int))), (1, (0, 0, x1)), (2, (0, 0, 0)), (3, (0, 0, 0))]) rfl ?_
  refine w_X3_kindMany_L4 d a0 x1 M _  (fun z4 hx_4 => ?_) 16 0 0 (by omega) (by omega)
  refine ax_lump ax_layM ok_kX3 [(38, .iload_n 2, 1, 0, 0, 0)] (pc' := 39) (lc' := [(2, (0, 0, z4))]) (st' := [(0, 0, z4)]) (M' := M) (C' := True) (by decide +kernel) rfl trivial ?_
  exact ax_iret (by decide +kernel) rfl ⟨rfl, rfl, (show (0 : Int) ≤ z4 from by omega), (show z4 ≤ (16 : Int) from by omega)⟩
def f_X3_theRun_B2 (a0 : Nat) (M : ax_M) (i : Nat)  (kc : Unit → Int) (kx : Unit → Int) : Int := (if (M a0 (192 + (i : Int)).toNat) ≠ 2 then kc () else (i : Int))
def f_X3_theRun_L2 (a0 : Nat) (M : ax_M) : Nat → Nat → (Unit → Int) → Int
  | 0, i, kx => kx ()
  | n + 1, i, kx => f_X3_theRun_B2 a0 M i  (fun _ => f_X3_theRun_L2 a0 M n (i + 1)  kx) kx
set_option maxRecDepth 100000 in
set_option maxHeartbeats 4000000 in
theorem wb_X3_theRun_B2 (d : Nat) (a0 : Nat) (M : ax_M) (i : Nat)  (kc : Unit → Int) (kx : Unit → Int)  (hi : 0 ≤ i ∧ i < 16)  (hkc : ∀ (_ : Unit), ax_W ax_LM gX3_theRun (d + 0) 2 [(0, (3, 274, (a0 : Int))), (1, (0, 0, ((i : Int) + 1)))] [] M ((ax_qi (-1) 15 M) (kc ()))) (hkx : ∀ (_ : Unit), (True) → ax_W ax_LM gX3_theRun (d + 0) 27 [] [] M ((ax_qi (-1) 15 M) (kx ()))) : ax_W ax_LM gX3_theRun (d + 0) 8 [(0, (3, 274, (a0 : Int))), (1, (0, 0, (i : Int)))] [] M ((ax_qi (-1) 15 M) (f_X3_theRun_B2 a0 M i  kc kx)) := by
  unfold f_X3_theRun_B2
  refine ax_lump ax_layM ok_kX3 [(8, .aload_n 0, 1, 0, 0, 0), (9, .sipush 192, 3, 0, 0, 0), (12, .iload_n 1, 1, 0, 0, 0), (13, .iadd, 1, 1, 0, 0), (14, .iaload, 1, 0, 0, 0), (15, .iconst 2, 1, 0, 0, 0)] (pc' := 16) (lc' := [(0, (3, 274, (a0 : Int))), (1, (0, 0, (i : Int)))]) (st' := [(0, 0, 2), (0, 0, (M a0 (192 + (i : Int)).toNat))]) (M' := M) (C' := ((True ∧ ax_r32 (192 + (i : Int))) ∧ (0 ≤ (192 + (i : Int)) ∧ (192 + (i : Int)) < ((274 : Nat) : Int)))) (by decide +kernel) rfl ⟨⟨trivial, ⟨by omega, by omega⟩⟩, by omega⟩ ?_
  refine ax_jne (off := 5) (tgt := 21) (by decide +kernel) (by decide) (fun h1 => ?_) (fun h1 => ?_)
  · refine ax_lump ax_layM ok_kX3 [(21, .iinc 1 1, 3, 1, 0, 0), (24, .goto (-22), 3, 2, 0, 0)] (pc' := 2) (lc' := [(1, (0, 0, ((i : Int) + 1))), (0, (3, 274, (a0 : Int)))]) (st' := []) (M' := M) (C' := (True ∧ ax_r32 ((i : Int) + 1))) (by decide +kernel) rfl ⟨trivial, ⟨by omega, by omega⟩⟩ ?_
    refine ax_pk [1,0] (lc' := [(0, (3, 274, (a0 : Int))), (1, (0, 0, ((i : Int) + 1)))]) rfl ?_
    exact hkc () 
  · refine ax_lump ax_layM ok_kX3 [(19, .iload_n 1, 1, 0, 0, 0)] (pc' := 20) (lc' := [(0, (3, 274, (a0 : Int))), (1, (0, 0, (i : Int)))]) (st' := [(0, 0, (i : Int))]) (M' := M) (C' := True) (by decide +kernel) rfl trivial ?_
    exact ax_iret (by decide +kernel) rfl ⟨rfl, rfl, (show ((-1) : Int) ≤ (i : Int) from by omega), (show (i : Int) ≤ (15 : Int) from by omega)⟩
set_option maxRecDepth 100000 in
set_option maxHeartbeats 4000000 in
theorem w_X3_theRun_L2 (d : Nat) (a0 : Nat) (M : ax_M) (kx : Unit → Int)  (hkx : ∀ (_ : Unit), (True) → ax_W ax_LM gX3_theRun (d + 0) 27 [] [] M ((ax_qi (-1) 15 M) (kx ()))) : ∀ (n : Nat) (i : Nat), 0 ≤ i ∧ i + n = 16 → ax_W ax_LM gX3_theRun (d + 0) 2 [(0, (3, 274, (a0 : Int))), (1, (0, 0, (i : Int)))] [] M ((ax_qi (-1) 15 M) (f_X3_theRun_L2 a0 M n i  kx)) := by
  intro n
  induction n with
  | zero =>
    intro i hin
    refine ax_lump ax_layM ok_kX3 [(2, .iload_n 1, 1, 0, 0, 0), (3, .bipush 16, 2, 0, 0, 0)] (pc' := 5) (lc' := [(0, (3, 274, (a0 : Int))), (1, (0, 0, (i : Int)))]) (st' := [(0, 0, 16), (0, 0, (i : Int))]) (M' := M) (C' := True) (by decide +kernel) rfl trivial ?_
    refine ax_icmp_ge (off := 22) (tgt := 27) (by decide +kernel) (by decide) (fun h => ?_) (fun h => ?_)
    · refine ax_pk [] (lc' := []) rfl ?_
      exact hkx () trivial
    · exfalso; omega
  | succ n ih =>
    intro i hin
    refine ax_lump ax_layM ok_kX3 [(2, .iload_n 1, 1, 0, 0, 0), (3, .bipush 16, 2, 0, 0, 0)] (pc' := 5) (lc' := [(0, (3, 274, (a0 : Int))), (1, (0, 0, (i : Int)))]) (st' := [(0, 0, 16), (0, 0, (i : Int))]) (M' := M) (C' := True) (by decide +kernel) rfl trivial ?_
    refine ax_icmp_ge (off := 22) (tgt := 27) (by decide +kernel) (by decide) (fun h => ?_) (fun h => ?_)
    · exfalso; omega
    · exact wb_X3_theRun_B2 d a0 M i  _ kx  (by omega)  (fun _ => ih (i + 1)  (by omega) ) hkx
def f_X3_theRun (a0 : Nat) (M : ax_M) : Int := f_X3_theRun_L2 a0 M 16 0  (fun (_ : Unit) => (-1))
set_option maxRecDepth 100000 in
set_option maxHeartbeats 4000000 in
theorem c_X3_theRun (d : Nat) (a0 : Nat) (M : ax_M)  : ax_Met ax_LM gX3_theRun (d + 0) [(3, 274, (a0 : Int))] M ((ax_qi (-1) 15 M) (f_X3_theRun a0 M)) := by
  refine ax_body (by decide) (fun X => Nat.le_of_ble_eq_true rfl) (fun hok => ?_)
  show ax_W ax_LM gX3_theRun (d + 0) 0 [(0, (3, 274, (a0 : Int)))] [] M _
  unfold f_X3_theRun
  refine ax_lump ax_layM ok_kX3 [(0, .iconst 0, 1, 0, 0, 0), (1, .istore_n 1, 1, 0, 0, 0)] (pc' := 2) (lc' := [(1, (0, 0, 0)), (0, (3, 274, (a0 : Int)))]) (st' := []) (M' := M) (C' := True) (by decide +kernel) rfl trivial ?_
  refine ax_pk [1,0] (lc' := [(0, (3, 274, (a0 : Int))), (1, (0, 0, 0))]) rfl ?_
  refine w_X3_theRun_L2 d a0 M _  (fun _ hx_1 => ?_) 16 0  (by omega) 
  refine ax_lump ax_layM ok_kX3 [(27, .iconst (-1), 1, 0, 0, 0)] (pc' := 28) (lc' := []) (st' := [(0, 0, (-1))]) (M' := M) (C' := True) (by decide +kernel) rfl trivial ?_
  exact ax_iret (by decide +kernel) rfl ⟨rfl, rfl, (show ((-1) : Int) ≤ (-1) from by omega), (show (-1) ≤ (15 : Int) from by omega)⟩
def f_X3_rankOf_J26 (a0 : Nat) (j2 : Int) (s0 : Int) (M : ax_M) : Int := (if (M a0 (192 + j2).toNat) ≠ 1 then (if (M a0 (192 + j2).toNat) ≠ 2 then 2 else (if s0 = 0 then 2 else 1)) else (if s0 = 0 then 2 else 0))
set_option maxRecDepth 100000 in
set_option maxHeartbeats 4000000 in
theorem w_X3_rankOf_J26 (d : Nat) (a0 : Nat) (j2 : Int) (s0 : Int) (M : ax_M) (hw_j2 : 0 ≤ j2 ∧ j2 ≤ 15) (hw_s0 : 0 ≤ s0 ∧ s0 ≤ 1) : ax_W ax_LM gX3_rankOf (d + 1) 26 [(0, (3, 274, (a0 : Int))), (2, (0, 0, j2))] [(0, 0, s0)] M ((ax_qi 0 2 M) (f_X3_rankOf_J26 a0 j2 s0 M)) := by
  unfold f_X3_rankOf_J26
  refine ax_lump ax_layM ok_kX3 [(26, .istore_n 3, 1, 0, 0, 0), (27, .aload_n 0, 1, 0, 0, 0), (28, .sipush 192, 3, 0, 0, 0), (31, .iload_n 2, 1, 0, 0, 0), (32, .iadd, 1, 1, 0, 0), (33, .iaload, 1, 0, 0, 0), (34, .iconst 1, 1, 0, 0, 0)] (pc' := 35) (lc' := [(3, (0, 0, s0)), (0, (3, 274, (a0 : Int))), (2, (0, 0, j2))]) (st' := [(0, 0, 1), (0, 0, (M a0 (192 + j2).toNat))]) (M' := M) (C' := ((True ∧ ax_r32 (192 + j2)) ∧ (0 ≤ (192 + j2) ∧ (192 + j2) < ((274 : Nat) : Int)))) (by decide +kernel) rfl ⟨⟨trivial, ⟨by omega, by omega⟩⟩, by omega⟩ ?_
  refine ax_jne (off := 11) (tgt := 46) (by decide +kernel) (by decide) (fun h4 => ?_) (fun h4 => ?_)
  · refine ax_lump ax_layM ok_kX3 [(46, .aload_n 0, 1, 0, 0, 0), (47, .sipush 192, 3, 0, 0, 0), (50, .iload_n 2, 1, 0, 0, 0), (51, .iadd, 1, 1, 0, 0), (52, .iaload, 1, 0, 0, 0), (53, .iconst 2, 1, 0, 0, 0)] (pc' := 54) (lc' := [(3, (0, 0, s0)), (0, (3, 274, (a0 : Int))), (2, (0, 0, j2))]) (st' := [(0, 0, 2), (0, 0, (M a0 (192 + j2).toNat))]) (M' := M) (C' := ((True ∧ ax_r32 (192 + j2)) ∧ (0 ≤ (192 + j2) ∧ (192 + j2) < ((274 : Nat) : Int)))) (by decide +kernel) rfl ⟨⟨trivial, ⟨by omega, by omega⟩⟩, by omega⟩ ?_
    refine ax_jne (off := 11) (tgt := 65) (by decide +kernel) (by decide) (fun h5 => ?_) (fun h5 => ?_)
    · refine ax_lump ax_layM ok_kX3 [(65, .iconst 2, 1, 0, 0, 0)] (pc' := 66) (lc' := [(3, (0, 0, s0)), (0, (3, 274, (a0 : Int))), (2, (0, 0, j2))]) (st' := [(0, 0, 2)]) (M' := M) (C' := True) (by decide +kernel) rfl trivial ?_
      exact ax_iret (by decide +kernel) rfl ⟨rfl, rfl, (show (0 : Int) ≤ 2 from by omega), (show 2 ≤ (2 : Int) from by omega)⟩
    · refine ax_lump ax_layM ok_kX3 [(57, .iload_n 3, 1, 0, 0, 0)] (pc' := 58) (lc' := [(3, (0, 0, s0)), (0, (3, 274, (a0 : Int))), (2, (0, 0, j2))]) (st' := [(0, 0, s0)]) (M' := M) (C' := True) (by decide +kernel) rfl trivial ?_
      refine ax_zeq (off := 7) (tgt := 65) (by decide +kernel) (by decide) (fun h6 => ?_) (fun h6 => ?_)
      · refine ax_lump ax_layM ok_kX3 [(65, .iconst 2, 1, 0, 0, 0)] (pc' := 66) (lc' := [(3, (0, 0, s0)), (0, (3, 274, (a0 : Int))), (2, (0, 0, j2))]) (st' := [(0, 0, 2)]) (M' := M) (C' := True) (by decide +kernel) rfl trivial ?_
        exact ax_iret (by decide +kernel) rfl ⟨rfl, rfl, (show (0 : Int) ≤ 2 from by omega), (show 2 ≤ (2 : Int) from by omega)⟩
      · refine ax_lump ax_layM ok_kX3 [(61, .iconst 1, 1, 0, 0, 0), (62, .goto 4, 3, 66, 0, 0)] (pc' := 66) (lc' := [(3, (0, 0, s0)), (0, (3, 274, (a0 : Int))), (2, (0, 0, j2))]) (st' := [(0, 0, 1)]) (M' := M) (C' := True) (by decide +kernel) rfl trivial ?_
        exact ax_iret (by decide +kernel) rfl ⟨rfl, rfl, (show (0 : Int) ≤ 1 from by omega), (show 1 ≤ (2 : Int) from by omega)⟩
  · refine ax_lump ax_layM ok_kX3 [(38, .iload_n 3, 1, 0, 0, 0)] (pc' := 39) (lc' := [(3, (0, 0, s0)), (0, (3, 274, (a0 : Int))), (2, (0, 0, j2))]) (st' := [(0, 0, s0)]) (M' := M) (C' := True) (by decide +kernel) rfl trivial ?_
    refine ax_zeq (off := 7) (tgt := 46) (by decide +kernel) (by decide) (fun h7 => ?_) (fun h7 => ?_)
    · refine ax_lump ax_layM ok_kX3 [(46, .aload_n 0, 1, 0, 0, 0), (47, .sipush 192, 3, 0, 0, 0), (50, .iload_n 2, 1, 0, 0, 0), (51, .iadd, 1, 1, 0, 0), (52, .iaload, 1, 0, 0, 0), (53, .iconst 2, 1, 0, 0, 0)] (pc' := 54) (lc' := [(3, (0, 0, s0)), (0, (3, 274, (a0 : Int))), (2, (0, 0, j2))]) (st' := [(0, 0, 2), (0, 0, (M a0 (192 + j2).toNat))]) (M' := M) (C' := ((True ∧ ax_r32 (192 + j2)) ∧ (0 ≤ (192 + j2) ∧ (192 + j2) < ((274 : Nat) : Int)))) (by decide +kernel) rfl ⟨⟨trivial, ⟨by omega, by omega⟩⟩, by omega⟩ ?_
      refine ax_icmp_ne (off := 11) (tgt := 65) (by decide +kernel) (by decide) (fun h8 => ?_) (fun h8 => ?_)
      · refine ax_lump ax_layM ok_kX3 [(65, .iconst 2, 1, 0, 0, 0)] (pc' := 66) (lc' := [(3, (0, 0, s0)), (0, (3, 274, (a0 : Int))), (2, (0, 0, j2))]) (st' := [(0, 0, 2)]) (M' := M) (C' := True) (by decide +kernel) rfl trivial ?_
        exact ax_iret (by decide +kernel) rfl ⟨rfl, rfl, (show (0 : Int) ≤ 2 from by omega), (show 2 ≤ (2 : Int) from by omega)⟩
      · exfalso; omega
    · refine ax_lump ax_layM ok_kX3 [(42, .iconst 0, 1, 0, 0, 0), (43, .goto 23, 3, 66, 0, 0)] (pc' := 66) (lc' := [(3, (0, 0, s0)), (0, (3, 274, (a0 : Int))), (2, (0, 0, j2))]) (st' := [(0, 0, 0)]) (M' := M) (C' := True) (by decide +kernel) rfl trivial ?_
      exact ax_iret (by decide +kernel) rfl ⟨rfl, rfl, (show (0 : Int) ≤ 0 from by omega), (show 0 ≤ (2 : Int) from by omega)⟩
def f_X3_rankOf (a0 : Nat) (x1 : Int) (M : ax_M) : Int := ax_bd (x1 / 4) (fun y1 => (if (M a0 (208 + y1).toNat) ≠ (ax_div (f_X3_pageAt a0 x1 M) 4) then f_X3_rankOf_J26 a0 y1 0 M else f_X3_rankOf_J26 a0 y1 1 M))
set_option maxRecDepth 100000 in
set_option maxHeartbeats 4000000 in
theorem c_X3_rankOf (d : Nat) (a0 : Nat) (x1 : Int) (M : ax_M) (hp1 : 0 ≤ x1 ∧ x1 ≤ 63) : ax_Met ax_LM gX3_rankOf (d + 1) [(3, 274, (a0 : Int)), (0, 0, x1)] M ((ax_qi 0 2 M) (f_X3_rankOf a0 x1 M)) := by
  refine ax_body (by decide) (fun X => Nat.le_of_ble_eq_true rfl) (fun hok => ?_)
  have hr_x1 : (-2147483648) ≤ x1 ∧ x1 ≤ 2147483647 := hok (0, 0, x1) (by simp)
  show ax_W ax_LM gX3_rankOf (d + 1) 0 [(0, (3, 274, (a0 : Int))), (1, (0, 0, x1))] [] M _
  unfold f_X3_rankOf
  refine ax_lump ax_layM ok_kX3 [(0, .iload_n 1, 1, 0, 0, 0), (1, .iconst 4, 1, 0, 0, 0), (2, .idiv, 1, 1, 0, 0), (3, .istore_n 2, 1, 0, 0, 0)] (pc' := 4) (lc' := [(2, (0, 0, (x1 / 4))), (0, (3, 274, (a0 : Int))), (1, (0, 0, x1))]) (st' := []) (M' := M) (C' := (True ∧ (0 ≤ x1 ∧ 0 < 4))) (by decide +kernel) rfl ⟨trivial, by omega⟩ ?_
  refine ax_bdI (lo := 0) (hi := 15) (e := (x1 / 4)) (fun y1 => [(2, (0, 0, y1)), (0, (3, 274, (a0 : Int))), (1, (0, 0, x1))]) (fun y1 => []) (by omega) (fun y1 h_y1 => ?_)
  refine ax_lump ax_layM ok_kX3 [(4, .aload_n 0, 1, 0, 0, 0), (5, .sipush 208, 3, 0, 0, 0), (8, .iload_n 2, 1, 0, 0, 0), (9, .iadd, 1, 1, 0, 0), (10, .iaload, 1, 0, 0, 0), (11, .aload_n 0, 1, 0, 0, 0), (12, .iload_n 1, 1, 0, 0, 0)] (pc' := 13) (lc' := [(2, (0, 0, y1)), (0, (3, 274, (a0 : Int))), (1, (0, 0, x1))]) (st' := [(0, 0, x1), (3, 274, (a0 : Int)), (0, 0, (M a0 (208 + y1).toNat))]) (M' := M) (C' := ((True ∧ ax_r32 (208 + y1)) ∧ (0 ≤ (208 + y1) ∧ (208 + y1) < ((274 : Nat) : Int)))) (by decide +kernel) rfl ⟨⟨trivial, ⟨by omega, by omega⟩⟩, by omega⟩ ?_
  refine ax_cSi (G1 := gX3_pageAt) (d1 := d + 0) (i := 188) (n := 2) (as := [(3, 274, (a0 : Int)), (0, 0, x1)]) (st := [(0, 0, (M a0 (208 + y1).toNat))]) (by decide +kernel) calX3_pageAt (by omega) rfl wt_1104 wt_1105 (Nat.le_of_ble_eq_true rfl) rfl (c_X3_pageAt d a0 x1 M (by omega)) (fun hc2 => ?_)
  refine ax_lump ax_layM ok_kX3 [(16, .iconst 4, 1, 0, 0, 0), (17, .idiv, 1, 0, 0, 0)] (pc' := 18) (lc' := [(2, (0, 0, y1)), (0, (3, 274, (a0 : Int))), (1, (0, 0, x1))]) (st' := [(0, 0, (ax_div (f_X3_pageAt a0 x1 M) 4)), (0, 0, (M a0 (208 + y1).toNat))]) (M' := M) (C' := (True ∧ 4 ≠ 0)) (by decide +kernel) rfl ⟨trivial, by omega⟩ ?_
  refine ax_jne (off := 7) (tgt := 25) (by decide +kernel) (by decide) (fun h3 => ?_) (fun h3 => ?_)
  · refine ax_lump ax_layM ok_kX3 [(25, .iconst 0, 1, 0, 0, 0)] (pc' := 26) (lc' := [(2, (0, 0, y1)), (0, (3, 274, (a0 : Int))), (1, (0, 0, x1))]) (st' := [(0, 0, 0)]) (M' := M) (C' := True) (by decide +kernel) rfl trivial ?_
    refine ax_pk [1,0] (lc' := [(0, (3, 274, (a0 : Int))), (2, (0, 0, y1))]) rfl ?_
    exact w_X3_rankOf_J26 d a0 y1 0 M (by omega) (by omega)
  · refine ax_lump ax_layM ok_kX3 [(21, .iconst 1, 1, 0, 0, 0), (22, .goto 4, 3, 26, 0, 0)] (pc' := 26) (lc' := [(2, (0, 0, y1)), (0, (3, 274, (a0 : Int))), (1, (0, 0, x1))]) (st' := [(0, 0, 1)]) (M' := M) (C' := True) (by decide +kernel) rfl trivial ?_
    refine ax_pk [1,0] (lc' := [(0, (3, 274, (a0 : Int))), (2, (0, 0, y1))]) rfl ?_
    exact w_X3_rankOf_J26 d a0 y1 1 M (by omega) (by omega)
def f_X3_latest_B4 (a0 : Nat) (w1 : Int) (M : ax_M) (i : Nat) (v2 : Int) (kc : Int → Int) (kx : Int → Int) : Int := (if (f_X3_pageAt a0 (i : Int) M) ≠ w1 then kc v2 else (if 0 ≤ v2 then ax_bd (ax_wr ((M a0 (128 + (i : Int)).toNat) - (M a0 (128 + v2).toNat))) (fun y4 => (if 0 < y4 then kc (i : Int) else (if y4 ≠ 0 then kc v2 else (if (f_X3_rankOf a0 v2 M) ≤ (f_X3_rankOf a0 (i : Int) M) then kc v2 else kc (i : Int))))) else kc (i : Int)))
def f_X3_latest_L4 (a0 : Nat) (w1 : Int) (M : ax_M) : Nat → Nat → Int → (Int → Int) → Int
  | 0, i, v2, kx => kx v2
  | n + 1, i, v2, kx => f_X3_latest_B4 a0 w1 M i v2 (fun u2 => f_X3_latest_L4 a0 w1 M n (i + 1) u2 kx) kx
set_option maxRecDepth 100000 in
set_option maxHeartbeats 4000000 in
theorem wb_X3_latest_B4 (d : Nat) (a0 : Nat) (w1 : Int) (M : ax_M) (i : Nat) (v2 : Int) (kc : Int → Int) (kx : Int → Int)  (hi : 0 ≤ i ∧ i < 64) (hv2 : (-1) ≤ v2 ∧ v2 ≤ 63) (hkc : ∀ (u2 : Int), (-1) ≤ u2 ∧ u2 ≤ 63 → ax_W ax_LM gX3_latest (d + 2) 4 [(0, (3, 274, (a0 : Int))), (1, (0, 0, w1)), (2, (0, 0, u2)), (3, (0, 0, ((i : Int) + 1)))] [] M ((ax_qi (-1) 63 M) (kc u2))) (hkx : ∀ (x2 : Int), (((-1) ≤ x2 ∧ x2 ≤ 63)) → ax_W ax_LM gX3_latest (d + 2) 79 [(2, (0, 0, x2))] [] M ((ax_qi (-1) 63 M) (kx x2))) : ax_W ax_LM gX3_latest (d + 2) 10 [(0, (3, 274, (a0 : Int))), (1, (0, 0, w1)), (2, (0, 0, v2)), (3, (0, 0, (i : Int)))] [] M ((ax_qi (-1) 63 M) (f_X3_latest_B4 a0 w1 M i v2 kc kx)) := by
  unfold f_X3_latest_B4
  refine ax_lump ax_layM ok_kX3 [(10, .aload_n 0, 1, 0, 0, 0), (11, .iload_n 3, 1, 0, 0, 0)] (pc' := 12) (lc' := [(0, (3, 274, (a0 : Int))), (1, (0, 0, w1)), (2, (0, 0, v2)), (3, (0, 0, (i : Int)))]) (st' := [(0, 0, (i : Int)), (3, 274, (a0 : Int))]) (M' := M) (C' := True) (by decide +kernel) rfl trivial ?_
  refine ax_cSi (G1 := gX3_pageAt) (d1 := d + 0) (i := 188) (n := 2) (as := [(3, 274, (a0 : Int)), (0, 0, (i : Int))]) (st := []) (by decide +kernel) calX3_pageAt (by omega) rfl wt_1104 wt_1105 (Nat.le_of_ble_eq_true rfl) rfl (c_X3_pageAt d a0 (i : Int) M (by omega)) (fun hc1 => ?_)
  refine ax_lump ax_layM ok_kX3 [(15, .iload_n 1, 1, 0, 0, 0)] (pc' := 16) (lc' := [(0, (3, 274, (a0 : Int))), (1, (0, 0, w1)), (2, (0, 0, v2)), (3, (0, 0, (i : Int)))]) (st' := [(0, 0, w1), (0, 0, (f_X3_pageAt a0 (i : Int) M))]) (M' := M) (C' := True) (by decide +kernel) rfl trivial ?_
  refine ax_jne (off := 57) (tgt := 73) (by decide +kernel) (by decide) (fun h2 => ?_) (fun h2 => ?_)
  · refine ax_lump ax_layM ok_kX3 [(73, .iinc 3 1, 3, 1, 0, 0), (76, .goto (-72), 3, 4, 0, 0)] (pc' := 4) (lc' := [(3, (0, 0, ((i : Int) + 1))), (0, (3, 274, (a0 : Int))), (1, (0, 0, w1)), (2, (0, 0, v2))]) (st' := []) (M' := M) (C' := (True ∧ ax_r32 ((i : Int) + 1))) (by decide +kernel) rfl ⟨trivial, ⟨by omega, by omega⟩⟩ ?_
    refine ax_pk [1,2,3,0] (lc' := [(0, (3, 274, (a0 : Int))), (1, (0, 0, w1)), (2, (0, 0, v2)), (3, (0, 0, ((i : Int) + 1)))]) rfl ?_
    exact hkc v2 (by omega)
  · refine ax_lump ax_layM ok_kX3 [(19, .iload_n 2, 1, 0, 0, 0)] (pc' := 20) (lc' := [(0, (3, 274, (a0 : Int))), (1, (0, 0, w1)), (2, (0, 0, v2)), (3, (0, 0, (i : Int)))]) (st' := [(0, 0, v2)]) (M' := M) (C' := True) (by decide +kernel) rfl trivial ?_
    refine ax_zge (off := 7) (tgt := 27) (by decide +kernel) (by decide) (fun h3 => ?_) (fun h3 => ?_)
    · refine ax_lump ax_layM ok_kX3 [(27, .aload_n 0, 1, 0, 0, 0), (28, .sipush 128, 3, 0, 0, 0), (31, .iload_n 3, 1, 0, 0, 0), (32, .iadd, 1, 1, 0, 0), (33, .iaload, 1, 0, 0, 0), (34, .aload_n 0, 1, 0, 0, 0), (35, .sipush 128, 3, 0, 0, 0), (38, .iload_n 2, 1, 0, 0, 0), (39, .iadd, 1, 1, 0, 0), (40, .iaload, 1, 0, 0, 0), (41, .isub, 1, 0, 0, 0), (42, .istore 4, 2, 0, 0, 0)] (pc' := 44) (lc' := [(4, (0, 0, (ax_wr ((M a0 (128 + (i : Int)).toNat) - (M a0 (128 + v2).toNat))))), (0, (3, 274, (a0 : Int))), (1, (0, 0, w1)), (2, (0, 0, v2)), (3, (0, 0, (i : Int)))]) (st' := []) (M' := M) (C' := ((((True ∧ ax_r32 (128 + (i : Int))) ∧ (0 ≤ (128 + (i : Int)) ∧ (128 + (i : Int)) < ((274 : Nat) : Int))) ∧ ax_r32 (128 + v2)) ∧ (0 ≤ (128 + v2) ∧ (128 + v2) < ((274 : Nat) : Int)))) (by decide +kernel) rfl ⟨⟨⟨⟨trivial, ⟨by omega, by omega⟩⟩, by omega⟩, ⟨by omega, by omega⟩⟩, by omega⟩ ?_
      refine ax_bdI0 (e := (ax_wr ((M a0 (128 + (i : Int)).toNat) - (M a0 (128 + v2).toNat)))) (fun y4 => [(4, (0, 0, y4)), (0, (3, 274, (a0 : Int))), (1, (0, 0, w1)), (2, (0, 0, v2)), (3, (0, 0, (i : Int)))]) (fun y4 => []) (fun y4 => ?_)
      refine ax_lump ax_layM ok_kX3 [(44, .iload 4, 2, 0, 0, 0)] (pc' := 46) (lc' := [(4, (0, 0, y4)), (0, (3, 274, (a0 : Int))), (1, (0, 0, w1)), (2, (0, 0, v2)), (3, (0, 0, (i : Int)))]) (st' := [(0, 0, y4)]) (M' := M) (C' := True) (by decide +kernel) rfl trivial ?_
      refine ax_zgt (off := 21) (tgt := 67) (by decide +kernel) (by decide) (fun h5 => ?_) (fun h5 => ?_)
      · refine ax_lump ax_layM ok_kX3 [(67, .iload_n 3, 1, 0, 0, 0), (68, .goto 4, 3, 72, 0, 0), (72, .istore_n 2, 1, 0, 0, 0), (73, .iinc 3 1, 3, 1, 0, 0), (76, .goto (-72), 3, 4, 0, 0)] (pc' := 4) (lc' := [(3, (0, 0, ((i : Int) + 1))), (2, (0, 0, (i : Int))), (4, (0, 0, y4)), (0, (3, 274, (a0 : Int))), (1, (0, 0, w1))]) (st' := []) (M' := M) (C' := (True ∧ ax_r32 ((i : Int) + 1))) (by decide +kernel) rfl ⟨trivial, ⟨by omega, by omega⟩⟩ ?_
        refine ax_pk [3,4,1,0] (lc' := [(0, (3, 274, (a0 : Int))), (1, (0, 0, w1)), (2, (0, 0, (i : Int))), (3, (0, 0, ((i : Int) + 1)))]) rfl ?_
        exact hkc (i : Int) (by omega)
      · refine ax_lump ax_layM ok_kX3 [(49, .iload 4, 2, 0, 0, 0)] (pc' := 51) (lc' := [(4, (0, 0, y4)), (0, (3, 274, (a0 : Int))), (1, (0, 0, w1)), (2, (0, 0, v2)), (3, (0, 0, (i : Int)))]) (st' := [(0, 0, y4)]) (M' := M) (C' := True) (by decide +kernel) rfl trivial ?_
        refine ax_zne (off := 20) (tgt := 71) (by decide +kernel) (by decide) (fun h6 => ?_) (fun h6 => ?_)
        · refine ax_lump ax_layM ok_kX3 [(71, .iload_n 2, 1, 0, 0, 0), (72, .istore_n 2, 1, 0, 0, 0), (73, .iinc 3 1, 3, 1, 0, 0), (76, .goto (-72), 3, 4, 0, 0)] (pc' := 4) (lc' := [(3, (0, 0, ((i : Int) + 1))), (2, (0, 0, v2)), (4, (0, 0, y4)), (0, (3, 274, (a0 : Int))), (1, (0, 0, w1))]) (st' := []) (M' := M) (C' := (True ∧ ax_r32 ((i : Int) + 1))) (by decide +kernel) rfl ⟨trivial, ⟨by omega, by omega⟩⟩ ?_
          refine ax_pk [3,4,1,0] (lc' := [(0, (3, 274, (a0 : Int))), (1, (0, 0, w1)), (2, (0, 0, v2)), (3, (0, 0, ((i : Int) + 1)))]) rfl ?_
          exact hkc v2 (by omega)
        · refine ax_lump ax_layM ok_kX3 [(54, .aload_n 0, 1, 0, 0, 0), (55, .iload_n 3, 1, 0, 0, 0)] (pc' := 56) (lc' := [(4, (0, 0, y4)), (0, (3, 274, (a0 : Int))), (1, (0, 0, w1)), (2, (0, 0, v2)), (3, (0, 0, (i : Int)))]) (st' := [(0, 0, (i : Int)), (3, 274, (a0 : Int))]) (M' := M) (C' := True) (by decide +kernel) rfl trivial ?_
          refine ax_cSi (G1 := gX3_rankOf) (d1 := d + 1) (i := 192) (n := 2) (as := [(3, 274, (a0 : Int)), (0, 0, (i : Int))]) (st := []) (by decide +kernel) calX3_rankOf (by omega) rfl wt_1110 wt_1111 (Nat.le_of_ble_eq_true rfl) rfl (c_X3_rankOf d a0 (i : Int) M (by omega)) (fun hc7 => ?_)
          refine ax_lump ax_layM ok_kX3 [(59, .aload_n 0, 1, 0, 0, 0), (60, .iload_n 2, 1, 0, 0, 0)] (pc' := 61) (lc' := [(4, (0, 0, y4)), (0, (3, 274, (a0 : Int))), (1, (0, 0, w1)), (2, (0, 0, v2)), (3, (0, 0, (i : Int)))]) (st' := [(0, 0, v2), (3, 274, (a0 : Int)), (0, 0, (f_X3_rankOf a0 (i : Int) M))]) (M' := M) (C' := True) (by decide +kernel) rfl trivial ?_
          refine ax_cSi (G1 := gX3_rankOf) (d1 := d + 1) (i := 192) (n := 2) (as := [(3, 274, (a0 : Int)), (0, 0, v2)]) (st := [(0, 0, (f_X3_rankOf a0 (i : Int) M))]) (by decide +kernel) calX3_rankOf (by omega) rfl wt_1110 wt_1111 (Nat.le_of_ble_eq_true rfl) rfl (c_X3_rankOf d a0 v2 M (by omega)) (fun hc8 => ?_)
          refine ax_jge (off := 7) (tgt := 71) (by decide +kernel) (by decide) (fun h9 => ?_) (fun h9 => ?_)
          · refine ax_lump ax_layM ok_kX3 [(71, .iload_n 2, 1, 0, 0, 0), (72, .istore_n 2, 1, 0, 0, 0), (73, .iinc 3 1, 3, 1, 0, 0), (76, .goto (-72), 3, 4, 0, 0)] (pc' := 4) (lc' := [(3, (0, 0, ((i : Int) + 1))), (2, (0, 0, v2)), (4, (0, 0, y4)), (0, (3, 274, (a0 : Int))), (1, (0, 0, w1))]) (st' := []) (M' := M) (C' := (True ∧ ax_r32 ((i : Int) + 1))) (by decide +kernel) rfl ⟨trivial, ⟨by omega, by omega⟩⟩ ?_
            refine ax_pk [3,4,1,0] (lc' := [(0, (3, 274, (a0 : Int))), (1, (0, 0, w1)), (2, (0, 0, v2)), (3, (0, 0, ((i : Int) + 1)))]) rfl ?_
            exact hkc v2 (by omega)
          · refine ax_lump ax_layM ok_kX3 [(67, .iload_n 3, 1, 0, 0, 0), (68, .goto 4, 3, 72, 0, 0), (72, .istore_n 2, 1, 0, 0, 0), (73, .iinc 3 1, 3, 1, 0, 0), (76, .goto (-72), 3, 4, 0, 0)] (pc' := 4) (lc' := [(3, (0, 0, ((i : Int) + 1))), (2, (0, 0, (i : Int))), (4, (0, 0, y4)), (0, (3, 274, (a0 : Int))), (1, (0, 0, w1))]) (st' := []) (M' := M) (C' := (True ∧ ax_r32 ((i : Int) + 1))) (by decide +kernel) rfl ⟨trivial, ⟨by omega, by omega⟩⟩ ?_
            refine ax_pk [3,4,1,0] (lc' := [(0, (3, 274, (a0 : Int))), (1, (0, 0, w1)), (2, (0, 0, (i : Int))), (3, (0, 0, ((i : Int) + 1)))]) rfl ?_
            exact hkc (i : Int) (by omega)
    · refine ax_lump ax_layM ok_kX3 [(23, .iconst 1, 1, 0, 0, 0), (24, .goto 18, 3, 42, 0, 0), (42, .istore 4, 2, 0, 0, 0), (44, .iload 4, 2, 0, 0, 0)] (pc' := 46) (lc' := [(4, (0, 0, 1)), (0, (3, 274, (a0 : Int))), (1, (0, 0, w1)), (2, (0, 0, v2)), (3, (0, 0, (i : Int)))]) (st' := [(0, 0, 1)]) (M' := M) (C' := True) (by decide +kernel) rfl trivial ?_
      refine ax_if_gt (off := 21) (tgt := 67) (by decide +kernel) (by decide) (fun h10 => ?_) (fun h10 => ?_)
      · refine ax_lump ax_layM ok_kX3 [(67, .iload_n 3, 1, 0, 0, 0), (68, .goto 4, 3, 72, 0, 0), (72, .istore_n 2, 1, 0, 0, 0), (73, .iinc 3 1, 3, 1, 0, 0), (76, .goto (-72), 3, 4, 0, 0)] (pc' := 4) (lc' := [(3, (0, 0, ((i : Int) + 1))), (2, (0, 0, (i : Int))), (4, (0, 0, 1)), (0, (3, 274, (a0 : Int))), (1, (0, 0, w1))]) (st' := []) (M' := M) (C' := (True ∧ ax_r32 ((i : Int) + 1))) (by decide +kernel) rfl ⟨trivial, ⟨by omega, by omega⟩⟩ ?_
        refine ax_pk [3,4,1,0] (lc' := [(0, (3, 274, (a0 : Int))), (1, (0, 0, w1)), (2, (0, 0, (i : Int))), (3, (0, 0, ((i : Int) + 1)))]) rfl ?_
        exact hkc (i : Int) (by omega)
      · exfalso; omega
set_option maxRecDepth 100000 in
set_option maxHeartbeats 4000000 in
theorem w_X3_latest_L4 (d : Nat) (a0 : Nat) (w1 : Int) (M : ax_M) (kx : Int → Int)  (hkx : ∀ (x2 : Int), (((-1) ≤ x2 ∧ x2 ≤ 63)) → ax_W ax_LM gX3_latest (d + 2) 79 [(2, (0, 0, x2))] [] M ((ax_qi (-1) 63 M) (kx x2))) : ∀ (n : Nat) (i : Nat) (v2 : Int), 0 ≤ i ∧ i + n = 64 → (-1) ≤ v2 ∧ v2 ≤ 63 → ax_W ax_LM gX3_latest (d + 2) 4 [(0, (3, 274, (a0 : Int))), (1, (0, 0, w1)), (2, (0, 0, v2)), (3, (0, 0, (i : Int)))] [] M ((ax_qi (-1) 63 M) (f_X3_latest_L4 a0 w1 M n i v2 kx)) := by
  intro n
  induction n with
  | zero =>
    intro i v2 hin hv2
    refine ax_lump ax_layM ok_kX3 [(4, .iload_n 3, 1, 0, 0, 0), (5, .bipush 64, 2, 0, 0, 0)] (pc' := 7) (lc' := [(0, (3, 274, (a0 : Int))), (1, (0, 0, w1)), (2, (0, 0, v2)), (3, (0, 0, (i : Int)))]) (st' := [(0, 0, 64), (0, 0, (i : Int))]) (M' := M) (C' := True) (by decide +kernel) rfl trivial ?_
    refine ax_icmp_ge (off := 72) (tgt := 79) (by decide +kernel) (by decide) (fun h => ?_) (fun h => ?_)
    · refine ax_pk [2] (lc' := [(2, (0, 0, v2))]) rfl ?_
      exact hkx v2 (by omega)
    · exfalso; omega
  | succ n ih =>
    intro i v2 hin hv2
    refine ax_lump ax_layM ok_kX3 [(4, .iload_n 3, 1, 0, 0, 0), (5, .bipush 64, 2, 0, 0, 0)] (pc' := 7) (lc' := [(0, (3, 274, (a0 : Int))), (1, (0, 0, w1)), (2, (0, 0, v2)), (3, (0, 0, (i : Int)))]) (st' := [(0, 0, 64), (0, 0, (i : Int))]) (M' := M) (C' := True) (by decide +kernel) rfl trivial ?_
    refine ax_icmp_ge (off := 72) (tgt := 79) (by decide +kernel) (by decide) (fun h => ?_) (fun h => ?_)
    · exfalso; omega
    · exact wb_X3_latest_B4 d a0 w1 M i v2 _ kx  (by omega) hv2 (fun u2 hu2 => ih (i + 1) u2 (by omega) hu2) hkx
def f_X3_latest (a0 : Nat) (x1 : Int) (M : ax_M) : Int := f_X3_latest_L4 a0 x1 M 64 0 (-1) (fun z11 => z11)
set_option maxRecDepth 100000 in
set_option maxHeartbeats 4000000 in
theorem c_X3_latest (d : Nat) (a0 : Nat) (x1 : Int) (M : ax_M)  : ax_Met ax_LM gX3_latest (d + 2) [(3, 274, (a0 : Int)), (0, 0, x1)] M ((ax_qi (-1) 63 M) (f_X3_latest a0 x1 M)) := by
  refine ax_body (by decide) (fun X => Nat.le_of_ble_eq_true rfl) (fun hok => ?_)
  have hr_x1 : (-2147483648) ≤ x1 ∧ x1 ≤ 2147483647 := hok (0, 0, x1) (by simp)
  show ax_W ax_LM gX3_latest (d + 2) 0 [(0, (3, 274, (a0 : Int))), (1, (0, 0, x1))] [] M _
  unfold f_X3_latest
  refine ax_lump ax_layM ok_kX3 [(0, .iconst (-1), 1, 0, 0, 0), (1, .istore_n 2, 1, 0, 0, 0), (2, .iconst 0, 1, 0, 0, 0), (3, .istore_n 3, 1, 0, 0, 0)] (pc' := 4) (lc' := [(3, (0, 0, 0)), (2, (0, 0, (-1))), (0, (3, 274, (a0 : Int))), (1, (0, 0, x1))]) (st' := []) (M' := M) (C' := True) (by decide +kernel) rfl trivial ?_
  refine ax_pk [2,3,1,0] (lc' := [(0, (3, 274, (a0 : Int))), (1, (0, 0, x1)), (2, (0, 0, (-1))), (3, (0, 0, 0))]) rfl ?_
  refine w_X3_latest_L4 d a0 x1 M _  (fun z11 hx_11 => ?_) 64 0 (-1) (by omega) (by omega)
  refine ax_lump ax_layM ok_kX3 [(79, .iload_n 2, 1, 0, 0, 0)] (pc' := 80) (lc' := [(2, (0, 0, z11))]) (st' := [(0, 0, z11)]) (M' := M) (C' := True) (by decide +kernel) rfl trivial ?_
  exact ax_iret (by decide +kernel) rfl ⟨rfl, rfl, (show ((-1) : Int) ≤ z11 from by omega), (show z11 ≤ (63 : Int) from by omega)⟩
def f_X3_isLatest (a0 : Nat) (x1 : Int) (M : ax_M) : Int := (if (f_X3_isWritten a0 x1 M) = 0 then 0 else (if (f_X3_latest a0 (f_X3_pageAt a0 x1 M) M) ≠ x1 then 0 else 1))
set_option maxRecDepth 100000 in
set_option maxHeartbeats 4000000 in
theorem c_X3_isLatest (d : Nat) (a0 : Nat) (x1 : Int) (M : ax_M) (hp1 : 0 ≤ x1 ∧ x1 ≤ 63) : ax_Met ax_LM gX3_isLatest (d + 3) [(3, 274, (a0 : Int)), (0, 0, x1)] M ((ax_qi 0 1 M) (f_X3_isLatest a0 x1 M)) := by
  refine ax_body (by decide) (fun X => Nat.le_of_ble_eq_true rfl) (fun hok => ?_)
  have hr_x1 : (-2147483648) ≤ x1 ∧ x1 ≤ 2147483647 := hok (0, 0, x1) (by simp)
  show ax_W ax_LM gX3_isLatest (d + 3) 0 [(0, (3, 274, (a0 : Int))), (1, (0, 0, x1))] [] M _
  unfold f_X3_isLatest
  refine ax_lump ax_layM ok_kX3 [(0, .aload_n 0, 1, 0, 0, 0), (1, .iload_n 1, 1, 0, 0, 0)] (pc' := 2) (lc' := [(0, (3, 274, (a0 : Int))), (1, (0, 0, x1))]) (st' := [(0, 0, x1), (3, 274, (a0 : Int))]) (M' := M) (C' := True) (by decide +kernel) rfl trivial ?_
  refine ax_cSi (G1 := gX3_isWritten) (d1 := d + 0) (i := 195) (n := 2) (as := [(3, 274, (a0 : Int)), (0, 0, x1)]) (st := []) (by decide +kernel) calX3_isWritten (by omega) rfl wt_1098 wt_1099 (Nat.le_of_ble_eq_true rfl) rfl (c_X3_isWritten d a0 x1 M (by omega)) (fun hc1 => ?_)
  refine ax_zeq (off := 20) (tgt := 25) (by decide +kernel) (by decide) (fun h2 => ?_) (fun h2 => ?_)
  · refine ax_lump ax_layM ok_kX3 [(25, .iconst 0, 1, 0, 0, 0)] (pc' := 26) (lc' := [(0, (3, 274, (a0 : Int))), (1, (0, 0, x1))]) (st' := [(0, 0, 0)]) (M' := M) (C' := True) (by decide +kernel) rfl trivial ?_
    exact ax_zret (by decide +kernel) rfl (by omega) ⟨rfl, rfl, (show (0 : Int) ≤ 0 from by omega), (show 0 ≤ (1 : Int) from by omega)⟩
  · refine ax_lump ax_layM ok_kX3 [(8, .aload_n 0, 1, 0, 0, 0), (9, .aload_n 0, 1, 0, 0, 0), (10, .iload_n 1, 1, 0, 0, 0)] (pc' := 11) (lc' := [(0, (3, 274, (a0 : Int))), (1, (0, 0, x1))]) (st' := [(0, 0, x1), (3, 274, (a0 : Int)), (3, 274, (a0 : Int))]) (M' := M) (C' := True) (by decide +kernel) rfl trivial ?_
    refine ax_cSi (G1 := gX3_pageAt) (d1 := d + 0) (i := 188) (n := 2) (as := [(3, 274, (a0 : Int)), (0, 0, x1)]) (st := [(3, 274, (a0 : Int))]) (by decide +kernel) calX3_pageAt (by omega) rfl wt_1104 wt_1105 (Nat.le_of_ble_eq_true rfl) rfl (c_X3_pageAt d a0 x1 M (by omega)) (fun hc3 => ?_)
    refine ax_cSi (G1 := gX3_latest) (d1 := d + 2) (i := 199) (n := 2) (as := [(3, 274, (a0 : Int)), (0, 0, (f_X3_pageAt a0 x1 M))]) (st := []) (by decide +kernel) calX3_latest (by omega) rfl wt_1107 wt_1108 (Nat.le_of_ble_eq_true rfl) rfl (c_X3_latest d a0 (f_X3_pageAt a0 x1 M) M) (fun hc4 => ?_)
    refine ax_lump ax_layM ok_kX3 [(17, .iload_n 1, 1, 0, 0, 0)] (pc' := 18) (lc' := [(0, (3, 274, (a0 : Int))), (1, (0, 0, x1))]) (st' := [(0, 0, x1), (0, 0, (f_X3_latest a0 (f_X3_pageAt a0 x1 M) M))]) (M' := M) (C' := True) (by decide +kernel) rfl trivial ?_
    refine ax_jne (off := 7) (tgt := 25) (by decide +kernel) (by decide) (fun h5 => ?_) (fun h5 => ?_)
    · refine ax_lump ax_layM ok_kX3 [(25, .iconst 0, 1, 0, 0, 0)] (pc' := 26) (lc' := [(0, (3, 274, (a0 : Int))), (1, (0, 0, x1))]) (st' := [(0, 0, 0)]) (M' := M) (C' := True) (by decide +kernel) rfl trivial ?_
      exact ax_zret (by decide +kernel) rfl (by omega) ⟨rfl, rfl, (show (0 : Int) ≤ 0 from by omega), (show 0 ≤ (1 : Int) from by omega)⟩
    · refine ax_lump ax_layM ok_kX3 [(21, .iconst 1, 1, 0, 0, 0), (22, .goto 4, 3, 26, 0, 0)] (pc' := 26) (lc' := [(0, (3, 274, (a0 : Int))), (1, (0, 0, x1))]) (st' := [(0, 0, 1)]) (M' := M) (C' := True) (by decide +kernel) rfl trivial ?_
      exact ax_zret (by decide +kernel) rfl (by omega) ⟨rfl, rfl, (show (0 : Int) ≤ 1 from by omega), (show 1 ≤ (1 : Int) from by omega)⟩
def f_X3_counts (a0 : Nat) (x1 : Int) (M : ax_M) : ax_M := ax_bd (ax_up M a0 x1.toNat (if (ax_wr ((M a0 x1.toNat) + 1)) < 99999 then (ax_wr ((M a0 x1.toNat) + 1)) else 99999)) (fun M1 => M1)
set_option maxRecDepth 100000 in
set_option maxHeartbeats 4000000 in
theorem c_X3_counts (d : Nat) (a0 : Nat) (x1 : Int) (M : ax_M) (hp1 : 264 ≤ x1 ∧ x1 ≤ 269) : ax_Met ax_LM gX3_counts (d + 1) [(3, 274, (a0 : Int)), (0, 0, x1)] M (ax_qv (f_X3_counts a0 x1 M)) := by
  refine ax_body (by decide) (fun X => Nat.le_of_ble_eq_true rfl) (fun hok => ?_)
  have hr_x1 : (-2147483648) ≤ x1 ∧ x1 ≤ 2147483647 := hok (0, 0, x1) (by simp)
  show ax_W ax_LM gX3_counts (d + 1) 0 [(0, (3, 274, (a0 : Int))), (1, (0, 0, x1))] [] M _
  unfold f_X3_counts
  refine ax_lump ax_layM ok_kX3 [(0, .aload_n 0, 1, 0, 0, 0), (1, .iload_n 1, 1, 0, 0, 0), (2, .ldc 202, 2, 0, 0, 99999), (4, .aload_n 0, 1, 0, 0, 0), (5, .iload_n 1, 1, 0, 0, 0), (6, .iaload, 1, 0, 0, 0), (7, .iconst 1, 1, 0, 0, 0), (8, .iadd, 1, 0, 0, 0)] (pc' := 9) (lc' := [(0, (3, 274, (a0 : Int))), (1, (0, 0, x1))]) (st' := [(0, 0, (ax_wr ((M a0 x1.toNat) + 1))), (0, 0, 99999), (0, 0, x1), (3, 274, (a0 : Int))]) (M' := M) (C' := (True ∧ (0 ≤ x1 ∧ x1 < ((274 : Nat) : Int)))) (by decide +kernel) rfl ⟨trivial, by omega⟩ ?_
  refine ax_mmin (i := 35) (by decide +kernel) (by omega) (Nat.le_of_ble_eq_true rfl) wt_891 wt_266 wt_8 wt_267 ?_
  refine ax_lump ax_layM ok_kX3 [(12, .iastore, 1, 0, 0, 0)] (pc' := 13) (lc' := [(0, (3, 274, (a0 : Int))), (1, (0, 0, x1))]) (st' := []) (M' := (ax_up M a0 x1.toNat (if (ax_wr ((M a0 x1.toNat) + 1)) < 99999 then (ax_wr ((M a0 x1.toNat) + 1)) else 99999))) (C' := (True ∧ (0 ≤ x1 ∧ x1 < ((274 : Nat) : Int)))) (by decide +kernel) rfl ⟨trivial, by omega⟩ ?_
  refine ax_bdMe (fun M1 hM_M1 => ?_)
  exact ax_vret (by decide +kernel) rfl ⟨rfl, rfl⟩
def f_X3_tellsStep (x1 : Int) (x2 : Int) (x3 : Int) (x4 : Int) (M : ax_M) : ax_M := (if 400 ≤ (M 0 20) then M else ax_bd (ax_up M 9 (M 0 20).toNat x1) (fun M3 => ax_bd (ax_up M3 10 (M3 0 20).toNat x2) (fun M5 => ax_bd (ax_up M5 11 (M5 0 20).toNat x3) (fun M7 => ax_bd (ax_up M7 12 (M7 0 20).toNat x4) (fun M9 => ax_bd (ax_up M9 0 20 ((M9 0 20) + 1)) (fun M11 => M11))))))
set_option maxRecDepth 100000 in
set_option maxHeartbeats 4000000 in
theorem c_X3_tellsStep (d : Nat) (x1 : Int) (x2 : Int) (x3 : Int) (x4 : Int) (M : ax_M)  : ax_Met ax_LM gX3_tellsStep (d + 0) [(2, 3, 0), (0, 0, x1), (0, 0, x2), (0, 0, x3), (0, 0, x4)] M (ax_qv (f_X3_tellsStep x1 x2 x3 x4 M)) := by
  refine ax_body (by decide) (fun X => Nat.le_of_ble_eq_true rfl) (fun hok => ?_)
  have hr_x1 : (-2147483648) ≤ x1 ∧ x1 ≤ 2147483647 := hok (0, 0, x1) (by simp)
  have hr_x2 : (-2147483648) ≤ x2 ∧ x2 ≤ 2147483647 := hok (0, 0, x2) (by simp)
  have hr_x3 : (-2147483648) ≤ x3 ∧ x3 ≤ 2147483647 := hok (0, 0, x3) (by simp)
  have hr_x4 : (-2147483648) ≤ x4 ∧ x4 ≤ 2147483647 := hok (0, 0, x4) (by simp)
  show ax_W ax_LM gX3_tellsStep (d + 0) 0 [(0, (2, 3, 0)), (1, (0, 0, x1)), (2, (0, 0, x2)), (3, (0, 0, x3)), (4, (0, 0, x4))] [] M _
  unfold f_X3_tellsStep
  refine ax_fact (i := 0) (c := 3) (f := 20) (hi := 400) (s := 0) (by simp) rfl rfl rfl (fun hf1 => ?_)
  have hf1 : 0 ≤ (M 0 20) ∧ (M 0 20) ≤ 400 := hf1
  refine ax_lump ax_layM ok_kX3 [(0, .aload_n 0, 1, 0, 0, 0), (1, .getfield 203, 3, 3, 20, 0), (4, .sipush 400, 3, 0, 0, 0)] (pc' := 7) (lc' := [(0, (2, 3, 0)), (1, (0, 0, x1)), (2, (0, 0, x2)), (3, (0, 0, x3)), (4, (0, 0, x4))]) (st' := [(0, 0, 400), (0, 0, (M 0 20))]) (M' := M) (C' := True) (by decide +kernel) rfl trivial ?_
  refine ax_jge (off := 54) (tgt := 61) (by decide +kernel) (by decide) (fun h2 => ?_) (fun h2 => ?_)
  · exact ax_vret (by decide +kernel) rfl ⟨rfl, rfl⟩
  · refine ax_lump ax_layM ok_kX3 [(10, .aload_n 0, 1, 0, 0, 0), (11, .getfield 144, 3, 3, 16, 0), (14, .aload_n 0, 1, 0, 0, 0), (15, .getfield 203, 3, 3, 20, 0), (18, .iload_n 1, 1, 0, 0, 0), (19, .iastore, 1, 0, 0, 0)] (pc' := 20) (lc' := [(0, (2, 3, 0)), (1, (0, 0, x1)), (2, (0, 0, x2)), (3, (0, 0, x3)), (4, (0, 0, x4))]) (st' := []) (M' := (ax_up M 9 (M 0 20).toNat x1)) (C' := (True ∧ (0 ≤ (M 0 20) ∧ (M 0 20) < ((400 : Nat) : Int)))) (by decide +kernel) rfl ⟨trivial, by omega⟩ ?_
    refine ax_bdMe (fun M3 hM_M3 => ?_)
    have hk_k4 : (M3 0 20) = (M 0 20) := by rw [hM_M3]; exact ax_up_o1 (by omega)
    refine ax_lump ax_layM ok_kX3 [(20, .aload_n 0, 1, 0, 0, 0), (21, .getfield 147, 3, 3, 17, 0), (24, .aload_n 0, 1, 0, 0, 0), (25, .getfield 203, 3, 3, 20, 0), (28, .iload_n 2, 1, 0, 0, 0), (29, .iastore, 1, 0, 0, 0)] (pc' := 30) (lc' := [(0, (2, 3, 0)), (1, (0, 0, x1)), (2, (0, 0, x2)), (3, (0, 0, x3)), (4, (0, 0, x4))]) (st' := []) (M' := (ax_up M3 10 (M3 0 20).toNat x2)) (C' := (True ∧ (0 ≤ (M3 0 20) ∧ (M3 0 20) < ((400 : Nat) : Int)))) (by decide +kernel) rfl ⟨trivial, by omega⟩ ?_
    refine ax_bdMe (fun M5 hM_M5 => ?_)
    have hk_k6 : (M5 0 20) = (M3 0 20) := by rw [hM_M5]; exact ax_up_o1 (by omega)
    refine ax_lump ax_layM ok_kX3 [(30, .aload_n 0, 1, 0, 0, 0), (31, .getfield 150, 3, 3, 18, 0), (34, .aload_n 0, 1, 0, 0, 0), (35, .getfield 203, 3, 3, 20, 0), (38, .iload_n 3, 1, 0, 0, 0), (39, .iastore, 1, 0, 0, 0)] (pc' := 40) (lc' := [(0, (2, 3, 0)), (1, (0, 0, x1)), (2, (0, 0, x2)), (3, (0, 0, x3)), (4, (0, 0, x4))]) (st' := []) (M' := (ax_up M5 11 (M5 0 20).toNat x3)) (C' := (True ∧ (0 ≤ (M5 0 20) ∧ (M5 0 20) < ((400 : Nat) : Int)))) (by decide +kernel) rfl ⟨trivial, by omega⟩ ?_
    refine ax_bdMe (fun M7 hM_M7 => ?_)
    have hk_k8 : (M7 0 20) = (M5 0 20) := by rw [hM_M7]; exact ax_up_o1 (by omega)
    refine ax_lump ax_layM ok_kX3 [(40, .aload_n 0, 1, 0, 0, 0), (41, .getfield 153, 3, 3, 19, 0), (44, .aload_n 0, 1, 0, 0, 0), (45, .getfield 203, 3, 3, 20, 0), (48, .iload 4, 2, 0, 0, 0), (50, .iastore, 1, 0, 0, 0)] (pc' := 51) (lc' := [(0, (2, 3, 0)), (1, (0, 0, x1)), (2, (0, 0, x2)), (3, (0, 0, x3)), (4, (0, 0, x4))]) (st' := []) (M' := (ax_up M7 12 (M7 0 20).toNat x4)) (C' := (True ∧ (0 ≤ (M7 0 20) ∧ (M7 0 20) < ((400 : Nat) : Int)))) (by decide +kernel) rfl ⟨trivial, by omega⟩ ?_
    refine ax_bdMe (fun M9 hM_M9 => ?_)
    have hk_k10 : (M9 0 20) = (M7 0 20) := by rw [hM_M9]; exact ax_up_o1 (by omega)
    refine ax_lump ax_layM ok_kX3 [(51, .aload_n 0, 1, 0, 0, 0), (52, .dup, 1, 0, 0, 0), (53, .getfield 203, 3, 3, 20, 0), (56, .iconst 1, 1, 0, 0, 0), (57, .iadd, 1, 1, 0, 0), (58, .putfield 203, 3, 3, 20, 0)] (pc' := 61) (lc' := [(0, (2, 3, 0)), (1, (0, 0, x1)), (2, (0, 0, x2)), (3, (0, 0, x3)), (4, (0, 0, x4))]) (st' := []) (M' := (ax_up M9 0 20 ((M9 0 20) + 1))) (C' := ((True ∧ ax_r32 ((M9 0 20) + 1)) ∧ (0 ≤ ((M9 0 20) + 1) ∧ ((M9 0 20) + 1) < ((401 : Nat) : Int)))) (by decide +kernel) rfl ⟨⟨trivial, ⟨by omega, by omega⟩⟩, by omega⟩ ?_
    refine ax_bdMe (fun M11 hM_M11 => ?_)
    have hk_k12 : (M11 0 20) = ((M9 0 20) + 1) := by rw [hM_M11]; exact ax_up_s
    exact ax_vret (by decide +kernel) rfl ⟨rfl, rfl⟩
def f_X3_puts (a1 : Nat) (x2 : Int) (x3 : Int) (x4 : Int) (x5 : Int) (M : ax_M) : ax_M := ax_bd (ax_up M a1 x2.toNat (ax_wr (x3 + 1))) (fun M1 => ax_bd (ax_up M1 a1 (64 + x2).toNat x4) (fun M2 => ax_bd (ax_up M2 a1 (128 + x2).toNat x5) (fun M3 => ax_bd (f_X3_tellsStep x2 x3 x4 x5 M3) (fun M4 => M4))))
set_option maxRecDepth 100000 in
set_option maxHeartbeats 4000000 in
theorem c_X3_puts (d : Nat) (a1 : Nat) (x2 : Int) (x3 : Int) (x4 : Int) (x5 : Int) (M : ax_M) (hp1 : 0 ≤ x2 ∧ x2 ≤ 63) : ax_Met ax_LM gX3_puts (d + 1) [(2, 3, 0), (3, 274, (a1 : Int)), (0, 0, x2), (0, 0, x3), (0, 0, x4), (0, 0, x5)] M (ax_qv (f_X3_puts a1 x2 x3 x4 x5 M)) := by
  refine ax_body (by decide) (fun X => Nat.le_of_ble_eq_true rfl) (fun hok => ?_)
  have hr_x2 : (-2147483648) ≤ x2 ∧ x2 ≤ 2147483647 := hok (0, 0, x2) (by simp)
  have hr_x3 : (-2147483648) ≤ x3 ∧ x3 ≤ 2147483647 := hok (0, 0, x3) (by simp)
  have hr_x4 : (-2147483648) ≤ x4 ∧ x4 ≤ 2147483647 := hok (0, 0, x4) (by simp)
  have hr_x5 : (-2147483648) ≤ x5 ∧ x5 ≤ 2147483647 := hok (0, 0, x5) (by simp)
  show ax_W ax_LM gX3_puts (d + 1) 0 [(0, (2, 3, 0)), (1, (3, 274, (a1 : Int))), (2, (0, 0, x2)), (3, (0, 0, x3)), (4, (0, 0, x4)), (5, (0, 0, x5))] [] M _
  unfold f_X3_puts
  refine ax_lump ax_layM ok_kX3 [(0, .aload_n 1, 1, 0, 0, 0), (1, .iload_n 2, 1, 0, 0, 0), (2, .iload_n 3, 1, 0, 0, 0), (3, .iconst 1, 1, 0, 0, 0), (4, .iadd, 1, 0, 0, 0), (5, .iastore, 1, 0, 0, 0)] (pc' := 6) (lc' := [(0, (2, 3, 0)), (1, (3, 274, (a1 : Int))), (2, (0, 0, x2)), (3, (0, 0, x3)), (4, (0, 0, x4)), (5, (0, 0, x5))]) (st' := []) (M' := (ax_up M a1 x2.toNat (ax_wr (x3 + 1)))) (C' := (True ∧ (0 ≤ x2 ∧ x2 < ((274 : Nat) : Int)))) (by decide +kernel) rfl ⟨trivial, by omega⟩ ?_
  refine ax_bdMe (fun M1 hM_M1 => ?_)
  refine ax_lump ax_layM ok_kX3 [(6, .aload_n 1, 1, 0, 0, 0), (7, .bipush 64, 2, 0, 0, 0), (9, .iload_n 2, 1, 0, 0, 0), (10, .iadd, 1, 1, 0, 0), (11, .iload 4, 2, 0, 0, 0), (13, .iastore, 1, 0, 0, 0)] (pc' := 14) (lc' := [(0, (2, 3, 0)), (1, (3, 274, (a1 : Int))), (2, (0, 0, x2)), (3, (0, 0, x3)), (4, (0, 0, x4)), (5, (0, 0, x5))]) (st' := []) (M' := (ax_up M1 a1 (64 + x2).toNat x4)) (C' := ((True ∧ ax_r32 (64 + x2)) ∧ (0 ≤ (64 + x2) ∧ (64 + x2) < ((274 : Nat) : Int)))) (by decide +kernel) rfl ⟨⟨trivial, ⟨by omega, by omega⟩⟩, by omega⟩ ?_
  refine ax_bdMe (fun M2 hM_M2 => ?_)
  refine ax_lump ax_layM ok_kX3 [(14, .aload_n 1, 1, 0, 0, 0), (15, .sipush 128, 3, 0, 0, 0), (18, .iload_n 2, 1, 0, 0, 0), (19, .iadd, 1, 1, 0, 0), (20, .iload 5, 2, 0, 0, 0), (22, .iastore, 1, 0, 0, 0)] (pc' := 23) (lc' := [(0, (2, 3, 0)), (1, (3, 274, (a1 : Int))), (2, (0, 0, x2)), (3, (0, 0, x3)), (4, (0, 0, x4)), (5, (0, 0, x5))]) (st' := []) (M' := (ax_up M2 a1 (128 + x2).toNat x5)) (C' := ((True ∧ ax_r32 (128 + x2)) ∧ (0 ≤ (128 + x2) ∧ (128 + x2) < ((274 : Nat) : Int)))) (by decide +kernel) rfl ⟨⟨trivial, ⟨by omega, by omega⟩⟩, by omega⟩ ?_
  refine ax_bdMe (fun M3 hM_M3 => ?_)
  refine ax_lump ax_layM ok_kX3 [(23, .aload_n 0, 1, 0, 0, 0), (24, .iload_n 2, 1, 0, 0, 0), (25, .iload_n 3, 1, 0, 0, 0), (26, .iload 4, 2, 0, 0, 0), (28, .iload 5, 2, 0, 0, 0)] (pc' := 30) (lc' := [(0, (2, 3, 0)), (1, (3, 274, (a1 : Int))), (2, (0, 0, x2)), (3, (0, 0, x3)), (4, (0, 0, x4)), (5, (0, 0, x5))]) (st' := [(0, 0, x5), (0, 0, x4), (0, 0, x3), (0, 0, x2), (2, 3, 0)]) (M' := M3) (C' := True) (by decide +kernel) rfl trivial ?_
  refine ax_cVv (G1 := gX3_tellsStep) (d1 := d + 0) (i := 206) (n := 4) (as := [(0, 0, x2), (0, 0, x3), (0, 0, x4), (0, 0, x5)]) (st := []) (c := 3) (a := 0) (by decide +kernel) ax_cls3 calX3_tellsStep (by omega) rfl wt_1184 wt_1186 ws_90 (Nat.le_of_ble_eq_true rfl) rfl (c_X3_tellsStep d x2 x3 x4 x5 M3) (fun M4 => ?_)
  exact ax_vret (by decide +kernel) rfl ⟨rfl, rfl⟩
def f_X3_copiesLeaf (a1 : Nat) (x2 : Int) (x3 : Int) (M : ax_M) : ax_M := ax_bd (f_X3_puts a1 x3 (f_X3_pageAt a1 x2 M) (M a1 (64 + x2).toNat) (M a1 (128 + x2).toNat) M) (fun M2 => ax_bd (f_X3_counts a1 265 M2) (fun M3 => M3))
set_option maxRecDepth 100000 in
set_option maxHeartbeats 4000000 in
theorem c_X3_copiesLeaf (d : Nat) (a1 : Nat) (x2 : Int) (x3 : Int) (M : ax_M) (hp1 : 0 ≤ x2 ∧ x2 ≤ 63) (hp2 : 0 ≤ x3 ∧ x3 ≤ 63) : ax_Met ax_LM gX3_copiesLeaf (d + 2) [(2, 3, 0), (3, 274, (a1 : Int)), (0, 0, x2), (0, 0, x3)] M (ax_qv (f_X3_copiesLeaf a1 x2 x3 M)) := by
  refine ax_body (by decide) (fun X => Nat.le_of_ble_eq_true rfl) (fun hok => ?_)
  have hr_x2 : (-2147483648) ≤ x2 ∧ x2 ≤ 2147483647 := hok (0, 0, x2) (by simp)
  have hr_x3 : (-2147483648) ≤ x3 ∧ x3 ≤ 2147483647 := hok (0, 0, x3) (by simp)
  show ax_W ax_LM gX3_copiesLeaf (d + 2) 0 [(0, (2, 3, 0)), (1, (3, 274, (a1 : Int))), (2, (0, 0, x2)), (3, (0, 0, x3))] [] M _
  unfold f_X3_copiesLeaf
  refine ax_lump ax_layM ok_kX3 [(0, .aload_n 0, 1, 0, 0, 0), (1, .aload_n 1, 1, 0, 0, 0), (2, .iload_n 3, 1, 0, 0, 0), (3, .aload_n 1, 1, 0, 0, 0), (4, .iload_n 2, 1, 0, 0, 0)] (pc' := 5) (lc' := [(0, (2, 3, 0)), (1, (3, 274, (a1 : Int))), (2, (0, 0, x2)), (3, (0, 0, x3))]) (st' := [(0, 0, x2), (3, 274, (a1 : Int)), (0, 0, x3), (3, 274, (a1 : Int)), (2, 3, 0)]) (M' := M) (C' := True) (by decide +kernel) rfl trivial ?_
  refine ax_cSi (G1 := gX3_pageAt) (d1 := d + 0) (i := 188) (n := 2) (as := [(3, 274, (a1 : Int)), (0, 0, x2)]) (st := [(0, 0, x3), (3, 274, (a1 : Int)), (2, 3, 0)]) (by decide +kernel) calX3_pageAt (by omega) rfl wt_1104 wt_1105 (Nat.le_of_ble_eq_true rfl) rfl (c_X3_pageAt d a1 x2 M (by omega)) (fun hc1 => ?_)
  refine ax_lump ax_layM ok_kX3 [(8, .aload_n 1, 1, 0, 0, 0), (9, .bipush 64, 2, 0, 0, 0), (11, .iload_n 2, 1, 0, 0, 0), (12, .iadd, 1, 1, 0, 0), (13, .iaload, 1, 0, 0, 0), (14, .aload_n 1, 1, 0, 0, 0), (15, .sipush 128, 3, 0, 0, 0), (18, .iload_n 2, 1, 0, 0, 0), (19, .iadd, 1, 1, 0, 0), (20, .iaload, 1, 0, 0, 0)] (pc' := 21) (lc' := [(0, (2, 3, 0)), (1, (3, 274, (a1 : Int))), (2, (0, 0, x2)), (3, (0, 0, x3))]) (st' := [(0, 0, (M a1 (128 + x2).toNat)), (0, 0, (M a1 (64 + x2).toNat)), (0, 0, (f_X3_pageAt a1 x2 M)), (0, 0, x3), (3, 274, (a1 : Int)), (2, 3, 0)]) (M' := M) (C' := ((((True ∧ ax_r32 (64 + x2)) ∧ (0 ≤ (64 + x2) ∧ (64 + x2) < ((274 : Nat) : Int))) ∧ ax_r32 (128 + x2)) ∧ (0 ≤ (128 + x2) ∧ (128 + x2) < ((274 : Nat) : Int)))) (by decide +kernel) rfl ⟨⟨⟨⟨trivial, ⟨by omega, by omega⟩⟩, by omega⟩, ⟨by omega, by omega⟩⟩, by omega⟩ ?_
  refine ax_cVv (G1 := gX3_puts) (d1 := d + 1) (i := 210) (n := 5) (as := [(3, 274, (a1 : Int)), (0, 0, x3), (0, 0, (f_X3_pageAt a1 x2 M)), (0, 0, (M a1 (64 + x2).toNat)), (0, 0, (M a1 (128 + x2).toNat))]) (st := []) (c := 3) (a := 0) (by decide +kernel) ax_cls3 calX3_puts (by omega) rfl wt_1180 wt_1182 ws_89 (Nat.le_of_ble_eq_true rfl) rfl (c_X3_puts d a1 x3 (f_X3_pageAt a1 x2 M) (M a1 (64 + x2).toNat) (M a1 (128 + x2).toNat) M (by omega)) (fun M2 => ?_)
  refine ax_lump ax_layM ok_kX3 [(24, .aload_n 1, 1, 0, 0, 0), (25, .sipush 265, 3, 0, 0, 0)] (pc' := 28) (lc' := [(0, (2, 3, 0)), (1, (3, 274, (a1 : Int))), (2, (0, 0, x2)), (3, (0, 0, x3))]) (st' := [(0, 0, 265), (3, 274, (a1 : Int))]) (M' := M2) (C' := True) (by decide +kernel) rfl trivial ?_
  refine ax_cSv (G1 := gX3_counts) (d1 := d + 1) (i := 214) (n := 2) (as := [(3, 274, (a1 : Int)), (0, 0, 265)]) (st := []) (by decide +kernel) calX3_counts (by omega) rfl wt_1188 wt_1189 (Nat.le_of_ble_eq_true rfl) rfl (c_X3_counts d a1 265 M2 (by omega)) (fun M3 => ?_)
  exact ax_vret (by decide +kernel) rfl ⟨rfl, rfl⟩
def f_X3_emptiesBlock_B2 (a0 : Nat) (w1 : Int) (i : Nat)  (M : ax_M) (kc : ax_M → ax_M) (kx : ax_M → ax_M) : ax_M := ax_bd ((4 * w1) + (i : Int)) (fun y1 => ax_bd (ax_up M a0 y1.toNat 0) (fun M2 => ax_bd (ax_up M2 a0 (64 + y1).toNat 0) (fun M3 => ax_bd (ax_up M3 a0 (128 + y1).toNat 0) (fun M4 => kc M4))))
def f_X3_emptiesBlock_L2 (a0 : Nat) (w1 : Int) : Nat → Nat → ax_M → (ax_M → ax_M) → ax_M
  | 0, i, M, kx => kx M
  | n + 1, i, M, kx => f_X3_emptiesBlock_B2 a0 w1 i  M (fun M9 => f_X3_emptiesBlock_L2 a0 w1 n (i + 1) M9 kx) kx
set_option maxRecDepth 100000 in
set_option maxHeartbeats 4000000 in
theorem wb_X3_emptiesBlock_B2 (d : Nat) (a0 : Nat) (w1 : Int) (i : Nat)  (M : ax_M) (kc : ax_M → ax_M) (kx : ax_M → ax_M) (hw_w1 : 0 ≤ w1 ∧ w1 ≤ 15) (hi : 0 ≤ i ∧ i < 4)  (hkc : ∀ (M9 : ax_M), ax_W ax_LM gX3_emptiesBlock (d + 0) 2 [(0, (3, 274, (a0 : Int))), (1, (0, 0, w1)), (2, (0, 0, ((i : Int) + 1)))] [] M9 (ax_qv (kc M9))) (hkx : ∀ (M9 : ax_M), (True) → ax_W ax_LM gX3_emptiesBlock (d + 0) 38 [] [] M9 (ax_qv (kx M9))) : ax_W ax_LM gX3_emptiesBlock (d + 0) 7 [(0, (3, 274, (a0 : Int))), (1, (0, 0, w1)), (2, (0, 0, (i : Int)))] [] M (ax_qv (f_X3_emptiesBlock_B2 a0 w1 i  M kc kx)) := by
  unfold f_X3_emptiesBlock_B2
  refine ax_lump ax_layM ok_kX3 [(7, .iconst 4, 1, 0, 0, 0), (8, .iload_n 1, 1, 0, 0, 0), (9, .imul, 1, 1, 0, 0), (10, .iload_n 2, 1, 0, 0, 0), (11, .iadd, 1, 1, 0, 0), (12, .istore_n 3, 1, 0, 0, 0)] (pc' := 13) (lc' := [(3, (0, 0, ((4 * w1) + (i : Int)))), (0, (3, 274, (a0 : Int))), (1, (0, 0, w1)), (2, (0, 0, (i : Int)))]) (st' := []) (M' := M) (C' := ((True ∧ ax_r32 (4 * w1)) ∧ ax_r32 ((4 * w1) + (i : Int)))) (by decide +kernel) rfl ⟨⟨trivial, ⟨by omega, by omega⟩⟩, ⟨by omega, by omega⟩⟩ ?_
  refine ax_bdI (lo := 0) (hi := 63) (e := ((4 * w1) + (i : Int))) (fun y1 => [(3, (0, 0, y1)), (0, (3, 274, (a0 : Int))), (1, (0, 0, w1)), (2, (0, 0, (i : Int)))]) (fun y1 => []) (by omega) (fun y1 h_y1 => ?_)
  refine ax_lump ax_layM ok_kX3 [(13, .aload_n 0, 1, 0, 0, 0), (14, .iload_n 3, 1, 0, 0, 0), (15, .iconst 0, 1, 0, 0, 0), (16, .iastore, 1, 0, 0, 0)] (pc' := 17) (lc' := [(3, (0, 0, y1)), (0, (3, 274, (a0 : Int))), (1, (0, 0, w1)), (2, (0, 0, (i : Int)))]) (st' := []) (M' := (ax_up M a0 y1.toNat 0)) (C' := (True ∧ (0 ≤ y1 ∧ y1 < ((274 : Nat) : Int)))) (by decide +kernel) rfl ⟨trivial, by omega⟩ ?_
  refine ax_bdMe (fun M2 hM_M2 => ?_)
  refine ax_lump ax_layM ok_kX3 [(17, .aload_n 0, 1, 0, 0, 0), (18, .bipush 64, 2, 0, 0, 0), (20, .iload_n 3, 1, 0, 0, 0), (21, .iadd, 1, 1, 0, 0), (22, .iconst 0, 1, 0, 0, 0), (23, .iastore, 1, 0, 0, 0)] (pc' := 24) (lc' := [(3, (0, 0, y1)), (0, (3, 274, (a0 : Int))), (1, (0, 0, w1)), (2, (0, 0, (i : Int)))]) (st' := []) (M' := (ax_up M2 a0 (64 + y1).toNat 0)) (C' := ((True ∧ ax_r32 (64 + y1)) ∧ (0 ≤ (64 + y1) ∧ (64 + y1) < ((274 : Nat) : Int)))) (by decide +kernel) rfl ⟨⟨trivial, ⟨by omega, by omega⟩⟩, by omega⟩ ?_
  refine ax_bdMe (fun M3 hM_M3 => ?_)
  refine ax_lump ax_layM ok_kX3 [(24, .aload_n 0, 1, 0, 0, 0), (25, .sipush 128, 3, 0, 0, 0), (28, .iload_n 3, 1, 0, 0, 0), (29, .iadd, 1, 1, 0, 0), (30, .iconst 0, 1, 0, 0, 0), (31, .iastore, 1, 0, 0, 0)] (pc' := 32) (lc' := [(3, (0, 0, y1)), (0, (3, 274, (a0 : Int))), (1, (0, 0, w1)), (2, (0, 0, (i : Int)))]) (st' := []) (M' := (ax_up M3 a0 (128 + y1).toNat 0)) (C' := ((True ∧ ax_r32 (128 + y1)) ∧ (0 ≤ (128 + y1) ∧ (128 + y1) < ((274 : Nat) : Int)))) (by decide +kernel) rfl ⟨⟨trivial, ⟨by omega, by omega⟩⟩, by omega⟩ ?_
  refine ax_bdMe (fun M4 hM_M4 => ?_)
  refine ax_lump ax_layM ok_kX3 [(32, .iinc 2 1, 3, 1, 0, 0), (35, .goto (-33), 3, 2, 0, 0)] (pc' := 2) (lc' := [(2, (0, 0, ((i : Int) + 1))), (3, (0, 0, y1)), (0, (3, 274, (a0 : Int))), (1, (0, 0, w1))]) (st' := []) (M' := M4) (C' := (True ∧ ax_r32 ((i : Int) + 1))) (by decide +kernel) rfl ⟨trivial, ⟨by omega, by omega⟩⟩ ?_
  refine ax_pk [2,3,0] (lc' := [(0, (3, 274, (a0 : Int))), (1, (0, 0, w1)), (2, (0, 0, ((i : Int) + 1)))]) rfl ?_
  exact hkc M4 
set_option maxRecDepth 100000 in
set_option maxHeartbeats 4000000 in
theorem w_X3_emptiesBlock_L2 (d : Nat) (a0 : Nat) (w1 : Int) (kx : ax_M → ax_M) (hw_w1 : 0 ≤ w1 ∧ w1 ≤ 15) (hkx : ∀ (M9 : ax_M), (True) → ax_W ax_LM gX3_emptiesBlock (d + 0) 38 [] [] M9 (ax_qv (kx M9))) : ∀ (n : Nat) (i : Nat) (M : ax_M), 0 ≤ i ∧ i + n = 4 → ax_W ax_LM gX3_emptiesBlock (d + 0) 2 [(0, (3, 274, (a0 : Int))), (1, (0, 0, w1)), (2, (0, 0, (i : Int)))] [] M (ax_qv (f_X3_emptiesBlock_L2 a0 w1 n i  M kx)) := by
  intro n
  induction n with
  | zero =>
    intro i M hin
    refine ax_lump ax_layM ok_kX3 [(2, .iload_n 2, 1, 0, 0, 0), (3, .iconst 4, 1, 0, 0, 0)] (pc' := 4) (lc' := [(0, (3, 274, (a0 : Int))), (1, (0, 0, w1)), (2, (0, 0, (i : Int)))]) (st' := [(0, 0, 4), (0, 0, (i : Int))]) (M' := M) (C' := True) (by decide +kernel) rfl trivial ?_
    refine ax_icmp_ge (off := 34) (tgt := 38) (by decide +kernel) (by decide) (fun h => ?_) (fun h => ?_)
    · refine ax_pk [] (lc' := []) rfl ?_
      exact hkx M trivial
    · exfalso; omega
  | succ n ih =>
    intro i M hin
    refine ax_lump ax_layM ok_kX3 [(2, .iload_n 2, 1, 0, 0, 0), (3, .iconst 4, 1, 0, 0, 0)] (pc' := 4) (lc' := [(0, (3, 274, (a0 : Int))), (1, (0, 0, w1)), (2, (0, 0, (i : Int)))]) (st' := [(0, 0, 4), (0, 0, (i : Int))]) (M' := M) (C' := True) (by decide +kernel) rfl trivial ?_
    refine ax_icmp_ge (off := 34) (tgt := 38) (by decide +kernel) (by decide) (fun h => ?_) (fun h => ?_)
    · exfalso; omega
    · exact wb_X3_emptiesBlock_B2 d a0 w1 i  M _ kx hw_w1 (by omega)  (fun M9 => ih (i + 1)  M9 (by omega) ) hkx
def f_X3_emptiesBlock (a0 : Nat) (x1 : Int) (M : ax_M) : ax_M := f_X3_emptiesBlock_L2 a0 x1 4 0  M (fun M5 => M5)
set_option maxRecDepth 100000 in
set_option maxHeartbeats 4000000 in
theorem c_X3_emptiesBlock (d : Nat) (a0 : Nat) (x1 : Int) (M : ax_M) (hp1 : 0 ≤ x1 ∧ x1 ≤ 15) : ax_Met ax_LM gX3_emptiesBlock (d + 0) [(3, 274, (a0 : Int)), (0, 0, x1)] M (ax_qv (f_X3_emptiesBlock a0 x1 M)) := by
  refine ax_body (by decide) (fun X => Nat.le_of_ble_eq_true rfl) (fun hok => ?_)
  have hr_x1 : (-2147483648) ≤ x1 ∧ x1 ≤ 2147483647 := hok (0, 0, x1) (by simp)
  show ax_W ax_LM gX3_emptiesBlock (d + 0) 0 [(0, (3, 274, (a0 : Int))), (1, (0, 0, x1))] [] M _
  unfold f_X3_emptiesBlock
  refine ax_lump ax_layM ok_kX3 [(0, .iconst 0, 1, 0, 0, 0), (1, .istore_n 2, 1, 0, 0, 0)] (pc' := 2) (lc' := [(2, (0, 0, 0)), (0, (3, 274, (a0 : Int))), (1, (0, 0, x1))]) (st' := []) (M' := M) (C' := True) (by decide +kernel) rfl trivial ?_
  refine ax_pk [1,2,0] (lc' := [(0, (3, 274, (a0 : Int))), (1, (0, 0, x1)), (2, (0, 0, 0))]) rfl ?_
  refine w_X3_emptiesBlock_L2 d a0 x1 _ (by omega) (fun M5 hx_5 => ?_) 4 0  M (by omega) 
  exact ax_vret (by decide +kernel) rfl ⟨rfl, rfl⟩
