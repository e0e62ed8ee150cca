def f_X2_sign (x1 : Int) (M : ax_M) : Prop × Int × ax_M := (if ((M 0 10) + 4) ≤ 80 then ax_rq ((0 ≤ (M 0 10) ∧ (M 0 10) < ((80 : Nat) : Int))) (ax_rq ((0 ≤ (ax_i2c (ax_and (ax_ushr x1 24) 255)) ∧ (ax_i2c (ax_and (ax_ushr x1 24) 255)) ≤ 65535)) (ax_bd (ax_up M 34 (M 0 10).toNat (ax_i2c (ax_and (ax_ushr x1 24) 255))) (fun M6 => ax_rq ((0 ≤ ((M6 0 10) + 1) ∧ ((M6 0 10) + 1) < ((81 : Nat) : Int))) (ax_bd (ax_up M6 0 10 ((M6 0 10) + 1)) (fun M9 => ax_rq ((0 ≤ (M9 0 10) ∧ (M9 0 10) < ((80 : Nat) : Int))) (ax_rq ((0 ≤ (ax_i2c (ax_and (ax_ushr x1 16) 255)) ∧ (ax_i2c (ax_and (ax_ushr x1 16) 255)) ≤ 65535)) (ax_bd (ax_up M9 34 (M9 0 10).toNat (ax_i2c (ax_and (ax_ushr x1 16) 255))) (fun M14 => ax_rq ((0 ≤ ((M14 0 10) + 1) ∧ ((M14 0 10) + 1) < ((81 : Nat) : Int))) (ax_bd (ax_up M14 0 10 ((M14 0 10) + 1)) (fun M17 => ax_rq ((0 ≤ (M17 0 10) ∧ (M17 0 10) < ((80 : Nat) : Int))) (ax_rq ((0 ≤ (ax_i2c (ax_and (ax_ushr x1 8) 255)) ∧ (ax_i2c (ax_and (ax_ushr x1 8) 255)) ≤ 65535)) (ax_bd (ax_up M17 34 (M17 0 10).toNat (ax_i2c (ax_and (ax_ushr x1 8) 255))) (fun M22 => ax_rq ((0 ≤ ((M22 0 10) + 1) ∧ ((M22 0 10) + 1) < ((81 : Nat) : Int))) (ax_bd (ax_up M22 0 10 ((M22 0 10) + 1)) (fun M25 => ax_rq ((0 ≤ (M25 0 10) ∧ (M25 0 10) < ((80 : Nat) : Int))) (ax_rq ((0 ≤ (ax_i2c (ax_and (ax_ushr x1 0) 255)) ∧ (ax_i2c (ax_and (ax_ushr x1 0) 255)) ≤ 65535)) (ax_bd (ax_up M25 34 (M25 0 10).toNat (ax_i2c (ax_and (ax_ushr x1 0) 255))) (fun M30 => ax_rq ((0 ≤ ((M30 0 10) + 1) ∧ ((M30 0 10) + 1) < ((81 : Nat) : Int))) (ax_bd (ax_up M30 0 10 ((M30 0 10) + 1)) (fun M33 => (True, ((M33 0 10), M33)))))))))))))))))))))) else (True, ((-1), M)))
set_option maxRecDepth 100000 in
set_option maxHeartbeats 4000000 in
theorem c_X2_sign (d : Nat) (x1 : Int) (M : ax_M)  (hX : (f_X2_sign x1 M).1) : ax_Met ax_LC gX2_sign (d + 0) [(2, 2, 0), (0, 0, x1)] M ((ax_qm (-1) 80) (f_X2_sign x1 M).2) := by
  refine ax_body (by decide) (fun X => Nat.le_of_ble_eq_true rfl) (fun hok => ?_)
  have hr_x1 : (-2147483648) ≤ x1 ∧ x1 ≤ 2147483647 := hok (0, 0, x1) (by simp)
  show ax_W ax_LC gX2_sign (d + 0) 0 [(0, (2, 2, 0)), (1, (0, 0, x1))] [] M _
  unfold f_X2_sign at hX ⊢
  refine ax_fact (i := 0) (c := 2) (f := 10) (hi := 80) (s := 0) (by simp) rfl rfl rfl (fun hf1 => ?_)
  have hf1 : 0 ≤ (M 0 10) ∧ (M 0 10) ≤ 80 := hf1
  refine ax_lump ax_layC ok_kX2 [(0, .aload_n 0, 1, 0, 0, 0), (1, .getfield 51, 3, 2, 10, 0), (4, .iconst 4, 1, 0, 0, 0), (5, .iadd, 1, 1, 0, 0), (6, .bipush 80, 2, 0, 0, 0)] (pc' := 8) (lc' := [(0, (2, 2, 0)), (1, (0, 0, x1))]) (st' := [(0, 0, 80), (0, 0, ((M 0 10) + 4))]) (M' := M) (C' := (True ∧ ax_r32 ((M 0 10) + 4))) (by decide +kernel) rfl ⟨trivial, ⟨by omega, by omega⟩⟩ ?_
  refine ax_jle_s hX (off := 5) (tgt := 13) (by decide +kernel) (by decide) (fun h2 hX => ?_) (fun h2 hX => ?_)
  · refine ax_lump ax_layC ok_kX2 [(13, .bipush 24, 2, 0, 0, 0), (15, .istore_n 2, 1, 0, 0, 0), (16, .iload_n 2, 1, 0, 0, 0)] (pc' := 17) (lc' := [(2, (0, 0, 24)), (0, (2, 2, 0)), (1, (0, 0, x1))]) (st' := [(0, 0, 24)]) (M' := M) (C' := True) (by decide +kernel) rfl trivial ?_
    refine ax_if_lt (off := 36) (tgt := 53) (by decide +kernel) (by decide) (fun h3 => ?_) (fun h3 => ?_)
    · exfalso; omega
    · refine ax_rq_s hX (fun hS4 hX => ?_)
      refine ax_rq_s hX (fun hS5 hX => ?_)
      refine ax_lump ax_layC ok_kX2 [(20, .aload_n 0, 1, 0, 0, 0), (21, .getfield 47, 3, 2, 9, 0), (24, .aload_n 0, 1, 0, 0, 0), (25, .getfield 51, 3, 2, 10, 0), (28, .iload_n 1, 1, 0, 0, 0), (29, .iload_n 2, 1, 0, 0, 0), (30, .iushr, 1, 0, 0, 0), (31, .sipush 255, 3, 0, 0, 0), (34, .iand, 1, 0, 0, 0), (35, .i2c, 1, 0, 0, 0), (36, .castore, 1, 0, 0, 0)] (pc' := 37) (lc' := [(2, (0, 0, 24)), (0, (2, 2, 0)), (1, (0, 0, x1))]) (st' := []) (M' := (ax_up M 34 (M 0 10).toNat (ax_i2c (ax_and (ax_ushr x1 24) 255)))) (C' := ((True ∧ (0 ≤ (M 0 10) ∧ (M 0 10) < ((80 : Nat) : Int))) ∧ (0 ≤ (ax_i2c (ax_and (ax_ushr x1 24) 255)) ∧ (ax_i2c (ax_and (ax_ushr x1 24) 255)) ≤ 65535))) (by decide +kernel) rfl ⟨⟨trivial, hS4⟩, hS5⟩ ?_
      refine ax_bdMe_s hX (fun M6 hM_M6 hX => ?_)
      have hk_k7 : (M6 0 10) = (M 0 10) := by rw [hM_M6]; exact ax_up_o1 (by omega)
      refine ax_rq_s hX (fun hS8 hX => ?_)
      refine ax_lump ax_layC ok_kX2 [(37, .aload_n 0, 1, 0, 0, 0), (38, .dup, 1, 0, 0, 0), (39, .getfield 51, 3, 2, 10, 0), (42, .iconst 1, 1, 0, 0, 0), (43, .iadd, 1, 1, 0, 0), (44, .putfield 51, 3, 2, 10, 0)] (pc' := 47) (lc' := [(2, (0, 0, 24)), (0, (2, 2, 0)), (1, (0, 0, x1))]) (st' := []) (M' := (ax_up M6 0 10 ((M6 0 10) + 1))) (C' := ((True ∧ ax_r32 ((M6 0 10) + 1)) ∧ (0 ≤ ((M6 0 10) + 1) ∧ ((M6 0 10) + 1) < ((81 : Nat) : Int)))) (by decide +kernel) rfl ⟨⟨trivial, ⟨by omega, by omega⟩⟩, hS8⟩ ?_
      refine ax_bdMe_s hX (fun M9 hM_M9 hX => ?_)
      have hk_k10 : (M9 0 10) = ((M6 0 10) + 1) := by rw [hM_M9]; exact ax_up_s
      refine ax_lump ax_layC ok_kX2 [(47, .iinc 2 (-8), 3, 1, 0, 0), (50, .goto (-34), 3, 16, 0, 0), (16, .iload_n 2, 1, 0, 0, 0)] (pc' := 17) (lc' := [(2, (0, 0, 16)), (0, (2, 2, 0)), (1, (0, 0, x1))]) (st' := [(0, 0, 16)]) (M' := M9) (C' := (True ∧ ax_r32 16)) (by decide +kernel) rfl ⟨trivial, ⟨by omega, by omega⟩⟩ ?_
      refine ax_if_lt (off := 36) (tgt := 53) (by decide +kernel) (by decide) (fun h11 => ?_) (fun h11 => ?_)
      · exfalso; omega
      · refine ax_rq_s hX (fun hS12 hX => ?_)
        refine ax_rq_s hX (fun hS13 hX => ?_)
        refine ax_lump ax_layC ok_kX2 [(20, .aload_n 0, 1, 0, 0, 0), (21, .getfield 47, 3, 2, 9, 0), (24, .aload_n 0, 1, 0, 0, 0), (25, .getfield 51, 3, 2, 10, 0), (28, .iload_n 1, 1, 0, 0, 0), (29, .iload_n 2, 1, 0, 0, 0), (30, .iushr, 1, 0, 0, 0), (31, .sipush 255, 3, 0, 0, 0), (34, .iand, 1, 0, 0, 0), (35, .i2c, 1, 0, 0, 0), (36, .castore, 1, 0, 0, 0)] (pc' := 37) (lc' := [(2, (0, 0, 16)), (0, (2, 2, 0)), (1, (0, 0, x1))]) (st' := []) (M' := (ax_up M9 34 (M9 0 10).toNat (ax_i2c (ax_and (ax_ushr x1 16) 255)))) (C' := ((True ∧ (0 ≤ (M9 0 10) ∧ (M9 0 10) < ((80 : Nat) : Int))) ∧ (0 ≤ (ax_i2c (ax_and (ax_ushr x1 16) 255)) ∧ (ax_i2c (ax_and (ax_ushr x1 16) 255)) ≤ 65535))) (by decide +kernel) rfl ⟨⟨trivial, hS12⟩, hS13⟩ ?_
        refine ax_bdMe_s hX (fun M14 hM_M14 hX => ?_)
        have hk_k15 : (M14 0 10) = (M9 0 10) := by rw [hM_M14]; exact ax_up_o1 (by omega)
        refine ax_rq_s hX (fun hS16 hX => ?_)
        refine ax_lump ax_layC ok_kX2 [(37, .aload_n 0, 1, 0, 0, 0), (38, .dup, 1, 0, 0, 0), (39, .getfield 51, 3, 2, 10, 0), (42, .iconst 1, 1, 0, 0, 0), (43, .iadd, 1, 1, 0, 0), (44, .putfield 51, 3, 2, 10, 0)] (pc' := 47) (lc' := [(2, (0, 0, 16)), (0, (2, 2, 0)), (1, (0, 0, x1))]) (st' := []) (M' := (ax_up M14 0 10 ((M14 0 10) + 1))) (C' := ((True ∧ ax_r32 ((M14 0 10) + 1)) ∧ (0 ≤ ((M14 0 10) + 1) ∧ ((M14 0 10) + 1) < ((81 : Nat) : Int)))) (by decide +kernel) rfl ⟨⟨trivial, ⟨by omega, by omega⟩⟩, hS16⟩ ?_
        refine ax_bdMe_s hX (fun M17 hM_M17 hX => ?_)
        have hk_k18 : (M17 0 10) = ((M14 0 10) + 1) := by rw [hM_M17]; exact ax_up_s
        refine ax_lump ax_layC ok_kX2 [(47, .iinc 2 (-8), 3, 1, 0, 0), (50, .goto (-34), 3, 16, 0, 0), (16, .iload_n 2, 1, 0, 0, 0)] (pc' := 17) (lc' := [(2, (0, 0, 8)), (0, (2, 2, 0)), (1, (0, 0, x1))]) (st' := [(0, 0, 8)]) (M' := M17) (C' := (True ∧ ax_r32 8)) (by decide +kernel) rfl ⟨trivial, ⟨by omega, by omega⟩⟩ ?_
        refine ax_if_lt (off := 36) (tgt := 53) (by decide +kernel) (by decide) (fun h19 => ?_) (fun h19 => ?_)
        · exfalso; omega
        · refine ax_rq_s hX (fun hS20 hX => ?_)
          refine ax_rq_s hX (fun hS21 hX => ?_)
          refine ax_lump ax_layC ok_kX2 [(20, .aload_n 0, 1, 0, 0, 0), (21, .getfield 47, 3, 2, 9, 0), (24, .aload_n 0, 1, 0, 0, 0), (25, .getfield 51, 3, 2, 10, 0), (28, .iload_n 1, 1, 0, 0, 0), (29, .iload_n 2, 1, 0, 0, 0), (30, .iushr, 1, 0, 0, 0), (31, .sipush 255, 3, 0, 0, 0), (34, .iand, 1, 0, 0, 0), (35, .i2c, 1, 0, 0, 0), (36, .castore, 1, 0, 0, 0)] (pc' := 37) (lc' := [(2, (0, 0, 8)), (0, (2, 2, 0)), (1, (0, 0, x1))]) (st' := []) (M' := (ax_up M17 34 (M17 0 10).toNat (ax_i2c (ax_and (ax_ushr x1 8) 255)))) (C' := ((True ∧ (0 ≤ (M17 0 10) ∧ (M17 0 10) < ((80 : Nat) : Int))) ∧ (0 ≤ (ax_i2c (ax_and (ax_ushr x1 8) 255)) ∧ (ax_i2c (ax_and (ax_ushr x1 8) 255)) ≤ 65535))) (by decide +kernel) rfl ⟨⟨trivial, hS20⟩, hS21⟩ ?_
          refine ax_bdMe_s hX (fun M22 hM_M22 hX => ?_)
          have hk_k23 : (M22 0 10) = (M17 0 10) := by rw [hM_M22]; exact ax_up_o1 (by omega)
          refine ax_rq_s hX (fun hS24 hX => ?_)
          refine ax_lump ax_layC ok_kX2 [(37, .aload_n 0, 1, 0, 0, 0), (38, .dup, 1, 0, 0, 0), (39, .getfield 51, 3, 2, 10, 0), (42, .iconst 1, 1, 0, 0, 0), (43, .iadd, 1, 1, 0, 0), (44, .putfield 51, 3, 2, 10, 0)] (pc' := 47) (lc' := [(2, (0, 0, 8)), (0, (2, 2, 0)), (1, (0, 0, x1))]) (st' := []) (M' := (ax_up M22 0 10 ((M22 0 10) + 1))) (C' := ((True ∧ ax_r32 ((M22 0 10) + 1)) ∧ (0 ≤ ((M22 0 10) + 1) ∧ ((M22 0 10) + 1) < ((81 : Nat) : Int)))) (by decide +kernel) rfl ⟨⟨trivial, ⟨by omega, by omega⟩⟩, hS24⟩ ?_
          refine ax_bdMe_s hX (fun M25 hM_M25 hX => ?_)
          have hk_k26 : (M25 0 10) = ((M22 0 10) + 1) := by rw [hM_M25]; exact ax_up_s
          refine ax_lump ax_layC ok_kX2 [(47, .iinc 2 (-8), 3, 1, 0, 0), (50, .goto (-34), 3, 16, 0, 0), (16, .iload_n 2, 1, 0, 0, 0)] (pc' := 17) (lc' := [(2, (0, 0, 0)), (0, (2, 2, 0)), (1, (0, 0, x1))]) (st' := [(0, 0, 0)]) (M' := M25) (C' := (True ∧ ax_r32 0)) (by decide +kernel) rfl ⟨trivial, ⟨by omega, by omega⟩⟩ ?_
          refine ax_if_lt (off := 36) (tgt := 53) (by decide +kernel) (by decide) (fun h27 => ?_) (fun h27 => ?_)
          · exfalso; omega
          · refine ax_rq_s hX (fun hS28 hX => ?_)
            refine ax_rq_s hX (fun hS29 hX => ?_)
            refine ax_lump ax_layC ok_kX2 [(20, .aload_n 0, 1, 0, 0, 0), (21, .getfield 47, 3, 2, 9, 0), (24, .aload_n 0, 1, 0, 0, 0), (25, .getfield 51, 3, 2, 10, 0), (28, .iload_n 1, 1, 0, 0, 0), (29, .iload_n 2, 1, 0, 0, 0), (30, .iushr, 1, 0, 0, 0), (31, .sipush 255, 3, 0, 0, 0), (34, .iand, 1, 0, 0, 0), (35, .i2c, 1, 0, 0, 0), (36, .castore, 1, 0, 0, 0)] (pc' := 37) (lc' := [(2, (0, 0, 0)), (0, (2, 2, 0)), (1, (0, 0, x1))]) (st' := []) (M' := (ax_up M25 34 (M25 0 10).toNat (ax_i2c (ax_and (ax_ushr x1 0) 255)))) (C' := ((True ∧ (0 ≤ (M25 0 10) ∧ (M25 0 10) < ((80 : Nat) : Int))) ∧ (0 ≤ (ax_i2c (ax_and (ax_ushr x1 0) 255)) ∧ (ax_i2c (ax_and (ax_ushr x1 0) 255)) ≤ 65535))) (by decide +kernel) rfl ⟨⟨trivial, hS28⟩, hS29⟩ ?_
            refine ax_bdMe_s hX (fun M30 hM_M30 hX => ?_)
            have hk_k31 : (M30 0 10) = (M25 0 10) := by rw [hM_M30]; exact ax_up_o1 (by omega)
            refine ax_rq_s hX (fun hS32 hX => ?_)
            refine ax_lump ax_layC ok_kX2 [(37, .aload_n 0, 1, 0, 0, 0), (38, .dup, 1, 0, 0, 0), (39, .getfield 51, 3, 2, 10, 0), (42, .iconst 1, 1, 0, 0, 0), (43, .iadd, 1, 1, 0, 0), (44, .putfield 51, 3, 2, 10, 0)] (pc' := 47) (lc' := [(2, (0, 0, 0)), (0, (2, 2, 0)), (1, (0, 0, x1))]) (st' := []) (M' := (ax_up M30 0 10 ((M30 0 10) + 1))) (C' := ((True ∧ ax_r32 ((M30 0 10) + 1)) ∧ (0 ≤ ((M30 0 10) + 1) ∧ ((M30 0 10) + 1) < ((81 : Nat) : Int)))) (by decide +kernel) rfl ⟨⟨trivial, ⟨by omega, by omega⟩⟩, hS32⟩ ?_
            refine ax_bdMe_s hX (fun M33 hM_M33 hX => ?_)
            have hk_k34 : (M33 0 10) = ((M30 0 10) + 1) := by rw [hM_M33]; exact ax_up_s
            refine ax_lump ax_layC ok_kX2 [(47, .iinc 2 (-8), 3, 1, 0, 0), (50, .goto (-34), 3, 16, 0, 0), (16, .iload_n 2, 1, 0, 0, 0)] (pc' := 17) (lc' := [(2, (0, 0, (-8))), (0, (2, 2, 0)), (1, (0, 0, x1))]) (st' := [(0, 0, (-8))]) (M' := M33) (C' := (True ∧ ax_r32 (-8))) (by decide +kernel) rfl ⟨trivial, ⟨by omega, by omega⟩⟩ ?_
            refine ax_if_lt (off := 36) (tgt := 53) (by decide +kernel) (by decide) (fun h35 => ?_) (fun h35 => ?_)
            · refine ax_lump ax_layC ok_kX2 [(53, .aload_n 0, 1, 0, 0, 0), (54, .getfield 51, 3, 2, 10, 0)] (pc' := 57) (lc' := [(2, (0, 0, (-8))), (0, (2, 2, 0)), (1, (0, 0, x1))]) (st' := [(0, 0, (M33 0 10))]) (M' := M33) (C' := True) (by decide +kernel) rfl trivial ?_
              exact ax_iret (by decide +kernel) rfl ⟨rfl, rfl, (show ((-1) : Int) ≤ (M33 0 10) from by omega), (show (M33 0 10) ≤ (80 : Int) from by omega)⟩
            · exfalso; omega
  · refine ax_lump ax_layC ok_kX2 [(11, .iconst (-1), 1, 0, 0, 0)] (pc' := 12) (lc' := [(0, (2, 2, 0)), (1, (0, 0, x1))]) (st' := [(0, 0, (-1))]) (M' := M) (C' := True) (by decide +kernel) rfl trivial ?_
    exact ax_iret (by decide +kernel) rfl ⟨rfl, rfl, (show ((-1) : Int) ≤ (-1) from by omega), (show (-1) ≤ (80 : Int) from by omega)⟩
def f_X2_end (x1 : Int) (M : ax_M) : Int × ax_M := (if x1 < 0 then (0, M) else (if x1 ≤ (M 0 10) then ax_bd (ax_up M 0 10 x1) (fun M4 => (1, M4)) else (0, M)))
set_option maxRecDepth 100000 in
set_option maxHeartbeats 4000000 in
theorem c_X2_end (d : Nat) (x1 : Int) (M : ax_M)  : ax_Met ax_LC gX2_end (d + 0) [(2, 2, 0), (0, 0, x1)] M ((ax_qm 0 1) (f_X2_end x1 M)) := by
  refine ax_body (by decide) (fun X => Nat.le_of_ble_eq_true rfl) (fun hok => ?_)
  have hr_x1 : (-2147483648) ≤ x1 ∧ x1 ≤ 2147483647 := hok (0, 0, x1) (by simp)
  show ax_W ax_LC gX2_end (d + 0) 0 [(0, (2, 2, 0)), (1, (0, 0, x1))] [] M _
  unfold f_X2_end
  refine ax_lump ax_layC ok_kX2 [(0, .iload_n 1, 1, 0, 0, 0)] (pc' := 1) (lc' := [(0, (2, 2, 0)), (1, (0, 0, x1))]) (st' := [(0, 0, x1)]) (M' := M) (C' := True) (by decide +kernel) rfl trivial ?_
  refine ax_zlt (off := 11) (tgt := 12) (by decide +kernel) (by decide) (fun h1 => ?_) (fun h1 => ?_)
  · refine ax_lump ax_layC ok_kX2 [(12, .iconst 0, 1, 0, 0, 0)] (pc' := 13) (lc' := [(0, (2, 2, 0)), (1, (0, 0, x1))]) (st' := [(0, 0, 0)]) (M' := M) (C' := True) (by decide +kernel) rfl trivial ?_
    exact ax_zret (by decide +kernel) rfl (by omega) ⟨rfl, rfl, (show (0 : Int) ≤ 0 from by omega), (show 0 ≤ (1 : Int) from by omega)⟩
  · refine ax_fact (i := 0) (c := 2) (f := 10) (hi := 80) (s := 0) (by simp) rfl rfl rfl (fun hf2 => ?_)
    have hf2 : 0 ≤ (M 0 10) ∧ (M 0 10) ≤ 80 := hf2
    refine ax_lump ax_layC ok_kX2 [(4, .iload_n 1, 1, 0, 0, 0), (5, .aload_n 0, 1, 0, 0, 0), (6, .getfield 51, 3, 2, 10, 0)] (pc' := 9) (lc' := [(0, (2, 2, 0)), (1, (0, 0, x1))]) (st' := [(0, 0, (M 0 10)), (0, 0, x1)]) (M' := M) (C' := True) (by decide +kernel) rfl trivial ?_
    refine ax_jle (off := 5) (tgt := 14) (by decide +kernel) (by decide) (fun h3 => ?_) (fun h3 => ?_)
    · refine ax_lump ax_layC ok_kX2 [(14, .aload_n 0, 1, 0, 0, 0), (15, .iload_n 1, 1, 0, 0, 0), (16, .putfield 51, 3, 2, 10, 0)] (pc' := 19) (lc' := [(0, (2, 2, 0)), (1, (0, 0, x1))]) (st' := []) (M' := (ax_up M 0 10 x1)) (C' := (True ∧ (0 ≤ x1 ∧ x1 < ((81 : Nat) : Int)))) (by decide +kernel) rfl ⟨trivial, by omega⟩ ?_
      refine ax_bdMe (fun M4 hM_M4 => ?_)
      have hk_k5 : (M4 0 10) = x1 := by rw [hM_M4]; exact ax_up_s
      refine ax_lump ax_layC ok_kX2 [(19, .iconst 1, 1, 0, 0, 0)] (pc' := 20) (lc' := [(0, (2, 2, 0)), (1, (0, 0, x1))]) (st' := [(0, 0, 1)]) (M' := M4) (C' := True) (by decide +kernel) rfl trivial ?_
      exact ax_zret (by decide +kernel) rfl (by omega) ⟨rfl, rfl, (show (0 : Int) ≤ 1 from by omega), (show 1 ≤ (1 : Int) from by omega)⟩
    · refine ax_lump ax_layC ok_kX2 [(12, .iconst 0, 1, 0, 0, 0)] (pc' := 13) (lc' := [(0, (2, 2, 0)), (1, (0, 0, x1))]) (st' := [(0, 0, 0)]) (M' := M) (C' := True) (by decide +kernel) rfl trivial ?_
      exact ax_zret (by decide +kernel) rfl (by omega) ⟨rfl, rfl, (show (0 : Int) ≤ 0 from by omega), (show 0 ≤ (1 : Int) from by omega)⟩
def f_X2_sheetEntry (x0 : Int) (x1 : Int) (M : ax_M) : Int := (if x0 ≠ 0 then (if x0 ≠ 1 then (if 0 < (if 999 < x1 then 999 else x1) then (if 999 < x1 then 999 else x1) else 0) else ax_bd (ax_i2s x1) (fun y3 => (if 0 < (if 999 < y3 then 999 else y3) then (if 999 < y3 then 999 else y3) else 0))) else ax_bd (ax_i2b x1) (fun y4 => (if 0 < (if 999 < y4 then 999 else y4) then (if 999 < y4 then 999 else y4) else 0)))
set_option maxRecDepth 100000 in
set_option maxHeartbeats 4000000 in
theorem c_X2_sheetEntry (d : Nat) (x0 : Int) (x1 : Int) (M : ax_M)  : ax_Met ax_LC gX2_sheetEntry (d + 1) [(0, 0, x0), (0, 0, x1)] M ((ax_qi 0 999 M) (f_X2_sheetEntry x0 x1 M)) := by
  refine ax_body (by decide) (fun X => Nat.le_of_ble_eq_true rfl) (fun hok => ?_)
  have hr_x0 : (-2147483648) ≤ x0 ∧ x0 ≤ 2147483647 := hok (0, 0, x0) (by simp)
  have hr_x1 : (-2147483648) ≤ x1 ∧ x1 ≤ 2147483647 := hok (0, 0, x1) (by simp)
  show ax_W ax_LC gX2_sheetEntry (d + 1) 0 [(0, (0, 0, x0)), (1, (0, 0, x1))] [] M _
  unfold f_X2_sheetEntry
  refine ax_lump ax_layC ok_kX2 [(0, .iload_n 0, 1, 0, 0, 0)] (pc' := 1) (lc' := [(0, (0, 0, x0)), (1, (0, 0, x1))]) (st' := [(0, 0, x0)]) (M' := M) (C' := True) (by decide +kernel) rfl trivial ?_
  refine ax_zne (off := 8) (tgt := 9) (by decide +kernel) (by decide) (fun h1 => ?_) (fun h1 => ?_)
  · refine ax_lump ax_layC ok_kX2 [(9, .iload_n 0, 1, 0, 0, 0), (10, .iconst 1, 1, 0, 0, 0)] (pc' := 11) (lc' := [(0, (0, 0, x0)), (1, (0, 0, x1))]) (st' := [(0, 0, 1), (0, 0, x0)]) (M' := M) (C' := True) (by decide +kernel) rfl trivial ?_
    refine ax_jne (off := 8) (tgt := 19) (by decide +kernel) (by decide) (fun h2 => ?_) (fun h2 => ?_)
    · refine ax_lump ax_layC ok_kX2 [(19, .iload_n 1, 1, 0, 0, 0), (20, .istore_n 2, 1, 0, 0, 0), (21, .iconst 0, 1, 0, 0, 0), (22, .iload_n 2, 1, 0, 0, 0), (23, .sipush 999, 3, 0, 0, 0)] (pc' := 26) (lc' := [(2, (0, 0, x1)), (0, (0, 0, x0)), (1, (0, 0, x1))]) (st' := [(0, 0, 999), (0, 0, x1), (0, 0, 0)]) (M' := M) (C' := True) (by decide +kernel) rfl trivial ?_
      refine ax_mmin (i := 134) (by decide +kernel) (by omega) (Nat.le_of_ble_eq_true rfl) wt_341 wt_266 wt_8 wt_267 ?_
      refine ax_mmax (i := 139) (by decide +kernel) (by omega) (Nat.le_of_ble_eq_true rfl) wt_342 wt_263 wt_8 wt_264 ?_
      exact ax_iret (by decide +kernel) rfl ⟨rfl, rfl, (show (0 : Int) ≤ (if 0 < (if 999 < x1 then 999 else x1) then (if 999 < x1 then 999 else x1) else 0) from by omega), (show (if 0 < (if 999 < x1 then 999 else x1) then (if 999 < x1 then 999 else x1) else 0) ≤ (999 : Int) from by omega)⟩
    · refine ax_lump ax_layC ok_kX2 [(14, .iload_n 1, 1, 0, 0, 0), (15, .i2s, 1, 0, 0, 0), (16, .goto 4, 3, 20, 0, 0), (20, .istore_n 2, 1, 0, 0, 0)] (pc' := 21) (lc' := [(2, (0, 0, (ax_i2s x1))), (0, (0, 0, x0)), (1, (0, 0, x1))]) (st' := []) (M' := M) (C' := True) (by decide +kernel) rfl trivial ?_
      refine ax_bdI0 (e := (ax_i2s x1)) (fun y3 => [(2, (0, 0, y3)), (0, (0, 0, x0)), (1, (0, 0, x1))]) (fun y3 => []) (fun y3 => ?_)
      refine ax_lump ax_layC ok_kX2 [(21, .iconst 0, 1, 0, 0, 0), (22, .iload_n 2, 1, 0, 0, 0), (23, .sipush 999, 3, 0, 0, 0)] (pc' := 26) (lc' := [(2, (0, 0, y3)), (0, (0, 0, x0)), (1, (0, 0, x1))]) (st' := [(0, 0, 999), (0, 0, y3), (0, 0, 0)]) (M' := M) (C' := True) (by decide +kernel) rfl trivial ?_
      refine ax_mmin (i := 134) (by decide +kernel) (by omega) (Nat.le_of_ble_eq_true rfl) wt_341 wt_266 wt_8 wt_267 ?_
      refine ax_mmax (i := 139) (by decide +kernel) (by omega) (Nat.le_of_ble_eq_true rfl) wt_342 wt_263 wt_8 wt_264 ?_
      exact ax_iret (by decide +kernel) rfl ⟨rfl, rfl, (show (0 : Int) ≤ (if 0 < (if 999 < y3 then 999 else y3) then (if 999 < y3 then 999 else y3) else 0) from by omega), (show (if 0 < (if 999 < y3 then 999 else y3) then (if 999 < y3 then 999 else y3) else 0) ≤ (999 : Int) from by omega)⟩
  · refine ax_lump ax_layC ok_kX2 [(4, .iload_n 1, 1, 0, 0, 0), (5, .i2b, 1, 0, 0, 0), (6, .goto 14, 3, 20, 0, 0), (20, .istore_n 2, 1, 0, 0, 0)] (pc' := 21) (lc' := [(2, (0, 0, (ax_i2b x1))), (0, (0, 0, x0)), (1, (0, 0, x1))]) (st' := []) (M' := M) (C' := True) (by decide +kernel) rfl trivial ?_
    refine ax_bdI0 (e := (ax_i2b x1)) (fun y4 => [(2, (0, 0, y4)), (0, (0, 0, x0)), (1, (0, 0, x1))]) (fun y4 => []) (fun y4 => ?_)
    refine ax_lump ax_layC ok_kX2 [(21, .iconst 0, 1, 0, 0, 0), (22, .iload_n 2, 1, 0, 0, 0), (23, .sipush 999, 3, 0, 0, 0)] (pc' := 26) (lc' := [(2, (0, 0, y4)), (0, (0, 0, x0)), (1, (0, 0, x1))]) (st' := [(0, 0, 999), (0, 0, y4), (0, 0, 0)]) (M' := M) (C' := True) (by decide +kernel) rfl trivial ?_
    refine ax_mmin (i := 134) (by decide +kernel) (by omega) (Nat.le_of_ble_eq_true rfl) wt_341 wt_266 wt_8 wt_267 ?_
    refine ax_mmax (i := 139) (by decide +kernel) (by omega) (Nat.le_of_ble_eq_true rfl) wt_342 wt_263 wt_8 wt_264 ?_
    exact ax_iret (by decide +kernel) rfl ⟨rfl, rfl, (show (0 : Int) ≤ (if 0 < (if 999 < y4 then 999 else y4) then (if 999 < y4 then 999 else y4) else 0) from by omega), (show (if 0 < (if 999 < y4 then 999 else y4) then (if 999 < y4 then 999 else y4) else 0) ≤ (999 : Int) from by omega)⟩
def f_X2_greatestShared_B7  (M : ax_M) (i : Nat) (v2 : Int) (v3 : Int) (kc : Int → Int → Int) (kx : Int → Int) : Int := (if v3 = 0 then kx v2 else ax_bd (ax_rem v2 v3) (fun y2 => kc v3 y2))
def f_X2_greatestShared_L7  (M : ax_M) : Nat → Nat → Int → Int → (Int → Int) → Int
  | 0, i, v2, v3, kx => kx v2
  | n + 1, i, v2, v3, kx => f_X2_greatestShared_B7  M i v2 v3 (fun u2 u3 => f_X2_greatestShared_L7  M n (i + 1) u2 u3 kx) kx
set_option maxRecDepth 100000 in
set_option maxHeartbeats 4000000 in
theorem wb_X2_greatestShared_B7 (d : Nat)  (M : ax_M) (i : Nat) (v2 : Int) (v3 : Int) (kc : Int → Int → Int) (kx : Int → Int)  (hi : 0 ≤ i ∧ i < 64)  (hkc : ∀ (u2 : Int) (u3 : Int), ax_W ax_LC gX2_greatestShared (d + 1) 7 [(2, (0, 0, u2)), (3, (0, 0, u3)), (4, (0, 0, ((i : Int) + 1)))] [] M ((ax_qi (-2147483648) 2147483647 M) (kc u2 u3))) (hkx : ∀ (x2 : Int), (True) → ax_W ax_LC gX2_greatestShared (d + 1) 34 [(2, (0, 0, x2))] [] M ((ax_qi (-2147483648) 2147483647 M) (kx x2))) : ax_W ax_LC gX2_greatestShared (d + 1) 14 [(2, (0, 0, v2)), (3, (0, 0, v3)), (4, (0, 0, (i : Int)))] [] M ((ax_qi (-2147483648) 2147483647 M) (f_X2_greatestShared_B7  M i v2 v3 kc kx)) := by
  unfold f_X2_greatestShared_B7
  refine ax_lump ax_layC ok_kX2 [(14, .iload_n 3, 1, 0, 0, 0)] (pc' := 15) (lc' := [(2, (0, 0, v2)), (3, (0, 0, v3)), (4, (0, 0, (i : Int)))]) (st' := [(0, 0, v3)]) (M' := M) (C' := True) (by decide +kernel) rfl trivial ?_
  refine ax_zeq (off := 19) (tgt := 34) (by decide +kernel) (by decide) (fun h1 => ?_) (fun h1 => ?_)
  · refine ax_pk [0] (lc' := [(2, (0, 0, v2))]) rfl ?_
    exact hkx v2 trivial
  · refine ax_lump ax_layC ok_kX2 [(18, .iload_n 2, 1, 0, 0, 0), (19, .iload_n 3, 1, 0, 0, 0), (20, .irem, 1, 0, 0, 0), (21, .istore 5, 2, 0, 0, 0)] (pc' := 23) (lc' := [(5, (0, 0, (ax_rem v2 v3))), (2, (0, 0, v2)), (3, (0, 0, v3)), (4, (0, 0, (i : Int)))]) (st' := []) (M' := M) (C' := (True ∧ v3 ≠ 0)) (by decide +kernel) rfl ⟨trivial, by omega⟩ ?_
    refine ax_bdI0 (e := (ax_rem v2 v3)) (fun y2 => [(5, (0, 0, y2)), (2, (0, 0, v2)), (3, (0, 0, v3)), (4, (0, 0, (i : Int)))]) (fun y2 => []) (fun y2 => ?_)
    refine ax_lump ax_layC ok_kX2 [(23, .iload_n 3, 1, 0, 0, 0), (24, .istore_n 2, 1, 0, 0, 0), (25, .iload 5, 2, 0, 0, 0), (27, .istore_n 3, 1, 0, 0, 0), (28, .iinc 4 1, 3, 1, 0, 0), (31, .goto (-24), 3, 7, 0, 0)] (pc' := 7) (lc' := [(4, (0, 0, ((i : Int) + 1))), (3, (0, 0, y2)), (2, (0, 0, v3)), (5, (0, 0, y2))]) (st' := []) (M' := M) (C' := (True ∧ ax_r32 ((i : Int) + 1))) (by decide +kernel) rfl ⟨trivial, ⟨by omega, by omega⟩⟩ ?_
    refine ax_pk [2,1,0] (lc' := [(2, (0, 0, v3)), (3, (0, 0, y2)), (4, (0, 0, ((i : Int) + 1)))]) rfl ?_
    exact hkc v3 y2 
set_option maxRecDepth 100000 in
set_option maxHeartbeats 4000000 in
theorem w_X2_greatestShared_L7 (d : Nat)  (M : ax_M) (kx : Int → Int)  (hkx : ∀ (x2 : Int), (True) → ax_W ax_LC gX2_greatestShared (d + 1) 34 [(2, (0, 0, x2))] [] M ((ax_qi (-2147483648) 2147483647 M) (kx x2))) : ∀ (n : Nat) (i : Nat) (v2 : Int) (v3 : Int), 0 ≤ i ∧ i + n = 64 → ax_W ax_LC gX2_greatestShared (d + 1) 7 [(2, (0, 0, v2)), (3, (0, 0, v3)), (4, (0, 0, (i : Int)))] [] M ((ax_qi (-2147483648) 2147483647 M) (f_X2_greatestShared_L7  M n i v2 v3 kx)) := by
  intro n
  induction n with
  | zero =>
    intro i v2 v3 hin
    refine ax_lump ax_layC ok_kX2 [(7, .iload 4, 2, 0, 0, 0), (9, .bipush 64, 2, 0, 0, 0)] (pc' := 11) (lc' := [(2, (0, 0, v2)), (3, (0, 0, v3)), (4, (0, 0, (i : Int)))]) (st' := [(0, 0, 64), (0, 0, (i : Int))]) (M' := M) (C' := True) (by decide +kernel) rfl trivial ?_
    refine ax_icmp_ge (off := 23) (tgt := 34) (by decide +kernel) (by decide) (fun h => ?_) (fun h => ?_)
    · refine ax_pk [0] (lc' := [(2, (0, 0, v2))]) rfl ?_
      exact hkx v2 trivial
    · exfalso; omega
  | succ n ih =>
    intro i v2 v3 hin
    refine ax_lump ax_layC ok_kX2 [(7, .iload 4, 2, 0, 0, 0), (9, .bipush 64, 2, 0, 0, 0)] (pc' := 11) (lc' := [(2, (0, 0, v2)), (3, (0, 0, v3)), (4, (0, 0, (i : Int)))]) (st' := [(0, 0, 64), (0, 0, (i : Int))]) (M' := M) (C' := True) (by decide +kernel) rfl trivial ?_
    refine ax_icmp_ge (off := 23) (tgt := 34) (by decide +kernel) (by decide) (fun h => ?_) (fun h => ?_)
    · exfalso; omega
    · exact wb_X2_greatestShared_B7 d  M i v2 v3 _ kx  (by omega)  (fun u2 u3 => ih (i + 1) u2 u3 (by omega) ) hkx
def f_X2_greatestShared (x0 : Int) (x1 : Int) (M : ax_M) : Int := f_X2_greatestShared_L7  M 64 0 x0 x1 (fun z3 => (if 1 < z3 then z3 else 1))
set_option maxRecDepth 100000 in
set_option maxHeartbeats 4000000 in
theorem c_X2_greatestShared (d : Nat) (x0 : Int) (x1 : Int) (M : ax_M)  : ax_Met ax_LC gX2_greatestShared (d + 1) [(0, 0, x0), (0, 0, x1)] M ((ax_qi (-2147483648) 2147483647 M) (f_X2_greatestShared x0 x1 M)) := by
  refine ax_body (by decide) (fun X => Nat.le_of_ble_eq_true rfl) (fun hok => ?_)
  have hr_x0 : (-2147483648) ≤ x0 ∧ x0 ≤ 2147483647 := hok (0, 0, x0) (by simp)
  have hr_x1 : (-2147483648) ≤ x1 ∧ x1 ≤ 2147483647 := hok (0, 0, x1) (by simp)
  show ax_W ax_LC gX2_greatestShared (d + 1) 0 [(0, (0, 0, x0)), (1, (0, 0, x1))] [] M _
  unfold f_X2_greatestShared
  refine ax_lump ax_layC ok_kX2 [(0, .iload_n 0, 1, 0, 0, 0), (1, .istore_n 2, 1, 0, 0, 0), (2, .iload_n 1, 1, 0, 0, 0), (3, .istore_n 3, 1, 0, 0, 0), (4, .iconst 0, 1, 0, 0, 0), (5, .istore 4, 2, 0, 0, 0)] (pc' := 7) (lc' := [(4, (0, 0, 0)), (3, (0, 0, x1)), (2, (0, 0, x0)), (0, (0, 0, x0)), (1, (0, 0, x1))]) (st' := []) (M' := M) (C' := True) (by decide +kernel) rfl trivial ?_
  refine ax_pk [2,1,0] (lc' := [(2, (0, 0, x0)), (3, (0, 0, x1)), (4, (0, 0, 0))]) rfl ?_
  refine w_X2_greatestShared_L7 d  M _  (fun z3 hx_3 => ?_) 64 0 x0 x1 (by omega) 
  refine ax_lump ax_layC ok_kX2 [(34, .iconst 1, 1, 0, 0, 0), (35, .iload_n 2, 1, 0, 0, 0)] (pc' := 36) (lc' := [(2, (0, 0, z3))]) (st' := [(0, 0, z3), (0, 0, 1)]) (M' := M) (C' := True) (by decide +kernel) rfl trivial ?_
  refine ax_mmax (i := 139) (by decide +kernel) (by omega) (Nat.le_of_ble_eq_true rfl) wt_342 wt_263 wt_8 wt_264 ?_
  refine ax_rngS (fun hr => ?_)
  exact ax_iret (by decide +kernel) rfl ⟨rfl, rfl, hr.1, hr.2⟩
def f_X2_heard (x1 : Int) (x2 : Int) (M : ax_M) : Int × ax_M := (if x1 < 0 then ((-1), M) else (if 4 ≤ x1 then ((-1), M) else (if x2 < 0 then ((-1), M) else (if ((ax_cs.getD 2 ("", [])).2.getD x1.toNat 0) < x2 then ((-1), M) else (if (M 0 15) < 12 then ax_bd (ax_up M 36 (M 0 15).toNat x1) (fun M7 => ax_bd (ax_up M7 37 (M7 0 15).toNat x2) (fun M9 => ax_bd (ax_up M9 0 15 ((M9 0 15) + 1)) (fun M11 => ((M11 0 15), M11)))) else ((-1), M))))))
set_option maxRecDepth 100000 in
set_option maxHeartbeats 4000000 in
theorem c_X2_heard (d : Nat) (x1 : Int) (x2 : Int) (M : ax_M)  : ax_Met ax_LC gX2_heard (d + 0) [(2, 2, 0), (0, 0, x1), (0, 0, x2)] M ((ax_qm (-1) 12) (f_X2_heard x1 x2 M)) := by
  refine ax_body (by decide) (fun X => Nat.le_of_ble_eq_true rfl) (fun hok => ?_)
  have hr_x1 : (-2147483648) ≤ x1 ∧ x1 ≤ 2147483647 := hok (0, 0, x1) (by simp)
  have hr_x2 : (-2147483648) ≤ x2 ∧ x2 ≤ 2147483647 := hok (0, 0, x2) (by simp)
  show ax_W ax_LC gX2_heard (d + 0) 0 [(0, (2, 2, 0)), (1, (0, 0, x1)), (2, (0, 0, x2))] [] M _
  unfold f_X2_heard
  refine ax_lump ax_layC ok_kX2 [(0, .iload_n 1, 1, 0, 0, 0)] (pc' := 1) (lc' := [(0, (2, 2, 0)), (1, (0, 0, x1)), (2, (0, 0, x2))]) (st' := [(0, 0, x1)]) (M' := M) (C' := True) (by decide +kernel) rfl trivial ?_
  refine ax_zlt (off := 30) (tgt := 31) (by decide +kernel) (by decide) (fun h1 => ?_) (fun h1 => ?_)
  · refine ax_lump ax_layC ok_kX2 [(31, .iconst (-1), 1, 0, 0, 0)] (pc' := 32) (lc' := [(0, (2, 2, 0)), (1, (0, 0, x1)), (2, (0, 0, x2))]) (st' := [(0, 0, (-1))]) (M' := M) (C' := True) (by decide +kernel) rfl trivial ?_
    exact ax_iret (by decide +kernel) rfl ⟨rfl, rfl, (show ((-1) : Int) ≤ (-1) from by omega), (show (-1) ≤ (12 : Int) from by omega)⟩
  · refine ax_lump ax_layC ok_kX2 [(4, .iload_n 1, 1, 0, 0, 0), (5, .iconst 4, 1, 0, 0, 0)] (pc' := 6) (lc' := [(0, (2, 2, 0)), (1, (0, 0, x1)), (2, (0, 0, x2))]) (st' := [(0, 0, 4), (0, 0, x1)]) (M' := M) (C' := True) (by decide +kernel) rfl trivial ?_
    refine ax_jge (off := 25) (tgt := 31) (by decide +kernel) (by decide) (fun h2 => ?_) (fun h2 => ?_)
    · refine ax_lump ax_layC ok_kX2 [(31, .iconst (-1), 1, 0, 0, 0)] (pc' := 32) (lc' := [(0, (2, 2, 0)), (1, (0, 0, x1)), (2, (0, 0, x2))]) (st' := [(0, 0, (-1))]) (M' := M) (C' := True) (by decide +kernel) rfl trivial ?_
      exact ax_iret (by decide +kernel) rfl ⟨rfl, rfl, (show ((-1) : Int) ≤ (-1) from by omega), (show (-1) ≤ (12 : Int) from by omega)⟩
    · refine ax_lump ax_layC ok_kX2 [(9, .iload_n 2, 1, 0, 0, 0)] (pc' := 10) (lc' := [(0, (2, 2, 0)), (1, (0, 0, x1)), (2, (0, 0, x2))]) (st' := [(0, 0, x2)]) (M' := M) (C' := True) (by decide +kernel) rfl trivial ?_
      refine ax_zlt (off := 21) (tgt := 31) (by decide +kernel) (by decide) (fun h3 => ?_) (fun h3 => ?_)
      · refine ax_lump ax_layC ok_kX2 [(31, .iconst (-1), 1, 0, 0, 0)] (pc' := 32) (lc' := [(0, (2, 2, 0)), (1, (0, 0, x1)), (2, (0, 0, x2))]) (st' := [(0, 0, (-1))]) (M' := M) (C' := True) (by decide +kernel) rfl trivial ?_
        exact ax_iret (by decide +kernel) rfl ⟨rfl, rfl, (show ((-1) : Int) ≤ (-1) from by omega), (show (-1) ≤ (12 : Int) from by omega)⟩
      · refine ax_lump ax_layC ok_kX2 [(13, .iload_n 2, 1, 0, 0, 0), (14, .getstatic 289, 3, 2, 0, 0), (17, .iload_n 1, 1, 0, 0, 0), (18, .iaload, 1, 0, 0, 0)] (pc' := 19) (lc' := [(0, (2, 2, 0)), (1, (0, 0, x1)), (2, (0, 0, x2))]) (st' := [(0, 0, ((ax_cs.getD 2 ("", [])).2.getD x1.toNat 0)), (0, 0, x2)]) (M' := M) (C' := (True ∧ (0 ≤ x1 ∧ x1 < ((ax_cs.getD 2 ("", [])).2.length : Int)))) (by decide +kernel) rfl ⟨trivial, (by have e9 : (ax_cs.getD 2 ("", [])).2.length = 4 := rfl; rw [e9]; omega)⟩ ?_
        refine ax_jgt (off := 12) (tgt := 31) (by decide +kernel) (by decide) (fun h4 => ?_) (fun h4 => ?_)
        · refine ax_lump ax_layC ok_kX2 [(31, .iconst (-1), 1, 0, 0, 0)] (pc' := 32) (lc' := [(0, (2, 2, 0)), (1, (0, 0, x1)), (2, (0, 0, x2))]) (st' := [(0, 0, (-1))]) (M' := M) (C' := True) (by decide +kernel) rfl trivial ?_
          exact ax_iret (by decide +kernel) rfl ⟨rfl, rfl, (show ((-1) : Int) ≤ (-1) from by omega), (show (-1) ≤ (12 : Int) from by omega)⟩
        · refine ax_fact (i := 0) (c := 2) (f := 15) (hi := 12) (s := 0) (by simp) rfl rfl rfl (fun hf5 => ?_)
          have hf5 : 0 ≤ (M 0 15) ∧ (M 0 15) ≤ 12 := hf5
          refine ax_lump ax_layC ok_kX2 [(22, .aload_n 0, 1, 0, 0, 0), (23, .getfield 67, 3, 2, 15, 0), (26, .bipush 12, 2, 0, 0, 0)] (pc' := 28) (lc' := [(0, (2, 2, 0)), (1, (0, 0, x1)), (2, (0, 0, x2))]) (st' := [(0, 0, 12), (0, 0, (M 0 15))]) (M' := M) (C' := True) (by decide +kernel) rfl trivial ?_
          refine ax_jlt (off := 5) (tgt := 33) (by decide +kernel) (by decide) (fun h6 => ?_) (fun h6 => ?_)
          · refine ax_lump ax_layC ok_kX2 [(33, .aload_n 0, 1, 0, 0, 0), (34, .getfield 61, 3, 2, 13, 0), (37, .aload_n 0, 1, 0, 0, 0), (38, .getfield 67, 3, 2, 15, 0), (41, .iload_n 1, 1, 0, 0, 0), (42, .iastore, 1, 0, 0, 0)] (pc' := 43) (lc' := [(0, (2, 2, 0)), (1, (0, 0, x1)), (2, (0, 0, x2))]) (st' := []) (M' := (ax_up M 36 (M 0 15).toNat x1)) (C' := (True ∧ (0 ≤ (M 0 15) ∧ (M 0 15) < ((12 : Nat) : Int)))) (by decide +kernel) rfl ⟨trivial, by omega⟩ ?_
            refine ax_bdMe (fun M7 hM_M7 => ?_)
            have hk_k8 : (M7 0 15) = (M 0 15) := by rw [hM_M7]; exact ax_up_o1 (by omega)
            refine ax_lump ax_layC ok_kX2 [(43, .aload_n 0, 1, 0, 0, 0), (44, .getfield 64, 3, 2, 14, 0), (47, .aload_n 0, 1, 0, 0, 0), (48, .getfield 67, 3, 2, 15, 0), (51, .iload_n 2, 1, 0, 0, 0), (52, .iastore, 1, 0, 0, 0)] (pc' := 53) (lc' := [(0, (2, 2, 0)), (1, (0, 0, x1)), (2, (0, 0, x2))]) (st' := []) (M' := (ax_up M7 37 (M7 0 15).toNat x2)) (C' := (True ∧ (0 ≤ (M7 0 15) ∧ (M7 0 15) < ((12 : Nat) : Int)))) (by decide +kernel) rfl ⟨trivial, by omega⟩ ?_
            refine ax_bdMe (fun M9 hM_M9 => ?_)
            have hk_k10 : (M9 0 15) = (M7 0 15) := by rw [hM_M9]; exact ax_up_o1 (by omega)
            refine ax_lump ax_layC ok_kX2 [(53, .aload_n 0, 1, 0, 0, 0), (54, .dup, 1, 0, 0, 0), (55, .getfield 67, 3, 2, 15, 0), (58, .iconst 1, 1, 0, 0, 0), (59, .iadd, 1, 1, 0, 0), (60, .putfield 67, 3, 2, 15, 0)] (pc' := 63) (lc' := [(0, (2, 2, 0)), (1, (0, 0, x1)), (2, (0, 0, x2))]) (st' := []) (M' := (ax_up M9 0 15 ((M9 0 15) + 1))) (C' := ((True ∧ ax_r32 ((M9 0 15) + 1)) ∧ (0 ≤ ((M9 0 15) + 1) ∧ ((M9 0 15) + 1) < ((13 : Nat) : Int)))) (by decide +kernel) rfl ⟨⟨trivial, ⟨by omega, by omega⟩⟩, by omega⟩ ?_
            refine ax_bdMe (fun M11 hM_M11 => ?_)
            have hk_k12 : (M11 0 15) = ((M9 0 15) + 1) := by rw [hM_M11]; exact ax_up_s
            refine ax_lump ax_layC ok_kX2 [(63, .aload_n 0, 1, 0, 0, 0), (64, .getfield 67, 3, 2, 15, 0)] (pc' := 67) (lc' := [(0, (2, 2, 0)), (1, (0, 0, x1)), (2, (0, 0, x2))]) (st' := [(0, 0, (M11 0 15))]) (M' := M11) (C' := True) (by decide +kernel) rfl trivial ?_
            exact ax_iret (by decide +kernel) rfl ⟨rfl, rfl, (show ((-1) : Int) ≤ (M11 0 15) from by omega), (show (M11 0 15) ≤ (12 : Int) from by omega)⟩
          · refine ax_lump ax_layC ok_kX2 [(31, .iconst (-1), 1, 0, 0, 0)] (pc' := 32) (lc' := [(0, (2, 2, 0)), (1, (0, 0, x1)), (2, (0, 0, x2))]) (st' := [(0, 0, (-1))]) (M' := M) (C' := True) (by decide +kernel) rfl trivial ?_
            exact ax_iret (by decide +kernel) rfl ⟨rfl, rfl, (show ((-1) : Int) ≤ (-1) from by omega), (show (-1) ≤ (12 : Int) from by omega)⟩
def f_X2_denies  (M : ax_M) : Int × ax_M := ax_bd (M 0 15) (fun y2 => ax_bd (ax_up M 0 15 0) (fun M3 => (y2, M3)))
set_option maxRecDepth 100000 in
set_option maxHeartbeats 4000000 in
theorem c_X2_denies (d : Nat)  (M : ax_M)  : ax_Met ax_LC gX2_denies (d + 0) [(2, 2, 0)] M ((ax_qm 0 12) (f_X2_denies  M)) := by
  refine ax_body (by decide) (fun X => Nat.le_of_ble_eq_true rfl) (fun hok => ?_)
  show ax_W ax_LC gX2_denies (d + 0) 0 [(0, (2, 2, 0))] [] M _
  unfold f_X2_denies
  refine ax_fact (i := 0) (c := 2) (f := 15) (hi := 12) (s := 0) (by simp) rfl rfl rfl (fun hf1 => ?_)
  have hf1 : 0 ≤ (M 0 15) ∧ (M 0 15) ≤ 12 := hf1
  refine ax_lump ax_layC ok_kX2 [(0, .aload_n 0, 1, 0, 0, 0), (1, .getfield 67, 3, 2, 15, 0), (4, .istore_n 1, 1, 0, 0, 0)] (pc' := 5) (lc' := [(1, (0, 0, (M 0 15))), (0, (2, 2, 0))]) (st' := []) (M' := M) (C' := True) (by decide +kernel) rfl trivial ?_
  refine ax_bdI (lo := 0) (hi := 12) (e := (M 0 15)) (fun y2 => [(1, (0, 0, y2)), (0, (2, 2, 0))]) (fun y2 => []) (by omega) (fun y2 h_y2 => ?_)
  refine ax_lump ax_layC ok_kX2 [(5, .aload_n 0, 1, 0, 0, 0), (6, .iconst 0, 1, 0, 0, 0), (7, .putfield 67, 3, 2, 15, 0)] (pc' := 10) (lc' := [(1, (0, 0, y2)), (0, (2, 2, 0))]) (st' := []) (M' := (ax_up M 0 15 0)) (C' := (True ∧ (0 ≤ 0 ∧ 0 < ((13 : Nat) : Int)))) (by decide +kernel) rfl ⟨trivial, by omega⟩ ?_
  refine ax_bdMe (fun M3 hM_M3 => ?_)
  have hk_k4 : (M3 0 15) = 0 := by rw [hM_M3]; exact ax_up_s
  refine ax_lump ax_layC ok_kX2 [(10, .iload_n 1, 1, 0, 0, 0)] (pc' := 11) (lc' := [(1, (0, 0, y2)), (0, (2, 2, 0))]) (st' := [(0, 0, y2)]) (M' := M3) (C' := True) (by decide +kernel) rfl trivial ?_
  exact ax_iret (by decide +kernel) rfl ⟨rfl, rfl, (show (0 : Int) ≤ y2 from by omega), (show y2 ≤ (12 : Int) from by omega)⟩
def f_X2_isPage (x0 : Int) (M : ax_M) : Int := (if x0 < 0 then 0 else (if 24 ≤ x0 then 0 else 1))
set_option maxRecDepth 100000 in
set_option maxHeartbeats 4000000 in
theorem c_X2_isPage (d : Nat) (x0 : Int) (M : ax_M)  : ax_Met ax_LC gX2_isPage (d + 0) [(0, 0, x0)] M ((ax_qi 0 1 M) (f_X2_isPage x0 M)) := by
  refine ax_body (by decide) (fun X => Nat.le_of_ble_eq_true rfl) (fun hok => ?_)
  have hr_x0 : (-2147483648) ≤ x0 ∧ x0 ≤ 2147483647 := hok (0, 0, x0) (by simp)
  show ax_W ax_LC gX2_isPage (d + 0) 0 [(0, (0, 0, x0))] [] M _
  unfold f_X2_isPage
  refine ax_lump ax_layC ok_kX2 [(0, .iload_n 0, 1, 0, 0, 0)] (pc' := 1) (lc' := [(0, (0, 0, x0))]) (st' := [(0, 0, x0)]) (M' := M) (C' := True) (by decide +kernel) rfl trivial ?_
  refine ax_zlt (off := 13) (tgt := 14) (by decide +kernel) (by decide) (fun h1 => ?_) (fun h1 => ?_)
  · refine ax_lump ax_layC ok_kX2 [(14, .iconst 0, 1, 0, 0, 0)] (pc' := 15) (lc' := [(0, (0, 0, x0))]) (st' := [(0, 0, 0)]) (M' := M) (C' := True) (by decide +kernel) rfl trivial ?_
    exact ax_zret (by decide +kernel) rfl (by omega) ⟨rfl, rfl, (show (0 : Int) ≤ 0 from by omega), (show 0 ≤ (1 : Int) from by omega)⟩
  · refine ax_lump ax_layC ok_kX2 [(4, .iload_n 0, 1, 0, 0, 0), (5, .bipush 24, 2, 0, 0, 0)] (pc' := 7) (lc' := [(0, (0, 0, x0))]) (st' := [(0, 0, 24), (0, 0, x0)]) (M' := M) (C' := True) (by decide +kernel) rfl trivial ?_
    refine ax_jge (off := 7) (tgt := 14) (by decide +kernel) (by decide) (fun h2 => ?_) (fun h2 => ?_)
    · refine ax_lump ax_layC ok_kX2 [(14, .iconst 0, 1, 0, 0, 0)] (pc' := 15) (lc' := [(0, (0, 0, x0))]) (st' := [(0, 0, 0)]) (M' := M) (C' := True) (by decide +kernel) rfl trivial ?_
      exact ax_zret (by decide +kernel) rfl (by omega) ⟨rfl, rfl, (show (0 : Int) ≤ 0 from by omega), (show 0 ≤ (1 : Int) from by omega)⟩
    · refine ax_lump ax_layC ok_kX2 [(10, .iconst 1, 1, 0, 0, 0), (11, .goto 4, 3, 15, 0, 0)] (pc' := 15) (lc' := [(0, (0, 0, x0))]) (st' := [(0, 0, 1)]) (M' := M) (C' := True) (by decide +kernel) rfl trivial ?_
      exact ax_zret (by decide +kernel) rfl (by omega) ⟨rfl, rfl, (show (0 : Int) ≤ 1 from by omega), (show 1 ≤ (1 : Int) from by omega)⟩
theorem g_X2_isPage {v : Int} {M : ax_M} (h : ¬ f_X2_isPage v M = 0) : 0 ≤ v ∧ v ≤ 23 := by
  unfold f_X2_isPage at h
  by_cases h1 : v < 0
  · simp [h1] at h
  · by_cases h2 : v < 24
    · omega
    · simp [h1] at h; omega
def f_X2_kindOfRow (x0 : Int) (M : ax_M) : Int := (if x0 ≠ 0 then (if x0 ≠ 1 then (-1) else 4) else 3)
set_option maxRecDepth 100000 in
set_option maxHeartbeats 4000000 in
theorem c_X2_kindOfRow (d : Nat) (x0 : Int) (M : ax_M)  : ax_Met ax_LC gX2_kindOfRow (d + 0) [(0, 0, x0)] M ((ax_qi (-1) 4 M) (f_X2_kindOfRow x0 M)) := by
  refine ax_body (by decide) (fun X => Nat.le_of_ble_eq_true rfl) (fun hok => ?_)
  have hr_x0 : (-2147483648) ≤ x0 ∧ x0 ≤ 2147483647 := hok (0, 0, x0) (by simp)
  show ax_W ax_LC gX2_kindOfRow (d + 0) 0 [(0, (0, 0, x0))] [] M _
  unfold f_X2_kindOfRow
  refine ax_lump ax_layC ok_kX2 [(0, .iload_n 0, 1, 0, 0, 0)] (pc' := 1) (lc' := [(0, (0, 0, x0))]) (st' := [(0, 0, x0)]) (M' := M) (C' := True) (by decide +kernel) rfl trivial ?_
  refine ax_zne (off := 7) (tgt := 8) (by decide +kernel) (by decide) (fun h1 => ?_) (fun h1 => ?_)
  · refine ax_lump ax_layC ok_kX2 [(8, .iload_n 0, 1, 0, 0, 0), (9, .iconst 1, 1, 0, 0, 0)] (pc' := 10) (lc' := [(0, (0, 0, x0))]) (st' := [(0, 0, 1), (0, 0, x0)]) (M' := M) (C' := True) (by decide +kernel) rfl trivial ?_
    refine ax_jne (off := 7) (tgt := 17) (by decide +kernel) (by decide) (fun h2 => ?_) (fun h2 => ?_)
    · refine ax_lump ax_layC ok_kX2 [(17, .iconst (-1), 1, 0, 0, 0)] (pc' := 18) (lc' := [(0, (0, 0, x0))]) (st' := [(0, 0, (-1))]) (M' := M) (C' := True) (by decide +kernel) rfl trivial ?_
      exact ax_iret (by decide +kernel) rfl ⟨rfl, rfl, (show ((-1) : Int) ≤ (-1) from by omega), (show (-1) ≤ (4 : Int) from by omega)⟩
    · refine ax_lump ax_layC ok_kX2 [(13, .iconst 4, 1, 0, 0, 0), (14, .goto 4, 3, 18, 0, 0)] (pc' := 18) (lc' := [(0, (0, 0, x0))]) (st' := [(0, 0, 4)]) (M' := M) (C' := True) (by decide +kernel) rfl trivial ?_
      exact ax_iret (by decide +kernel) rfl ⟨rfl, rfl, (show ((-1) : Int) ≤ 4 from by omega), (show 4 ≤ (4 : Int) from by omega)⟩
  · refine ax_lump ax_layC ok_kX2 [(4, .iconst 3, 1, 0, 0, 0), (5, .goto 13, 3, 18, 0, 0)] (pc' := 18) (lc' := [(0, (0, 0, x0))]) (st' := [(0, 0, 3)]) (M' := M) (C' := True) (by decide +kernel) rfl trivial ?_
    exact ax_iret (by decide +kernel) rfl ⟨rfl, rfl, (show ((-1) : Int) ≤ 3 from by omega), (show 3 ≤ (4 : Int) from by omega)⟩
def f_X2_tellAnew  (M : ax_M) : ax_M := ax_bd (ax_up M 0 12 0) (fun M1 => M1)
set_option maxRecDepth 100000 in
set_option maxHeartbeats 4000000 in
theorem c_X2_tellAnew (d : Nat)  (M : ax_M)  : ax_Met ax_LC gX2_tellAnew (d + 0) [(2, 2, 0)] M (ax_qv (f_X2_tellAnew  M)) := by
  refine ax_body (by decide) (fun X => Nat.le_of_ble_eq_true rfl) (fun hok => ?_)
  show ax_W ax_LC gX2_tellAnew (d + 0) 0 [(0, (2, 2, 0))] [] M _
  unfold f_X2_tellAnew
  refine ax_lump ax_layC ok_kX2 [(0, .aload_n 0, 1, 0, 0, 0), (1, .iconst 0, 1, 0, 0, 0), (2, .putfield 58, 3, 2, 12, 0)] (pc' := 5) (lc' := [(0, (2, 2, 0))]) (st' := []) (M' := (ax_up M 0 12 0)) (C' := (True ∧ (0 ≤ 0 ∧ 0 < ((13 : Nat) : Int)))) (by decide +kernel) rfl ⟨trivial, by omega⟩ ?_
  refine ax_bdMe (fun M1 hM_M1 => ?_)
  exact ax_vret (by decide +kernel) rfl ⟨rfl, rfl⟩
def f_X2_tell (x1 : Int) (M : ax_M) : ax_M := (if 12 ≤ (M 0 12) then M else ax_bd (ax_up M 35 (M 0 12).toNat x1) (fun M3 => ax_bd (ax_up M3 0 12 ((M3 0 12) + 1)) (fun M5 => M5)))
set_option maxRecDepth 100000 in
set_option maxHeartbeats 4000000 in
theorem c_X2_tell (d : Nat) (x1 : Int) (M : ax_M)  : ax_Met ax_LC gX2_tell (d + 0) [(2, 2, 0), (1, 0, x1)] M (ax_qv (f_X2_tell x1 M)) := by
  refine ax_body (by decide) (fun X => Nat.le_of_ble_eq_true rfl) (fun hok => ?_)
  show ax_W ax_LC gX2_tell (d + 0) 0 [(0, (2, 2, 0)), (1, (1, 0, x1))] [] M _
  unfold f_X2_tell
  refine ax_fact (i := 0) (c := 2) (f := 12) (hi := 12) (s := 0) (by simp) rfl rfl rfl (fun hf1 => ?_)
  have hf1 : 0 ≤ (M 0 12) ∧ (M 0 12) ≤ 12 := hf1
  refine ax_lump ax_layC ok_kX2 [(0, .aload_n 0, 1, 0, 0, 0), (1, .getfield 58, 3, 2, 12, 0), (4, .bipush 12, 2, 0, 0, 0)] (pc' := 6) (lc' := [(0, (2, 2, 0)), (1, (1, 0, x1))]) (st' := [(0, 0, 12), (0, 0, (M 0 12))]) (M' := M) (C' := True) (by decide +kernel) rfl trivial ?_
  refine ax_jge (off := 23) (tgt := 29) (by decide +kernel) (by decide) (fun h2 => ?_) (fun h2 => ?_)
  · exact ax_vret (by decide +kernel) rfl ⟨rfl, rfl⟩
  · refine ax_lump ax_layC ok_kX2 [(9, .aload_n 0, 1, 0, 0, 0), (10, .getfield 54, 3, 2, 11, 0), (13, .aload_n 0, 1, 0, 0, 0), (14, .getfield 58, 3, 2, 12, 0), (17, .lload_n 1, 1, 0, 0, 0), (18, .lastore, 1, 0, 0, 0)] (pc' := 19) (lc' := [(0, (2, 2, 0)), (1, (1, 0, x1))]) (st' := []) (M' := (ax_up M 35 (M 0 12).toNat x1)) (C' := (True ∧ (0 ≤ (M 0 12) ∧ (M 0 12) < ((12 : Nat) : Int)))) (by decide +kernel) rfl ⟨trivial, by omega⟩ ?_
    refine ax_bdMe (fun M3 hM_M3 => ?_)
    have hk_k4 : (M3 0 12) = (M 0 12) := by rw [hM_M3]; exact ax_up_o1 (by omega)
    refine ax_lump ax_layC ok_kX2 [(19, .aload_n 0, 1, 0, 0, 0), (20, .dup, 1, 0, 0, 0), (21, .getfield 58, 3, 2, 12, 0), (24, .iconst 1, 1, 0, 0, 0), (25, .iadd, 1, 1, 0, 0), (26, .putfield 58, 3, 2, 12, 0)] (pc' := 29) (lc' := [(0, (2, 2, 0)), (1, (1, 0, x1))]) (st' := []) (M' := (ax_up M3 0 12 ((M3 0 12) + 1))) (C' := ((True ∧ ax_r32 ((M3 0 12) + 1)) ∧ (0 ≤ ((M3 0 12) + 1) ∧ ((M3 0 12) + 1) < ((13 : Nat) : Int)))) (by decide +kernel) rfl ⟨⟨trivial, ⟨by omega, by omega⟩⟩, by omega⟩ ?_
    refine ax_bdMe (fun M5 hM_M5 => ?_)
    have hk_k6 : (M5 0 12) = ((M3 0 12) + 1) := by rw [hM_M5]; exact ax_up_s
    exact ax_vret (by decide +kernel) rfl ⟨rfl, rfl⟩
def f_X2_pastSlot  (M : ax_M) : Int := ((((M 0 3) + (M 0 4)) % 9) * 274)
set_option maxRecDepth 100000 in
set_option maxHeartbeats 4000000 in
theorem c_X2_pastSlot (d : Nat)  (M : ax_M)  : ax_Met ax_LC gX2_pastSlot (d + 0) [(2, 2, 0)] M ((ax_qi 0 2192 M) (f_X2_pastSlot  M)) := by
  refine ax_body (by decide) (fun X => Nat.le_of_ble_eq_true rfl) (fun hok => ?_)
  show ax_W ax_LC gX2_pastSlot (d + 0) 0 [(0, (2, 2, 0))] [] M _
  unfold f_X2_pastSlot
  refine ax_fact (i := 0) (c := 2) (f := 3) (hi := 8) (s := 0) (by simp) rfl rfl rfl (fun hf1 => ?_)
  have hf1 : 0 ≤ (M 0 3) ∧ (M 0 3) ≤ 8 := hf1
  refine ax_fact (i := 0) (c := 2) (f := 4) (hi := 8) (s := 0) (by simp) rfl rfl rfl (fun hf2 => ?_)
  have hf2 : 0 ≤ (M 0 4) ∧ (M 0 4) ≤ 8 := hf2
  refine ax_lump ax_layC ok_kX2 [(0, .aload_n 0, 1, 0, 0, 0), (1, .getfield 23, 3, 2, 3, 0), (4, .aload_n 0, 1, 0, 0, 0), (5, .getfield 27, 3, 2, 4, 0), (8, .iadd, 1, 1, 0, 0), (9, .bipush 9, 2, 0, 0, 0), (11, .irem, 1, 1, 0, 0), (12, .sipush 274, 3, 0, 0, 0), (15, .imul, 1, 1, 0, 0)] (pc' := 16) (lc' := [(0, (2, 2, 0))]) (st' := [(0, 0, ((((M 0 3) + (M 0 4)) % 9) * 274))]) (M' := M) (C' := (((True ∧ ax_r32 ((M 0 3) + (M 0 4))) ∧ (0 ≤ ((M 0 3) + (M 0 4)) ∧ 0 < 9)) ∧ ax_r32 ((((M 0 3) + (M 0 4)) % 9) * 274))) (by decide +kernel) rfl ⟨⟨⟨trivial, ⟨by omega, by omega⟩⟩, by omega⟩, ⟨by omega, by omega⟩⟩ ?_
  exact ax_iret (by decide +kernel) rfl ⟨rfl, rfl, (show (0 : Int) ≤ ((((M 0 3) + (M 0 4)) % 9) * 274) from by omega), (show ((((M 0 3) + (M 0 4)) % 9) * 274) ≤ (2192 : Int) from by omega)⟩
def f_X2_keepPast  (M : ax_M) : ax_M := (if 8 ≤ (M 0 4) then ax_bd (ax_up M 0 3 (((M 0 3) + 1) % 9)) (fun M4 => M4) else ax_bd (ax_up M 0 4 ((M 0 4) + 1)) (fun M7 => M7))
set_option maxRecDepth 100000 in
set_option maxHeartbeats 4000000 in
theorem c_X2_keepPast (d : Nat)  (M : ax_M)  : ax_Met ax_LC gX2_keepPast (d + 0) [(2, 2, 0)] M (ax_qv (f_X2_keepPast  M)) := by
  refine ax_body (by decide) (fun X => Nat.le_of_ble_eq_true rfl) (fun hok => ?_)
  show ax_W ax_LC gX2_keepPast (d + 0) 0 [(0, (2, 2, 0))] [] M _
  unfold f_X2_keepPast
  refine ax_fact (i := 0) (c := 2) (f := 4) (hi := 8) (s := 0) (by simp) rfl rfl rfl (fun hf1 => ?_)
  have hf1 : 0 ≤ (M 0 4) ∧ (M 0 4) ≤ 8 := hf1
  refine ax_lump ax_layC ok_kX2 [(0, .aload_n 0, 1, 0, 0, 0), (1, .getfield 27, 3, 2, 4, 0), (4, .bipush 8, 2, 0, 0, 0)] (pc' := 6) (lc' := [(0, (2, 2, 0))]) (st' := [(0, 0, 8), (0, 0, (M 0 4))]) (M' := M) (C' := True) (by decide +kernel) rfl trivial ?_
  refine ax_jge (off := 16) (tgt := 22) (by decide +kernel) (by decide) (fun h2 => ?_) (fun h2 => ?_)
  · refine ax_fact (i := 0) (c := 2) (f := 3) (hi := 8) (s := 0) (by simp) rfl rfl rfl (fun hf3 => ?_)
    have hf3 : 0 ≤ (M 0 3) ∧ (M 0 3) ≤ 8 := hf3
    refine ax_lump ax_layC ok_kX2 [(22, .aload_n 0, 1, 0, 0, 0), (23, .aload_n 0, 1, 0, 0, 0), (24, .getfield 23, 3, 2, 3, 0), (27, .iconst 1, 1, 0, 0, 0), (28, .iadd, 1, 1, 0, 0), (29, .bipush 9, 2, 0, 0, 0), (31, .irem, 1, 1, 0, 0), (32, .putfield 23, 3, 2, 3, 0)] (pc' := 35) (lc' := [(0, (2, 2, 0))]) (st' := []) (M' := (ax_up M 0 3 (((M 0 3) + 1) % 9))) (C' := (((True ∧ ax_r32 ((M 0 3) + 1)) ∧ (0 ≤ ((M 0 3) + 1) ∧ 0 < 9)) ∧ (0 ≤ (((M 0 3) + 1) % 9) ∧ (((M 0 3) + 1) % 9) < ((9 : Nat) : Int)))) (by decide +kernel) rfl ⟨⟨⟨trivial, ⟨by omega, by omega⟩⟩, by omega⟩, by omega⟩ ?_
    refine ax_bdMe (fun M4 hM_M4 => ?_)
    have hk_k5 : (M4 0 4) = (M 0 4) := by rw [hM_M4]; exact ax_up_o2 (by decide)
    have hk_k6 : (M4 0 3) = (((M 0 3) + 1) % 9) := by rw [hM_M4]; exact ax_up_s
    exact ax_vret (by decide +kernel) rfl ⟨rfl, rfl⟩
  · refine ax_lump ax_layC ok_kX2 [(9, .aload_n 0, 1, 0, 0, 0), (10, .dup, 1, 0, 0, 0), (11, .getfield 27, 3, 2, 4, 0), (14, .iconst 1, 1, 0, 0, 0), (15, .iadd, 1, 1, 0, 0), (16, .putfield 27, 3, 2, 4, 0)] (pc' := 19) (lc' := [(0, (2, 2, 0))]) (st' := []) (M' := (ax_up M 0 4 ((M 0 4) + 1))) (C' := ((True ∧ ax_r32 ((M 0 4) + 1)) ∧ (0 ≤ ((M 0 4) + 1) ∧ ((M 0 4) + 1) < ((9 : Nat) : Int)))) (by decide +kernel) rfl ⟨⟨trivial, ⟨by omega, by omega⟩⟩, by omega⟩ ?_
    refine ax_bdMe (fun M7 hM_M7 => ?_)
    have hk_k8 : (M7 0 4) = ((M 0 4) + 1) := by rw [hM_M7]; exact ax_up_s
    refine ax_lump ax_layC ok_kX2 [(19, .goto 16, 3, 35, 0, 0)] (pc' := 35) (lc' := [(0, (2, 2, 0))]) (st' := []) (M' := M7) (C' := True) (by decide +kernel) rfl trivial ?_
    exact ax_vret (by decide +kernel) rfl ⟨rfl, rfl⟩
def f_X2_settle (x1 : Int) (M : ax_M) : Int × ax_M := (if 0 ≤ x1 then ax_bd (f_X2_keepPast M) (fun M2 => ax_bd (f_X2_tellAnew M2) (fun M3 => (1, M3))) else (0, M))
set_option maxRecDepth 100000 in
set_option maxHeartbeats 4000000 in
theorem c_X2_settle (d : Nat) (x1 : Int) (M : ax_M)  : ax_Met ax_LC gX2_settle (d + 1) [(2, 2, 0), (0, 0, x1)] M ((ax_qm 0 1) (f_X2_settle x1 M)) := by
  refine ax_body (by decide) (fun X => Nat.le_of_ble_eq_true rfl) (fun hok => ?_)
  have hr_x1 : (-2147483648) ≤ x1 ∧ x1 ≤ 2147483647 := hok (0, 0, x1) (by simp)
  show ax_W ax_LC gX2_settle (d + 1) 0 [(0, (2, 2, 0)), (1, (0, 0, x1))] [] M _
  unfold f_X2_settle
  refine ax_lump ax_layC ok_kX2 [(0, .iload_n 1, 1, 0, 0, 0)] (pc' := 1) (lc' := [(0, (2, 2, 0)), (1, (0, 0, x1))]) (st' := [(0, 0, x1)]) (M' := M) (C' := True) (by decide +kernel) rfl trivial ?_
  refine ax_zge (off := 5) (tgt := 6) (by decide +kernel) (by decide) (fun h1 => ?_) (fun h1 => ?_)
  · refine ax_lump ax_layC ok_kX2 [(6, .aload_n 0, 1, 0, 0, 0)] (pc' := 7) (lc' := [(0, (2, 2, 0)), (1, (0, 0, x1))]) (st' := [(2, 2, 0)]) (M' := M) (C' := True) (by decide +kernel) rfl trivial ?_
    refine ax_cVv (G1 := gX2_keepPast) (d1 := d + 0) (i := 195) (n := 0) (as := []) (st := []) (c := 2) (a := 0) (by decide +kernel) ax_cls2 calX2_keepPast (by omega) rfl wt_513 wt_515 ws_46 (Nat.le_of_ble_eq_true rfl) rfl (c_X2_keepPast d  M) (fun M2 => ?_)
    refine ax_lump ax_layC ok_kX2 [(10, .aload_n 0, 1, 0, 0, 0)] (pc' := 11) (lc' := [(0, (2, 2, 0)), (1, (0, 0, x1))]) (st' := [(2, 2, 0)]) (M' := M2) (C' := True) (by decide +kernel) rfl trivial ?_
    refine ax_cVv (G1 := gX2_tellAnew) (d1 := d + 0) (i := 168) (n := 0) (as := []) (st := []) (c := 2) (a := 0) (by decide +kernel) ax_cls2 calX2_tellAnew (by omega) rfl wt_517 wt_519 ws_47 (Nat.le_of_ble_eq_true rfl) rfl (c_X2_tellAnew d  M2) (fun M3 => ?_)
    refine ax_lump ax_layC ok_kX2 [(14, .iconst 1, 1, 0, 0, 0)] (pc' := 15) (lc' := [(0, (2, 2, 0)), (1, (0, 0, x1))]) (st' := [(0, 0, 1)]) (M' := M3) (C' := True) (by decide +kernel) rfl trivial ?_
    exact ax_zret (by decide +kernel) rfl (by omega) ⟨rfl, rfl, (show (0 : Int) ≤ 1 from by omega), (show 1 ≤ (1 : Int) from by omega)⟩
  · refine ax_lump ax_layC ok_kX2 [(4, .iconst 0, 1, 0, 0, 0)] (pc' := 5) (lc' := [(0, (2, 2, 0)), (1, (0, 0, x1))]) (st' := [(0, 0, 0)]) (M' := M) (C' := True) (by decide +kernel) rfl trivial ?_
    exact ax_zret (by decide +kernel) rfl (by omega) ⟨rfl, rfl, (show (0 : Int) ≤ 0 from by omega), (show 0 ≤ (1 : Int) from by omega)⟩
def f_X2_actSize (x0 : Int) (M : ax_M) : Int := (if x0 = 99 then 2 else (if x0 = 104 then 1 else (if x0 = 108 then 1 else (if x0 = 109 then 2 else (if x0 = 113 then 1 else (if x0 = 119 then 5 else 0))))))
set_option maxRecDepth 100000 in
set_option maxHeartbeats 4000000 in
theorem c_X2_actSize (d : Nat) (x0 : Int) (M : ax_M)  : ax_Met ax_LC gX2_actSize (d + 0) [(0, 0, x0)] M ((ax_qi 0 5 M) (f_X2_actSize x0 M)) := by
  refine ax_body (by decide) (fun X => Nat.le_of_ble_eq_true rfl) (fun hok => ?_)
  have hr_x0 : (-2147483648) ≤ x0 ∧ x0 ≤ 2147483647 := hok (0, 0, x0) (by simp)
  show ax_W ax_LC gX2_actSize (d + 0) 0 [(0, (0, 0, x0))] [] M _
  unfold f_X2_actSize
  refine ax_lump ax_layC ok_kX2 [(0, .iload_n 0, 1, 0, 0, 0)] (pc' := 1) (lc' := [(0, (0, 0, x0))]) (st' := [(0, 0, x0)]) (M' := M) (C' := True) (by decide +kernel) rfl trivial ?_
  refine ax_ite (fun h1 => ?_) (fun h1 => ?_)
  · refine ax_swLk (dflt := 65) (off := 61) (ps := #[(99, 61), (104, 63), (108, 63), (109, 61), (113, 63), (119, 59)]) (len := 59) (tgt := 62) (by decide +kernel) (by decide) (by rw [h1]; rfl) (by decide) ?_
    refine ax_lump ax_layC ok_kX2 [(62, .iconst 2, 1, 0, 0, 0)] (pc' := 63) (lc' := [(0, (0, 0, x0))]) (st' := [(0, 0, 2)]) (M' := M) (C' := True) (by decide +kernel) rfl trivial ?_
    exact ax_iret (by decide +kernel) rfl ⟨rfl, rfl, (show (0 : Int) ≤ 2 from by omega), (show 2 ≤ (5 : Int) from by omega)⟩
  · refine ax_ite (fun h2 => ?_) (fun h2 => ?_)
    · refine ax_swLk (dflt := 65) (off := 63) (ps := #[(99, 61), (104, 63), (108, 63), (109, 61), (113, 63), (119, 59)]) (len := 59) (tgt := 64) (by decide +kernel) (by decide) (by rw [h2]; rfl) (by decide) ?_
      refine ax_lump ax_layC ok_kX2 [(64, .iconst 1, 1, 0, 0, 0)] (pc' := 65) (lc' := [(0, (0, 0, x0))]) (st' := [(0, 0, 1)]) (M' := M) (C' := True) (by decide +kernel) rfl trivial ?_
      exact ax_iret (by decide +kernel) rfl ⟨rfl, rfl, (show (0 : Int) ≤ 1 from by omega), (show 1 ≤ (5 : Int) from by omega)⟩
    · refine ax_ite (fun h3 => ?_) (fun h3 => ?_)
      · refine ax_swLk (dflt := 65) (off := 63) (ps := #[(99, 61), (104, 63), (108, 63), (109, 61), (113, 63), (119, 59)]) (len := 59) (tgt := 64) (by decide +kernel) (by decide) (by rw [h3]; rfl) (by decide) ?_
        refine ax_lump ax_layC ok_kX2 [(64, .iconst 1, 1, 0, 0, 0)] (pc' := 65) (lc' := [(0, (0, 0, x0))]) (st' := [(0, 0, 1)]) (M' := M) (C' := True) (by decide +kernel) rfl trivial ?_
        exact ax_iret (by decide +kernel) rfl ⟨rfl, rfl, (show (0 : Int) ≤ 1 from by omega), (show 1 ≤ (5 : Int) from by omega)⟩
      · refine ax_ite (fun h4 => ?_) (fun h4 => ?_)
        · refine ax_swLk (dflt := 65) (off := 61) (ps := #[(99, 61), (104, 63), (108, 63), (109, 61), (113, 63), (119, 59)]) (len := 59) (tgt := 62) (by decide +kernel) (by decide) (by rw [h4]; rfl) (by decide) ?_
          refine ax_lump ax_layC ok_kX2 [(62, .iconst 2, 1, 0, 0, 0)] (pc' := 63) (lc' := [(0, (0, 0, x0))]) (st' := [(0, 0, 2)]) (M' := M) (C' := True) (by decide +kernel) rfl trivial ?_
          exact ax_iret (by decide +kernel) rfl ⟨rfl, rfl, (show (0 : Int) ≤ 2 from by omega), (show 2 ≤ (5 : Int) from by omega)⟩
        · refine ax_ite (fun h5 => ?_) (fun h5 => ?_)
          · refine ax_swLk (dflt := 65) (off := 63) (ps := #[(99, 61), (104, 63), (108, 63), (109, 61), (113, 63), (119, 59)]) (len := 59) (tgt := 64) (by decide +kernel) (by decide) (by rw [h5]; rfl) (by decide) ?_
            refine ax_lump ax_layC ok_kX2 [(64, .iconst 1, 1, 0, 0, 0)] (pc' := 65) (lc' := [(0, (0, 0, x0))]) (st' := [(0, 0, 1)]) (M' := M) (C' := True) (by decide +kernel) rfl trivial ?_
            exact ax_iret (by decide +kernel) rfl ⟨rfl, rfl, (show (0 : Int) ≤ 1 from by omega), (show 1 ≤ (5 : Int) from by omega)⟩
          · refine ax_ite (fun h6 => ?_) (fun h6 => ?_)
            · refine ax_swLk (dflt := 65) (off := 59) (ps := #[(99, 61), (104, 63), (108, 63), (109, 61), (113, 63), (119, 59)]) (len := 59) (tgt := 60) (by decide +kernel) (by decide) (by rw [h6]; rfl) (by decide) ?_
              refine ax_lump ax_layC ok_kX2 [(60, .iconst 5, 1, 0, 0, 0)] (pc' := 61) (lc' := [(0, (0, 0, x0))]) (st' := [(0, 0, 5)]) (M' := M) (C' := True) (by decide +kernel) rfl trivial ?_
              exact ax_iret (by decide +kernel) rfl ⟨rfl, rfl, (show (0 : Int) ≤ 5 from by omega), (show 5 ≤ (5 : Int) from by omega)⟩
            · refine ax_swLk (dflt := 65) (off := 65) (ps := #[(99, 61), (104, 63), (108, 63), (109, 61), (113, 63), (119, 59)]) (len := 59) (tgt := 66) (by decide +kernel) (by decide) (by simp [Op.lookupswitch.offset, Ne.symm h1, h1, Ne.symm h2, h2, Ne.symm h3, h3, Ne.symm h4, h4, Ne.symm h5, h5, Ne.symm h6, h6]) (by decide) ?_
              refine ax_lump ax_layC ok_kX2 [(66, .iconst 0, 1, 0, 0, 0)] (pc' := 67) (lc' := [(0, (0, 0, x0))]) (st' := [(0, 0, 0)]) (M' := M) (C' := True) (by decide +kernel) rfl trivial ?_
              exact ax_iret (by decide +kernel) rfl ⟨rfl, rfl, (show (0 : Int) ≤ 0 from by omega), (show 0 ≤ (5 : Int) from by omega)⟩
def f_X2_wrongInDay_B8 (w1 : Int) (M : ax_M) (i : Int) (v2 : Int) (v3 : Int) (kc : Int → Int → Int) (kx : Int → Int) : Int := (if 80 ≤ i then kx v3 else ax_bd (M 34 i.toNat) (fun y2 => (if v3 ≤ 0 then ax_bd ((f_X2_actSize y2 M) - 1) (fun y5 => (if 0 ≤ y5 then kc y2 y5 else i)) else (if v2 ≠ 99 then (if y2 < 48 then i else (if y2 ≤ 57 then kc v2 (v3 + (-1)) else i)) else (if y2 < 48 then i else (if y2 ≤ 49 then kc v2 (v3 + (-1)) else i))))))
def f_X2_wrongInDay_L8 (w1 : Int) (M : ax_M) : Nat → Int → Int → Int → (Int → Int) → Int
  | 0, i, v2, v3, kx => kx v3
  | n + 1, i, v2, v3, kx => f_X2_wrongInDay_B8 w1 M i v2 v3 (fun u2 u3 => f_X2_wrongInDay_L8 w1 M n (i + 1) u2 u3 kx) kx
set_option maxRecDepth 100000 in
set_option maxHeartbeats 4000000 in
theorem wb_X2_wrongInDay_B8 (d : Nat) (w1 : Int) (M : ax_M) (i : Int) (v2 : Int) (v3 : Int) (kc : Int → Int → Int) (kx : Int → Int)  (hi : 0 ≤ i ∧ i < w1) (hv3 : 0 ≤ v3 ∧ v3 ≤ 4) (hkc : ∀ (u2 : Int) (u3 : Int), 0 ≤ u3 ∧ u3 ≤ 4 → ax_W ax_LC gX2_wrongInDay (d + 1) 8 [(0, (2, 2, 0)), (1, (0, 0, w1)), (2, (0, 0, u2)), (3, (0, 0, u3)), (4, (0, 0, (i + 1)))] [] M ((ax_qi (-2147483648) 2147483647 M) (kc u2 u3))) (hkx : ∀ (x3 : Int), ((0 ≤ x3 ∧ x3 ≤ 4)) → ax_W ax_LC gX2_wrongInDay (d + 1) 95 [(1, (0, 0, w1)), (3, (0, 0, x3))] [] M ((ax_qi (-2147483648) 2147483647 M) (kx x3))) : ax_W ax_LC gX2_wrongInDay (d + 1) 14 [(0, (2, 2, 0)), (1, (0, 0, w1)), (2, (0, 0, v2)), (3, (0, 0, v3)), (4, (0, 0, i))] [] M ((ax_qi (-2147483648) 2147483647 M) (f_X2_wrongInDay_B8 w1 M i v2 v3 kc kx)) := by
  unfold f_X2_wrongInDay_B8
  refine ax_lump ax_layC ok_kX2 [(14, .iload 4, 2, 0, 0, 0), (16, .bipush 80, 2, 0, 0, 0)] (pc' := 18) (lc' := [(0, (2, 2, 0)), (1, (0, 0, w1)), (2, (0, 0, v2)), (3, (0, 0, v3)), (4, (0, 0, i))]) (st' := [(0, 0, 80), (0, 0, i)]) (M' := M) (C' := True) (by decide +kernel) rfl trivial ?_
  refine ax_jge (off := 77) (tgt := 95) (by decide +kernel) (by decide) (fun h1 => ?_) (fun h1 => ?_)
  · refine ax_pk [1,3] (lc' := [(1, (0, 0, w1)), (3, (0, 0, v3))]) rfl ?_
    exact hkx v3 (by omega)
  · refine ax_lump ax_layC ok_kX2 [(21, .aload_n 0, 1, 0, 0, 0), (22, .getfield 47, 3, 2, 9, 0), (25, .iload 4, 2, 0, 0, 0), (27, .caload, 1, 0, 0, 0), (28, .istore 5, 2, 0, 0, 0)] (pc' := 30) (lc' := [(5, (0, 0, (M 34 i.toNat))), (0, (2, 2, 0)), (1, (0, 0, w1)), (2, (0, 0, v2)), (3, (0, 0, v3)), (4, (0, 0, i))]) (st' := []) (M' := M) (C' := (True ∧ (0 ≤ i ∧ i < ((80 : Nat) : Int)))) (by decide +kernel) rfl ⟨trivial, by omega⟩ ?_
    refine ax_bdI0 (e := (M 34 i.toNat)) (fun y2 => [(5, (0, 0, y2)), (0, (2, 2, 0)), (1, (0, 0, w1)), (2, (0, 0, v2)), (3, (0, 0, v3)), (4, (0, 0, i))]) (fun y2 => []) (fun y2 => ?_)
    refine ax_lump ax_layC ok_kX2 [(30, .iload_n 3, 1, 0, 0, 0)] (pc' := 31) (lc' := [(5, (0, 0, y2)), (0, (2, 2, 0)), (1, (0, 0, w1)), (2, (0, 0, v2)), (3, (0, 0, v3)), (4, (0, 0, i))]) (st' := [(0, 0, v3)]) (M' := M) (C' := True) (by decide +kernel) rfl trivial ?_
    refine ax_zle (off := 41) (tgt := 72) (by decide +kernel) (by decide) (fun h3 => ?_) (fun h3 => ?_)
    · refine ax_lump ax_layC ok_kX2 [(72, .iload 5, 2, 0, 0, 0), (74, .istore_n 2, 1, 0, 0, 0), (75, .iload_n 2, 1, 0, 0, 0)] (pc' := 76) (lc' := [(2, (0, 0, y2)), (5, (0, 0, y2)), (0, (2, 2, 0)), (1, (0, 0, w1)), (3, (0, 0, v3)), (4, (0, 0, i))]) (st' := [(0, 0, y2)]) (M' := M) (C' := True) (by decide +kernel) rfl trivial ?_
      refine ax_cSi (G1 := gX2_actSize) (d1 := d + 0) (i := 216) (n := 1) (as := [(0, 0, y2)]) (st := []) (by decide +kernel) calX2_actSize (by omega) rfl wt_596 wt_597 (Nat.le_of_ble_eq_true rfl) rfl (c_X2_actSize d y2 M) (fun hc4 => ?_)
      refine ax_lump ax_layC ok_kX2 [(79, .iconst 1, 1, 0, 0, 0), (80, .isub, 1, 1, 0, 0), (81, .istore_n 3, 1, 0, 0, 0)] (pc' := 82) (lc' := [(3, (0, 0, ((f_X2_actSize y2 M) - 1))), (2, (0, 0, y2)), (5, (0, 0, y2)), (0, (2, 2, 0)), (1, (0, 0, w1)), (4, (0, 0, i))]) (st' := []) (M' := M) (C' := (True ∧ ax_r32 ((f_X2_actSize y2 M) - 1))) (by decide +kernel) rfl ⟨trivial, ⟨by omega, by omega⟩⟩ ?_
      refine ax_bdI (lo := (-1)) (hi := 4) (e := ((f_X2_actSize y2 M) - 1)) (fun y5 => [(3, (0, 0, y5)), (2, (0, 0, y2)), (5, (0, 0, y2)), (0, (2, 2, 0)), (1, (0, 0, w1)), (4, (0, 0, i))]) (fun y5 => []) (by omega) (fun y5 h_y5 => ?_)
      refine ax_lump ax_layC ok_kX2 [(82, .iload_n 3, 1, 0, 0, 0)] (pc' := 83) (lc' := [(3, (0, 0, y5)), (2, (0, 0, y2)), (5, (0, 0, y2)), (0, (2, 2, 0)), (1, (0, 0, w1)), (4, (0, 0, i))]) (st' := [(0, 0, y5)]) (M' := M) (C' := True) (by decide +kernel) rfl trivial ?_
      refine ax_zge (off := 6) (tgt := 89) (by decide +kernel) (by decide) (fun h6 => ?_) (fun h6 => ?_)
      · refine ax_lump ax_layC ok_kX2 [(89, .iinc 4 1, 3, 1, 0, 0), (92, .goto (-84), 3, 8, 0, 0)] (pc' := 8) (lc' := [(4, (0, 0, (i + 1))), (3, (0, 0, y5)), (2, (0, 0, y2)), (5, (0, 0, y2)), (0, (2, 2, 0)), (1, (0, 0, w1))]) (st' := []) (M' := M) (C' := (True ∧ ax_r32 (i + 1))) (by decide +kernel) rfl ⟨trivial, ⟨by omega, by omega⟩⟩ ?_
        refine ax_pk [4,5,2,1,0] (lc' := [(0, (2, 2, 0)), (1, (0, 0, w1)), (2, (0, 0, y2)), (3, (0, 0, y5)), (4, (0, 0, (i + 1)))]) rfl ?_
        exact hkc y2 y5 (by omega)
      · refine ax_lump ax_layC ok_kX2 [(86, .iload 4, 2, 0, 0, 0)] (pc' := 88) (lc' := [(3, (0, 0, y5)), (2, (0, 0, y2)), (5, (0, 0, y2)), (0, (2, 2, 0)), (1, (0, 0, w1)), (4, (0, 0, i))]) (st' := [(0, 0, i)]) (M' := M) (C' := True) (by decide +kernel) rfl trivial ?_
        refine ax_rngS (fun hr => ?_)
        exact ax_iret (by decide +kernel) rfl ⟨rfl, rfl, hr.1, hr.2⟩
    · refine ax_lump ax_layC ok_kX2 [(34, .iload_n 2, 1, 0, 0, 0), (35, .bipush 99, 2, 0, 0, 0)] (pc' := 37) (lc' := [(5, (0, 0, y2)), (0, (2, 2, 0)), (1, (0, 0, w1)), (2, (0, 0, v2)), (3, (0, 0, v3)), (4, (0, 0, i))]) (st' := [(0, 0, 99), (0, 0, v2)]) (M' := M) (C' := True) (by decide +kernel) rfl trivial ?_
      refine ax_jne (off := 8) (tgt := 45) (by decide +kernel) (by decide) (fun h7 => ?_) (fun h7 => ?_)
      · refine ax_lump ax_layC ok_kX2 [(45, .bipush 57, 2, 0, 0, 0), (47, .istore 6, 2, 0, 0, 0), (49, .iload 5, 2, 0, 0, 0), (51, .bipush 48, 2, 0, 0, 0)] (pc' := 53) (lc' := [(6, (0, 0, 57)), (5, (0, 0, y2)), (0, (2, 2, 0)), (1, (0, 0, w1)), (2, (0, 0, v2)), (3, (0, 0, v3)), (4, (0, 0, i))]) (st' := [(0, 0, 48), (0, 0, y2)]) (M' := M) (C' := True) (by decide +kernel) rfl trivial ?_
        refine ax_jlt (off := 10) (tgt := 63) (by decide +kernel) (by decide) (fun h8 => ?_) (fun h8 => ?_)
        · refine ax_lump ax_layC ok_kX2 [(63, .iload 4, 2, 0, 0, 0)] (pc' := 65) (lc' := [(6, (0, 0, 57)), (5, (0, 0, y2)), (0, (2, 2, 0)), (1, (0, 0, w1)), (2, (0, 0, v2)), (3, (0, 0, v3)), (4, (0, 0, i))]) (st' := [(0, 0, i)]) (M' := M) (C' := True) (by decide +kernel) rfl trivial ?_
          refine ax_rngS (fun hr => ?_)
          exact ax_iret (by decide +kernel) rfl ⟨rfl, rfl, hr.1, hr.2⟩
        · refine ax_lump ax_layC ok_kX2 [(56, .iload 5, 2, 0, 0, 0), (58, .iload 6, 2, 0, 0, 0)] (pc' := 60) (lc' := [(6, (0, 0, 57)), (5, (0, 0, y2)), (0, (2, 2, 0)), (1, (0, 0, w1)), (2, (0, 0, v2)), (3, (0, 0, v3)), (4, (0, 0, i))]) (st' := [(0, 0, 57), (0, 0, y2)]) (M' := M) (C' := True) (by decide +kernel) rfl trivial ?_
          refine ax_jle (off := 6) (tgt := 66) (by decide +kernel) (by decide) (fun h9 => ?_) (fun h9 => ?_)
          · refine ax_lump ax_layC ok_kX2 [(66, .iinc 3 (-1), 3, 1, 0, 0), (69, .goto 20, 3, 89, 0, 0), (89, .iinc 4 1, 3, 1, 0, 0), (92, .goto (-84), 3, 8, 0, 0)] (pc' := 8) (lc' := [(4, (0, 0, (i + 1))), (3, (0, 0, (v3 + (-1)))), (6, (0, 0, 57)), (5, (0, 0, y2)), (0, (2, 2, 0)), (1, (0, 0, w1)), (2, (0, 0, v2))]) (st' := []) (M' := M) (C' := ((True ∧ ax_r32 (v3 + (-1))) ∧ ax_r32 (i + 1))) (by decide +kernel) rfl ⟨⟨trivial, ⟨by omega, by omega⟩⟩, ⟨by omega, by omega⟩⟩ ?_
            refine ax_pk [4,5,6,1,0] (lc' := [(0, (2, 2, 0)), (1, (0, 0, w1)), (2, (0, 0, v2)), (3, (0, 0, (v3 + (-1)))), (4, (0, 0, (i + 1)))]) rfl ?_
            exact hkc v2 (v3 + (-1)) (by omega)
          · refine ax_lump ax_layC ok_kX2 [(63, .iload 4, 2, 0, 0, 0)] (pc' := 65) (lc' := [(6, (0, 0, 57)), (5, (0, 0, y2)), (0, (2, 2, 0)), (1, (0, 0, w1)), (2, (0, 0, v2)), (3, (0, 0, v3)), (4, (0, 0, i))]) (st' := [(0, 0, i)]) (M' := M) (C' := True) (by decide +kernel) rfl trivial ?_
            refine ax_rngS (fun hr => ?_)
            exact ax_iret (by decide +kernel) rfl ⟨rfl, rfl, hr.1, hr.2⟩
      · refine ax_lump ax_layC ok_kX2 [(40, .bipush 49, 2, 0, 0, 0), (42, .goto 5, 3, 47, 0, 0), (47, .istore 6, 2, 0, 0, 0), (49, .iload 5, 2, 0, 0, 0), (51, .bipush 48, 2, 0, 0, 0)] (pc' := 53) (lc' := [(6, (0, 0, 49)), (5, (0, 0, y2)), (0, (2, 2, 0)), (1, (0, 0, w1)), (2, (0, 0, v2)), (3, (0, 0, v3)), (4, (0, 0, i))]) (st' := [(0, 0, 48), (0, 0, y2)]) (M' := M) (C' := True) (by decide +kernel) rfl trivial ?_
        refine ax_jlt (off := 10) (tgt := 63) (by decide +kernel) (by decide) (fun h10 => ?_) (fun h10 => ?_)
        · refine ax_lump ax_layC ok_kX2 [(63, .iload 4, 2, 0, 0, 0)] (pc' := 65) (lc' := [(6, (0, 0, 49)), (5, (0, 0, y2)), (0, (2, 2, 0)), (1, (0, 0, w1)), (2, (0, 0, v2)), (3, (0, 0, v3)), (4, (0, 0, i))]) (st' := [(0, 0, i)]) (M' := M) (C' := True) (by decide +kernel) rfl trivial ?_
          refine ax_rngS (fun hr => ?_)
          exact ax_iret (by decide +kernel) rfl ⟨rfl, rfl, hr.1, hr.2⟩
        · refine ax_lump ax_layC ok_kX2 [(56, .iload 5, 2, 0, 0, 0), (58, .iload 6, 2, 0, 0, 0)] (pc' := 60) (lc' := [(6, (0, 0, 49)), (5, (0, 0, y2)), (0, (2, 2, 0)), (1, (0, 0, w1)), (2, (0, 0, v2)), (3, (0, 0, v3)), (4, (0, 0, i))]) (st' := [(0, 0, 49), (0, 0, y2)]) (M' := M) (C' := True) (by decide +kernel) rfl trivial ?_
          refine ax_jle (off := 6) (tgt := 66) (by decide +kernel) (by decide) (fun h11 => ?_) (fun h11 => ?_)
          · refine ax_lump ax_layC ok_kX2 [(66, .iinc 3 (-1), 3, 1, 0, 0), (69, .goto 20, 3, 89, 0, 0), (89, .iinc 4 1, 3, 1, 0, 0), (92, .goto (-84), 3, 8, 0, 0)] (pc' := 8) (lc' := [(4, (0, 0, (i + 1))), (3, (0, 0, (v3 + (-1)))), (6, (0, 0, 49)), (5, (0, 0, y2)), (0, (2, 2, 0)), (1, (0, 0, w1)), (2, (0, 0, v2))]) (st' := []) (M' := M) (C' := ((True ∧ ax_r32 (v3 + (-1))) ∧ ax_r32 (i + 1))) (by decide +kernel) rfl ⟨⟨trivial, ⟨by omega, by omega⟩⟩, ⟨by omega, by omega⟩⟩ ?_
            refine ax_pk [4,5,6,1,0] (lc' := [(0, (2, 2, 0)), (1, (0, 0, w1)), (2, (0, 0, v2)), (3, (0, 0, (v3 + (-1)))), (4, (0, 0, (i + 1)))]) rfl ?_
            exact hkc v2 (v3 + (-1)) (by omega)
          · refine ax_lump ax_layC ok_kX2 [(63, .iload 4, 2, 0, 0, 0)] (pc' := 65) (lc' := [(6, (0, 0, 49)), (5, (0, 0, y2)), (0, (2, 2, 0)), (1, (0, 0, w1)), (2, (0, 0, v2)), (3, (0, 0, v3)), (4, (0, 0, i))]) (st' := [(0, 0, i)]) (M' := M) (C' := True) (by decide +kernel) rfl trivial ?_
            refine ax_rngS (fun hr => ?_)
            exact ax_iret (by decide +kernel) rfl ⟨rfl, rfl, hr.1, hr.2⟩
set_option maxRecDepth 100000 in
set_option maxHeartbeats 4000000 in
theorem w_X2_wrongInDay_L8 (d : Nat) (w1 : Int) (M : ax_M) (kx : Int → Int)  (hkx : ∀ (x3 : Int), ((0 ≤ x3 ∧ x3 ≤ 4)) → ax_W ax_LC gX2_wrongInDay (d + 1) 95 [(1, (0, 0, w1)), (3, (0, 0, x3))] [] M ((ax_qi (-2147483648) 2147483647 M) (kx x3))) : ∀ (n : Nat) (i : Int) (v2 : Int) (v3 : Int), 0 ≤ i ∧ n = (w1 - i).toNat → 0 ≤ v3 ∧ v3 ≤ 4 → ax_W ax_LC gX2_wrongInDay (d + 1) 8 [(0, (2, 2, 0)), (1, (0, 0, w1)), (2, (0, 0, v2)), (3, (0, 0, v3)), (4, (0, 0, i))] [] M ((ax_qi (-2147483648) 2147483647 M) (f_X2_wrongInDay_L8 w1 M n i v2 v3 kx)) := by
  intro n
  induction n with
  | zero =>
    intro i v2 v3 hin hv3
    refine ax_lump ax_layC ok_kX2 [(8, .iload 4, 2, 0, 0, 0), (10, .iload_n 1, 1, 0, 0, 0)] (pc' := 11) (lc' := [(0, (2, 2, 0)), (1, (0, 0, w1)), (2, (0, 0, v2)), (3, (0, 0, v3)), (4, (0, 0, i))]) (st' := [(0, 0, w1), (0, 0, i)]) (M' := M) (C' := True) (by decide +kernel) rfl trivial ?_
    refine ax_icmp_ge (off := 84) (tgt := 95) (by decide +kernel) (by decide) (fun h => ?_) (fun h => ?_)
    · refine ax_pk [1,3] (lc' := [(1, (0, 0, w1)), (3, (0, 0, v3))]) rfl ?_
      exact hkx v3 (by omega)
    · exfalso; omega
  | succ n ih =>
    intro i v2 v3 hin hv3
    refine ax_lump ax_layC ok_kX2 [(8, .iload 4, 2, 0, 0, 0), (10, .iload_n 1, 1, 0, 0, 0)] (pc' := 11) (lc' := [(0, (2, 2, 0)), (1, (0, 0, w1)), (2, (0, 0, v2)), (3, (0, 0, v3)), (4, (0, 0, i))]) (st' := [(0, 0, w1), (0, 0, i)]) (M' := M) (C' := True) (by decide +kernel) rfl trivial ?_
    refine ax_icmp_ge (off := 84) (tgt := 95) (by decide +kernel) (by decide) (fun h => ?_) (fun h => ?_)
    · exfalso; omega
    · exact wb_X2_wrongInDay_B8 d w1 M i v2 v3 _ kx  (by omega) hv3 (fun u2 u3 hu3 => ih (i + 1) u2 u3 (by omega) hu3) hkx
def f_X2_wrongInDay (x1 : Int) (M : ax_M) : Int := f_X2_wrongInDay_L8 x1 M (x1 - 0).toNat 0 113 0 (fun z12 => (if z12 ≤ 0 then (-1) else x1))
set_option maxRecDepth 100000 in
set_option maxHeartbeats 4000000 in
theorem c_X2_wrongInDay (d : Nat) (x1 : Int) (M : ax_M)  : ax_Met ax_LC gX2_wrongInDay (d + 1) [(2, 2, 0), (0, 0, x1)] M ((ax_qi (-2147483648) 2147483647 M) (f_X2_wrongInDay x1 M)) := by
  refine ax_body (by decide) (fun X => Nat.le_of_ble_eq_true rfl) (fun hok => ?_)
  have hr_x1 : (-2147483648) ≤ x1 ∧ x1 ≤ 2147483647 := hok (0, 0, x1) (by simp)
  show ax_W ax_LC gX2_wrongInDay (d + 1) 0 [(0, (2, 2, 0)), (1, (0, 0, x1))] [] M _
  unfold f_X2_wrongInDay
  refine ax_lump ax_layC ok_kX2 [(0, .bipush 113, 2, 0, 0, 0), (2, .istore_n 2, 1, 0, 0, 0), (3, .iconst 0, 1, 0, 0, 0), (4, .istore_n 3, 1, 0, 0, 0), (5, .iconst 0, 1, 0, 0, 0), (6, .istore 4, 2, 0, 0, 0)] (pc' := 8) (lc' := [(4, (0, 0, 0)), (3, (0, 0, 0)), (2, (0, 0, 113)), (0, (2, 2, 0)), (1, (0, 0, x1))]) (st' := []) (M' := M) (C' := True) (by decide +kernel) rfl trivial ?_
  refine ax_pk [3,4,2,1,0] (lc' := [(0, (2, 2, 0)), (1, (0, 0, x1)), (2, (0, 0, 113)), (3, (0, 0, 0)), (4, (0, 0, 0))]) rfl ?_
  refine w_X2_wrongInDay_L8 d x1 M _  (fun z12 hx_12 => ?_) (x1 - 0).toNat 0 113 0 (by omega) (by omega)
  refine ax_lump ax_layC ok_kX2 [(95, .iload_n 3, 1, 0, 0, 0)] (pc' := 96) (lc' := [(1, (0, 0, x1)), (3, (0, 0, z12))]) (st' := [(0, 0, z12)]) (M' := M) (C' := True) (by decide +kernel) rfl trivial ?_
  refine ax_zle (off := 7) (tgt := 103) (by decide +kernel) (by decide) (fun h13 => ?_) (fun h13 => ?_)
  · refine ax_lump ax_layC ok_kX2 [(103, .iconst (-1), 1, 0, 0, 0)] (pc' := 104) (lc' := [(1, (0, 0, x1)), (3, (0, 0, z12))]) (st' := [(0, 0, (-1))]) (M' := M) (C' := True) (by decide +kernel) rfl trivial ?_
    refine ax_rngS (fun hr => ?_)
    exact ax_iret (by decide +kernel) rfl ⟨rfl, rfl, hr.1, hr.2⟩
  · refine ax_lump ax_layC ok_kX2 [(99, .iload_n 1, 1, 0, 0, 0), (100, .goto 4, 3, 104, 0, 0)] (pc' := 104) (lc' := [(1, (0, 0, x1)), (3, (0, 0, z12))]) (st' := [(0, 0, x1)]) (M' := M) (C' := True) (by decide +kernel) rfl trivial ?_
    refine ax_rngS (fun hr => ?_)
    exact ax_iret (by decide +kernel) rfl ⟨rfl, rfl, hr.1, hr.2⟩
def f_X2_digitAt (x1 : Int) (M : ax_M) : Int := (if x1 < 0 then 0 else (if 80 ≤ x1 then 0 else (ax_wr ((M 34 x1.toNat) - 48))))
set_option maxRecDepth 100000 in
set_option maxHeartbeats 4000000 in
theorem c_X2_digitAt (d : Nat) (x1 : Int) (M : ax_M)  : ax_Met ax_LC gX2_digitAt (d + 0) [(2, 2, 0), (0, 0, x1)] M ((ax_qi (-2147483648) 2147483647 M) (f_X2_digitAt x1 M)) := by
  refine ax_body (by decide) (fun X => Nat.le_of_ble_eq_true rfl) (fun hok => ?_)
  have hr_x1 : (-2147483648) ≤ x1 ∧ x1 ≤ 2147483647 := hok (0, 0, x1) (by simp)
  show ax_W ax_LC gX2_digitAt (d + 0) 0 [(0, (2, 2, 0)), (1, (0, 0, x1))] [] M _
  unfold f_X2_digitAt
  refine ax_lump ax_layC ok_kX2 [(0, .iload_n 1, 1, 0, 0, 0)] (pc' := 1) (lc' := [(0, (2, 2, 0)), (1, (0, 0, x1))]) (st' := [(0, 0, x1)]) (M' := M) (C' := True) (by decide +kernel) rfl trivial ?_
  refine ax_zlt (off := 21) (tgt := 22) (by decide +kernel) (by decide) (fun h1 => ?_) (fun h1 => ?_)
  · refine ax_lump ax_layC ok_kX2 [(22, .iconst 0, 1, 0, 0, 0)] (pc' := 23) (lc' := [(0, (2, 2, 0)), (1, (0, 0, x1))]) (st' := [(0, 0, 0)]) (M' := M) (C' := True) (by decide +kernel) rfl trivial ?_
    refine ax_rngS (fun hr => ?_)
    exact ax_iret (by decide +kernel) rfl ⟨rfl, rfl, hr.1, hr.2⟩
  · refine ax_lump ax_layC ok_kX2 [(4, .iload_n 1, 1, 0, 0, 0), (5, .bipush 80, 2, 0, 0, 0)] (pc' := 7) (lc' := [(0, (2, 2, 0)), (1, (0, 0, x1))]) (st' := [(0, 0, 80), (0, 0, x1)]) (M' := M) (C' := True) (by decide +kernel) rfl trivial ?_
    refine ax_jge (off := 15) (tgt := 22) (by decide +kernel) (by decide) (fun h2 => ?_) (fun h2 => ?_)
    · refine ax_lump ax_layC ok_kX2 [(22, .iconst 0, 1, 0, 0, 0)] (pc' := 23) (lc' := [(0, (2, 2, 0)), (1, (0, 0, x1))]) (st' := [(0, 0, 0)]) (M' := M) (C' := True) (by decide +kernel) rfl trivial ?_
      refine ax_rngS (fun hr => ?_)
      exact ax_iret (by decide +kernel) rfl ⟨rfl, rfl, hr.1, hr.2⟩
    · refine ax_lump ax_layC ok_kX2 [(10, .aload_n 0, 1, 0, 0, 0), (11, .getfield 47, 3, 2, 9, 0), (14, .iload_n 1, 1, 0, 0, 0), (15, .caload, 1, 0, 0, 0), (16, .bipush 48, 2, 0, 0, 0), (18, .isub, 1, 0, 0, 0), (19, .goto 4, 3, 23, 0, 0)] (pc' := 23) (lc' := [(0, (2, 2, 0)), (1, (0, 0, x1))]) (st' := [(0, 0, (ax_wr ((M 34 x1.toNat) - 48)))]) (M' := M) (C' := (True ∧ (0 ≤ x1 ∧ x1 < ((80 : Nat) : Int)))) (by decide +kernel) rfl ⟨trivial, by omega⟩ ?_
      refine ax_rngS (fun hr => ?_)
      exact ax_iret (by decide +kernel) rfl ⟨rfl, rfl, hr.1, hr.2⟩
def f_X2_draw (x1 : Int) (M : ax_M) : Int × ax_M := ax_bd (ax_up M 0 16 (ax_wr ((ax_wr ((M 0 16) * 1103515245)) + 12345))) (fun M1 => (if 1 ≤ x1 then ((ax_rem (ax_ushr (M1 0 16) 16) x1), M1) else (0, M1)))
set_option maxRecDepth 100000 in
set_option maxHeartbeats 4000000 in
theorem c_X2_draw (d : Nat) (x1 : Int) (M : ax_M)  : ax_Met ax_LC gX2_draw (d + 0) [(2, 2, 0), (0, 0, x1)] M ((ax_qm (-2147483648) 2147483647) (f_X2_draw x1 M)) := by
  refine ax_body (by decide) (fun X => Nat.le_of_ble_eq_true rfl) (fun hok => ?_)
  have hr_x1 : (-2147483648) ≤ x1 ∧ x1 ≤ 2147483647 := hok (0, 0, x1) (by simp)
  show ax_W ax_LC gX2_draw (d + 0) 0 [(0, (2, 2, 0)), (1, (0, 0, x1))] [] M _
  unfold f_X2_draw
  refine ax_lump ax_layC ok_kX2 [(0, .aload_n 0, 1, 0, 0, 0), (1, .aload_n 0, 1, 0, 0, 0), (2, .getfield 70, 3, 2, 16, 0), (5, .ldc_w 324, 3, 0, 0, 1103515245), (8, .imul, 1, 0, 0, 0), (9, .sipush 12345, 3, 0, 0, 0), (12, .iadd, 1, 0, 0, 0), (13, .putfield 70, 3, 2, 16, 0)] (pc' := 16) (lc' := [(0, (2, 2, 0)), (1, (0, 0, x1))]) (st' := []) (M' := (ax_up M 0 16 (ax_wr ((ax_wr ((M 0 16) * 1103515245)) + 12345)))) (C' := True) (by decide +kernel) rfl trivial ?_
  refine ax_bdMe (fun M1 hM_M1 => ?_)
  refine ax_lump ax_layC ok_kX2 [(16, .iload_n 1, 1, 0, 0, 0), (17, .iconst 1, 1, 0, 0, 0)] (pc' := 18) (lc' := [(0, (2, 2, 0)), (1, (0, 0, x1))]) (st' := [(0, 0, 1), (0, 0, x1)]) (M' := M1) (C' := True) (by decide +kernel) rfl trivial ?_
  refine ax_jge (off := 7) (tgt := 25) (by decide +kernel) (by decide) (fun h2 => ?_) (fun h2 => ?_)
  · refine ax_lump ax_layC ok_kX2 [(25, .aload_n 0, 1, 0, 0, 0), (26, .getfield 70, 3, 2, 16, 0), (29, .bipush 16, 2, 0, 0, 0), (31, .iushr, 1, 0, 0, 0), (32, .iload_n 1, 1, 0, 0, 0), (33, .irem, 1, 0, 0, 0)] (pc' := 34) (lc' := [(0, (2, 2, 0)), (1, (0, 0, x1))]) (st' := [(0, 0, (ax_rem (ax_ushr (M1 0 16) 16) x1))]) (M' := M1) (C' := (True ∧ x1 ≠ 0)) (by decide +kernel) rfl ⟨trivial, by omega⟩ ?_
    refine ax_rngS (fun hr => ?_)
    exact ax_iret (by decide +kernel) rfl ⟨rfl, rfl, hr.1, hr.2⟩
  · refine ax_lump ax_layC ok_kX2 [(21, .iconst 0, 1, 0, 0, 0), (22, .goto 12, 3, 34, 0, 0)] (pc' := 34) (lc' := [(0, (2, 2, 0)), (1, (0, 0, x1))]) (st' := [(0, 0, 0)]) (M' := M1) (C' := True) (by decide +kernel) rfl trivial ?_
    refine ax_rngS (fun hr => ?_)
    exact ax_iret (by decide +kernel) rfl ⟨rfl, rfl, hr.1, hr.2⟩
def f_X3_thrown  (M : ax_M) : Int := (M 0 0)
set_option maxRecDepth 100000 in
set_option maxHeartbeats 4000000 in
theorem c_X3_thrown (d : Nat)  (M : ax_M)  : ax_Met ax_LM gX3_thrown (d + 0) [(2, 3, 0)] M ((ax_qi 0 1 M) (f_X3_thrown  M)) := by
  refine ax_body (by decide) (fun X => Nat.le_of_ble_eq_true rfl) (fun hok => ?_)
  show ax_W ax_LM gX3_thrown (d + 0) 0 [(0, (2, 3, 0))] [] M _
  unfold f_X3_thrown
  refine ax_fact (i := 0) (c := 3) (f := 0) (hi := 1) (s := 0) (by simp) rfl rfl rfl (fun hf1 => ?_)
  have hf1 : 0 ≤ (M 0 0) ∧ (M 0 0) ≤ 1 := hf1
  refine ax_lump ax_layM ok_kX3 [(0, .aload_n 0, 1, 0, 0, 0), (1, .getfield 3, 3, 3, 0, 0)] (pc' := 4) (lc' := [(0, (2, 3, 0))]) (st' := [(0, 0, (M 0 0))]) (M' := M) (C' := True) (by decide +kernel) rfl trivial ?_
  exact ax_iret (by decide +kernel) rfl ⟨rfl, rfl, (show (0 : Int) ≤ (M 0 0) from by omega), (show (M 0 0) ≤ (1 : Int) from by omega)⟩
def f_X3_refuse  (M : ax_M) : Int × ax_M := ax_bd (ax_up M 0 0 1) (fun M1 => (0, M1))
set_option maxRecDepth 100000 in
set_option maxHeartbeats 4000000 in
theorem c_X3_refuse (d : Nat)  (M : ax_M)  : ax_Met ax_LM gX3_refuse (d + 0) [(2, 3, 0)] M ((ax_qm 0 0) (f_X3_refuse  M)) := by
  refine ax_body (by decide) (fun X => Nat.le_of_ble_eq_true rfl) (fun hok => ?_)
  show ax_W ax_LM gX3_refuse (d + 0) 0 [(0, (2, 3, 0))] [] M _
  unfold f_X3_refuse
  refine ax_lump ax_layM ok_kX3 [(0, .aload_n 0, 1, 0, 0, 0), (1, .iconst 1, 1, 0, 0, 0), (2, .putfield 3, 3, 3, 0, 0)] (pc' := 5) (lc' := [(0, (2, 3, 0))]) (st' := []) (M' := (ax_up M 0 0 1)) (C' := (True ∧ (0 ≤ 1 ∧ 1 < ((2 : Nat) : Int)))) (by decide +kernel) rfl ⟨trivial, by omega⟩ ?_
  refine ax_bdMe (fun M1 hM_M1 => ?_)
  refine ax_lump ax_layM ok_kX3 [(5, .iconst 0, 1, 0, 0, 0)] (pc' := 6) (lc' := [(0, (2, 3, 0))]) (st' := [(0, 0, 0)]) (M' := M1) (C' := True) (by decide +kernel) rfl trivial ?_
  exact ax_iret (by decide +kernel) rfl ⟨rfl, rfl, (show (0 : Int) ≤ 0 from by omega), (show 0 ≤ (0 : Int) from by omega)⟩
def f_X3_in (x0 : Int) (x2 : Int) (x4 : Int) (M : ax_M) : Int := (if (ax_lcmp x0 x2) < 0 then 0 else (if 0 < (ax_lcmp x0 x4) then 0 else 1))
set_option maxRecDepth 100000 in
set_option maxHeartbeats 4000000 in
theorem c_X3_in (d : Nat) (x0 : Int) (x2 : Int) (x4 : Int) (M : ax_M)  : ax_Met ax_LM gX3_in (d + 0) [(1, 0, x0), (1, 0, x2), (1, 0, x4)] M ((ax_qi 0 1 M) (f_X3_in x0 x2 x4 M)) := by
  refine ax_body (by decide) (fun X => Nat.le_of_ble_eq_true rfl) (fun hok => ?_)
  show ax_W ax_LM gX3_in (d + 0) 0 [(0, (1, 0, x0)), (2, (1, 0, x2)), (4, (1, 0, x4))] [] M _
  unfold f_X3_in
  refine ax_lump ax_layM ok_kX3 [(0, .lload_n 0, 1, 0, 0, 0), (1, .lload_n 2, 1, 0, 0, 0), (2, .lcmp, 1, 0, 0, 0)] (pc' := 3) (lc' := [(0, (1, 0, x0)), (2, (1, 0, x2)), (4, (1, 0, x4))]) (st' := [(0, 0, (ax_lcmp x0 x2))]) (M' := M) (C' := True) (by decide +kernel) rfl trivial ?_
  refine ax_zlt (off := 14) (tgt := 17) (by decide +kernel) (by decide) (fun h1 => ?_) (fun h1 => ?_)
  · refine ax_lump ax_layM ok_kX3 [(17, .iconst 0, 1, 0, 0, 0)] (pc' := 18) (lc' := [(0, (1, 0, x0)), (2, (1, 0, x2)), (4, (1, 0, x4))]) (st' := [(0, 0, 0)]) (M' := M) (C' := True) (by decide +kernel) rfl trivial ?_
    exact ax_zret (by decide +kernel) rfl (by omega) ⟨rfl, rfl, (show (0 : Int) ≤ 0 from by omega), (show 0 ≤ (1 : Int) from by omega)⟩
  · refine ax_lump ax_layM ok_kX3 [(6, .lload_n 0, 1, 0, 0, 0), (7, .lload 4, 2, 0, 0, 0), (9, .lcmp, 1, 0, 0, 0)] (pc' := 10) (lc' := [(0, (1, 0, x0)), (2, (1, 0, x2)), (4, (1, 0, x4))]) (st' := [(0, 0, (ax_lcmp x0 x4))]) (M' := M) (C' := True) (by decide +kernel) rfl trivial ?_
    refine ax_zgt (off := 7) (tgt := 17) (by decide +kernel) (by decide) (fun h2 => ?_) (fun h2 => ?_)
    · refine ax_lump ax_layM ok_kX3 [(17, .iconst 0, 1, 0, 0, 0)] (pc' := 18) (lc' := [(0, (1, 0, x0)), (2, (1, 0, x2)), (4, (1, 0, x4))]) (st' := [(0, 0, 0)]) (M' := M) (C' := True) (by decide +kernel) rfl trivial ?_
      exact ax_zret (by decide +kernel) rfl (by omega) ⟨rfl, rfl, (show (0 : Int) ≤ 0 from by omega), (show 0 ≤ (1 : Int) from by omega)⟩
    · refine ax_lump ax_layM ok_kX3 [(13, .iconst 1, 1, 0, 0, 0), (14, .goto 4, 3, 18, 0, 0)] (pc' := 18) (lc' := [(0, (1, 0, x0)), (2, (1, 0, x2)), (4, (1, 0, x4))]) (st' := [(0, 0, 1)]) (M' := M) (C' := True) (by decide +kernel) rfl trivial ?_
      exact ax_zret (by decide +kernel) rfl (by omega) ⟨rfl, rfl, (show (0 : Int) ≤ 1 from by omega), (show 1 ≤ (1 : Int) from by omega)⟩
theorem g_X3_in {v lo hi : Int} {M : ax_M} (h : ¬ f_X3_in v lo hi M = 0) : lo ≤ v ∧ v ≤ hi := by
  unfold f_X3_in ax_lcmp at h
  by_cases h1 : v < lo
  · simp [h1] at h
  · by_cases h2 : v ≤ hi
    · omega
    · have h3 : ¬ v < hi := by omega
      have h4 : ¬ v = hi := by omega
      by_cases h5 : v = lo <;> simp [h1, h3, h4, h5] at h <;> omega
def f_X3_has (x0 : Int) (x1 : Int) (M : ax_M) : Int := (if (ax_and (ax_shr x0 x1) 1) ≠ 1 then 0 else 1)
set_option maxRecDepth 100000 in
set_option maxHeartbeats 4000000 in
theorem c_X3_has (d : Nat) (x0 : Int) (x1 : Int) (M : ax_M)  : ax_Met ax_LM gX3_has (d + 0) [(0, 0, x0), (0, 0, x1)] M ((ax_qi 0 1 M) (f_X3_has x0 x1 M)) := by
  refine ax_body (by decide) (fun X => Nat.le_of_ble_eq_true rfl) (fun hok => ?_)
  have hr_x0 : (-2147483648) ≤ x0 ∧ x0 ≤ 2147483647 := hok (0, 0, x0) (by simp)
  have hr_x1 : (-2147483648) ≤ x1 ∧ x1 ≤ 2147483647 := hok (0, 0, x1) (by simp)
  show ax_W ax_LM gX3_has (d + 0) 0 [(0, (0, 0, x0)), (1, (0, 0, x1))] [] M _
  unfold f_X3_has
  refine ax_lump ax_layM ok_kX3 [(0, .iload_n 0, 1, 0, 0, 0), (1, .iload_n 1, 1, 0, 0, 0), (2, .ishr, 1, 0, 0, 0), (3, .iconst 1, 1, 0, 0, 0), (4, .iand, 1, 0, 0, 0), (5, .iconst 1, 1, 0, 0, 0)] (pc' := 6) (lc' := [(0, (0, 0, x0)), (1, (0, 0, x1))]) (st' := [(0, 0, 1), (0, 0, (ax_and (ax_shr x0 x1) 1))]) (M' := M) (C' := True) (by decide +kernel) rfl trivial ?_
  refine ax_jne (off := 7) (tgt := 13) (by decide +kernel) (by decide) (fun h1 => ?_) (fun h1 => ?_)
  · refine ax_lump ax_layM ok_kX3 [(13, .iconst 0, 1, 0, 0, 0)] (pc' := 14) (lc' := [(0, (0, 0, x0)), (1, (0, 0, x1))]) (st' := [(0, 0, 0)]) (M' := M) (C' := True) (by decide +kernel) rfl trivial ?_
    exact ax_zret (by decide +kernel) rfl (by omega) ⟨rfl, rfl, (show (0 : Int) ≤ 0 from by omega), (show 0 ≤ (1 : Int) from by omega)⟩
  · refine ax_lump ax_layM ok_kX3 [(9, .iconst 1, 1, 0, 0, 0), (10, .goto 4, 3, 14, 0, 0)] (pc' := 14) (lc' := [(0, (0, 0, x0)), (1, (0, 0, x1))]) (st' := [(0, 0, 1)]) (M' := M) (C' := True) (by decide +kernel) rfl trivial ?_
    exact ax_zret (by decide +kernel) rfl (by omega) ⟨rfl, rfl, (show (0 : Int) ≤ 1 from by omega), (show 1 ≤ (1 : Int) from by omega)⟩
def f_X3_flag (x0 : Int) (M : ax_M) : Int := (if x0 = 0 then 0 else 1)
set_option maxRecDepth 100000 in
set_option maxHeartbeats 4000000 in
theorem c_X3_flag (d : Nat) (x0 : Int) (M : ax_M) (hp0 : 0 ≤ x0 ∧ x0 ≤ 1) : ax_Met ax_LM gX3_flag (d + 0) [(0, 0, x0)] M ((ax_qi 0 1 M) (f_X3_flag x0 M)) := by
  refine ax_body (by decide) (fun X => Nat.le_of_ble_eq_true rfl) (fun hok => ?_)
  have hr_x0 : (-2147483648) ≤ x0 ∧ x0 ≤ 2147483647 := hok (0, 0, x0) (by simp)
  show ax_W ax_LM gX3_flag (d + 0) 0 [(0, (0, 0, x0))] [] M _
  unfold f_X3_flag
  refine ax_lump ax_layM ok_kX3 [(0, .iload_n 0, 1, 0, 0, 0)] (pc' := 1) (lc' := [(0, (0, 0, x0))]) (st' := [(0, 0, x0)]) (M' := M) (C' := True) (by decide +kernel) rfl trivial ?_
  refine ax_zeq (off := 7) (tgt := 8) (by decide +kernel) (by decide) (fun h1 => ?_) (fun h1 => ?_)
  · refine ax_lump ax_layM ok_kX3 [(8, .iconst 0, 1, 0, 0, 0)] (pc' := 9) (lc' := [(0, (0, 0, x0))]) (st' := [(0, 0, 0)]) (M' := M) (C' := True) (by decide +kernel) rfl trivial ?_
    exact ax_iret (by decide +kernel) rfl ⟨rfl, rfl, (show (0 : Int) ≤ 0 from by omega), (show 0 ≤ (1 : Int) from by omega)⟩
  · refine ax_lump ax_layM ok_kX3 [(4, .iconst 1, 1, 0, 0, 0), (5, .goto 4, 3, 9, 0, 0)] (pc' := 9) (lc' := [(0, (0, 0, x0))]) (st' := [(0, 0, 1)]) (M' := M) (C' := True) (by decide +kernel) rfl trivial ?_
    exact ax_iret (by decide +kernel) rfl ⟨rfl, rfl, (show (0 : Int) ≤ 1 from by omega), (show 1 ≤ (1 : Int) from by omega)⟩
def f_X3_enters (x1 : Int) (M : ax_M) : Prop × ax_M := ax_rq ((0 ≤ (M 0 1) ∧ (M 0 1) < ((24 : Nat) : Int))) (ax_bd (ax_up M 1 (M 0 1).toNat x1) (fun M3 => ax_rq ((0 ≤ ((M3 0 1) + 1) ∧ ((M3 0 1) + 1) < ((25 : Nat) : Int))) (ax_bd (ax_up M3 0 1 ((M3 0 1) + 1)) (fun M6 => (True, M6)))))
set_option maxRecDepth 100000 in
set_option maxHeartbeats 4000000 in
theorem c_X3_enters (d : Nat) (x1 : Int) (M : ax_M)  (hX : (f_X3_enters x1 M).1) : ax_Met ax_LM gX3_enters (d + 0) [(2, 3, 0), (1, 0, x1)] M (ax_qv (f_X3_enters x1 M).2) := by
  refine ax_body (by decide) (fun X => Nat.le_of_ble_eq_true rfl) (fun hok => ?_)
  show ax_W ax_LM gX3_enters (d + 0) 0 [(0, (2, 3, 0)), (1, (1, 0, x1))] [] M _
  unfold f_X3_enters at hX ⊢
  refine ax_rq_s hX (fun hS2 hX => ?_)
  refine ax_fact (i := 0) (c := 3) (f := 1) (hi := 24) (s := 0) (by simp) rfl rfl rfl (fun hf1 => ?_)
  have hf1 : 0 ≤ (M 0 1) ∧ (M 0 1) ≤ 24 := hf1
  refine ax_lump ax_layM ok_kX3 [(0, .aload_n 0, 1, 0, 0, 0), (1, .getfield 11, 3, 3, 2, 0), (4, .aload_n 0, 1, 0, 0, 0), (5, .getfield 15, 3, 3, 1, 0), (8, .lload_n 1, 1, 0, 0, 0), (9, .lastore, 1, 0, 0, 0)] (pc' := 10) (lc' := [(0, (2, 3, 0)), (1, (1, 0, x1))]) (st' := []) (M' := (ax_up M 1 (M 0 1).toNat x1)) (C' := (True ∧ (0 ≤ (M 0 1) ∧ (M 0 1) < ((24 : Nat) : Int)))) (by decide +kernel) rfl ⟨trivial, hS2⟩ ?_
  refine ax_bdMe_s hX (fun M3 hM_M3 hX => ?_)
  have hk_k4 : (M3 0 1) = (M 0 1) := by rw [hM_M3]; exact ax_up_o1 (by omega)
  refine ax_rq_s hX (fun hS5 hX => ?_)
  refine ax_lump ax_layM ok_kX3 [(10, .aload_n 0, 1, 0, 0, 0), (11, .dup, 1, 0, 0, 0), (12, .getfield 15, 3, 3, 1, 0), (15, .iconst 1, 1, 0, 0, 0), (16, .iadd, 1, 1, 0, 0), (17, .putfield 15, 3, 3, 1, 0)] (pc' := 20) (lc' := [(0, (2, 3, 0)), (1, (1, 0, x1))]) (st' := []) (M' := (ax_up M3 0 1 ((M3 0 1) + 1))) (C' := ((True ∧ ax_r32 ((M3 0 1) + 1)) ∧ (0 ≤ ((M3 0 1) + 1) ∧ ((M3 0 1) + 1) < ((25 : Nat) : Int)))) (by decide +kernel) rfl ⟨⟨trivial, ⟨by omega, by omega⟩⟩, hS5⟩ ?_
  refine ax_bdMe_s hX (fun M6 hM_M6 hX => ?_)
  have hk_k7 : (M6 0 1) = ((M3 0 1) + 1) := by rw [hM_M6]; exact ax_up_s
  exact ax_vret (by decide +kernel) rfl ⟨rfl, rfl⟩
def f_X3_sign_B18 (w1 : Int) (i : Nat)  (M : ax_M) (kc : ax_M → Prop × Int × ax_M) (kx : ax_M → Prop × Int × ax_M) : Prop × Int × ax_M := ax_rq ((0 ≤ ((M 0 4) + (i : Int)) ∧ ((M 0 4) + (i : Int)) < ((80 : Nat) : Int))) (ax_bd (ax_up M 2 ((M 0 4) + (i : Int)).toNat (ax_and (ax_shr w1 (24 - (8 * (i : Int)))) 255)) (fun M6 => kc M6))
def f_X3_sign_L18 (w1 : Int) : Nat → Nat → ax_M → (ax_M → Prop × Int × ax_M) → Prop × Int × ax_M
  | 0, i, M, kx => kx M
  | n + 1, i, M, kx => f_X3_sign_B18 w1 i  M (fun M9 => f_X3_sign_L18 w1 n (i + 1) M9 kx) kx
set_option maxRecDepth 100000 in
set_option maxHeartbeats 4000000 in
theorem wb_X3_sign_B18 (d : Nat) (w1 : Int) (i : Nat)  (M : ax_M) (kc : ax_M → Prop × Int × ax_M) (kx : ax_M → Prop × Int × ax_M)  (hi : 0 ≤ i ∧ i < 4)  (hkc : ∀ (M9 : ax_M), (kc M9).1 → ax_W ax_LM gX3_sign (d + 0) 18 [(0, (2, 3, 0)), (1, (0, 0, w1)), (2, (0, 0, ((i : Int) + 1)))] [] M9 ((ax_qm (-1) 80) (kc M9).2)) (hkx : ∀ (M9 : ax_M), (True) → (kx M9).1 → ax_W ax_LM gX3_sign (d + 0) 53 [(0, (2, 3, 0))] [] M9 ((ax_qm (-1) 80) (kx M9).2)) (hX : (f_X3_sign_B18 w1 i  M kc kx).1) : ax_W ax_LM gX3_sign (d + 0) 23 [(0, (2, 3, 0)), (1, (0, 0, w1)), (2, (0, 0, (i : Int)))] [] M ((ax_qm (-1) 80) (f_X3_sign_B18 w1 i  M kc kx).2) := by
  unfold f_X3_sign_B18 at hX ⊢
  refine ax_rq_s hX (fun hS5 hX => ?_)
  refine ax_fact (i := 0) (c := 3) (f := 4) (hi := 80) (s := 0) (by simp) rfl rfl rfl (fun hf4 => ?_)
  have hf4 : 0 ≤ (M 0 4) ∧ (M 0 4) ≤ 80 := hf4
  refine ax_lump ax_layM ok_kX3 [(23, .aload_n 0, 1, 0, 0, 0), (24, .getfield 21, 3, 3, 3, 0), (27, .aload_n 0, 1, 0, 0, 0), (28, .getfield 18, 3, 3, 4, 0), (31, .iload_n 2, 1, 0, 0, 0), (32, .iadd, 1, 1, 0, 0), (33, .iload_n 1, 1, 0, 0, 0), (34, .bipush 24, 2, 0, 0, 0), (36, .bipush 8, 2, 0, 0, 0), (38, .iload_n 2, 1, 0, 0, 0), (39, .imul, 1, 1, 0, 0), (40, .isub, 1, 1, 0, 0), (41, .ishr, 1, 0, 0, 0), (42, .sipush 255, 3, 0, 0, 0), (45, .iand, 1, 0, 0, 0), (46, .iastore, 1, 0, 0, 0)] (pc' := 47) (lc' := [(0, (2, 3, 0)), (1, (0, 0, w1)), (2, (0, 0, (i : Int)))]) (st' := []) (M' := (ax_up M 2 ((M 0 4) + (i : Int)).toNat (ax_and (ax_shr w1 (24 - (8 * (i : Int)))) 255))) (C' := ((((True ∧ ax_r32 ((M 0 4) + (i : Int))) ∧ ax_r32 (8 * (i : Int))) ∧ ax_r32 (24 - (8 * (i : Int)))) ∧ (0 ≤ ((M 0 4) + (i : Int)) ∧ ((M 0 4) + (i : Int)) < ((80 : Nat) : Int)))) (by decide +kernel) rfl ⟨⟨⟨⟨trivial, ⟨by omega, by omega⟩⟩, ⟨by omega, by omega⟩⟩, ⟨by omega, by omega⟩⟩, hS5⟩ ?_
  refine ax_bdMe_s hX (fun M6 hM_M6 hX => ?_)
  have hk_k7 : (M6 0 4) = (M 0 4) := by rw [hM_M6]; exact ax_up_o1 (by omega)
  refine ax_lump ax_layM ok_kX3 [(47, .iinc 2 1, 3, 1, 0, 0), (50, .goto (-32), 3, 18, 0, 0)] (pc' := 18) (lc' := [(2, (0, 0, ((i : Int) + 1))), (0, (2, 3, 0)), (1, (0, 0, w1))]) (st' := []) (M' := M6) (C' := (True ∧ ax_r32 ((i : Int) + 1))) (by decide +kernel) rfl ⟨trivial, ⟨by omega, by omega⟩⟩ ?_
  refine ax_pk [1,2,0] (lc' := [(0, (2, 3, 0)), (1, (0, 0, w1)), (2, (0, 0, ((i : Int) + 1)))]) rfl ?_
  exact hkc M6  hX
set_option maxRecDepth 100000 in
set_option maxHeartbeats 4000000 in
theorem w_X3_sign_L18 (d : Nat) (w1 : Int) (kx : ax_M → Prop × Int × ax_M)  (hkx : ∀ (M9 : ax_M), (True) → (kx M9).1 → ax_W ax_LM gX3_sign (d + 0) 53 [(0, (2, 3, 0))] [] M9 ((ax_qm (-1) 80) (kx M9).2)) : ∀ (n : Nat) (i : Nat) (M : ax_M), 0 ≤ i ∧ i + n = 4 → (f_X3_sign_L18 w1 n i  M kx).1 → ax_W ax_LM gX3_sign (d + 0) 18 [(0, (2, 3, 0)), (1, (0, 0, w1)), (2, (0, 0, (i : Int)))] [] M ((ax_qm (-1) 80) (f_X3_sign_L18 w1 n i  M kx).2) := by
  intro n
  induction n with
  | zero =>
    intro i M hin hX
    refine ax_lump ax_layM ok_kX3 [(18, .iload_n 2, 1, 0, 0, 0), (19, .iconst 4, 1, 0, 0, 0)] (pc' := 20) (lc' := [(0, (2, 3, 0)), (1, (0, 0, w1)), (2, (0, 0, (i : Int)))]) (st' := [(0, 0, 4), (0, 0, (i : Int))]) (M' := M) (C' := True) (by decide +kernel) rfl trivial ?_
    refine ax_icmp_ge (off := 33) (tgt := 53) (by decide +kernel) (by decide) (fun h => ?_) (fun h => ?_)
    · refine ax_pk [0] (lc' := [(0, (2, 3, 0))]) rfl ?_
      exact hkx M trivial hX
    · exfalso; omega
  | succ n ih =>
    intro i M hin hX
    refine ax_lump ax_layM ok_kX3 [(18, .iload_n 2, 1, 0, 0, 0), (19, .iconst 4, 1, 0, 0, 0)] (pc' := 20) (lc' := [(0, (2, 3, 0)), (1, (0, 0, w1)), (2, (0, 0, (i : Int)))]) (st' := [(0, 0, 4), (0, 0, (i : Int))]) (M' := M) (C' := True) (by decide +kernel) rfl trivial ?_
    refine ax_icmp_ge (off := 33) (tgt := 53) (by decide +kernel) (by decide) (fun h => ?_) (fun h => ?_)
    · exfalso; omega
    · exact wb_X3_sign_B18 d w1 i  M _ kx  (by omega)  (fun M9 hX => ih (i + 1)  M9 (by omega)  hX) hkx hX
def f_X3_sign (x1 : Int) (M : ax_M) : Prop × Int × ax_M := ax_bd (ax_up M 0 0 0) (fun M1 => (if (M1 0 4) ≤ 76 then f_X3_sign_L18 x1 4 0  M1 (fun M8 => ax_rq ((0 ≤ ((M8 0 4) + 4) ∧ ((M8 0 4) + 4) < ((81 : Nat) : Int))) (ax_bd (ax_up M8 0 4 ((M8 0 4) + 4)) (fun M11 => (True, ((M11 0 4), M11))))) else (True, ((-1), M1))))
set_option maxRecDepth 100000 in
set_option maxHeartbeats 4000000 in
theorem c_X3_sign (d : Nat) (x1 : Int) (M : ax_M)  (hX : (f_X3_sign x1 M).1) : ax_Met ax_LM gX3_sign (d + 0) [(2, 3, 0), (0, 0, x1)] M ((ax_qm (-1) 80) (f_X3_sign x1 M).2) := by
  refine ax_body (by decide) (fun X => Nat.le_of_ble_eq_true rfl) (fun hok => ?_)
  have hr_x1 : (-2147483648) ≤ x1 ∧ x1 ≤ 2147483647 := hok (0, 0, x1) (by simp)
  show ax_W ax_LM gX3_sign (d + 0) 0 [(0, (2, 3, 0)), (1, (0, 0, x1))] [] M _
  unfold f_X3_sign at hX ⊢
  refine ax_lump ax_layM ok_kX3 [(0, .aload_n 0, 1, 0, 0, 0), (1, .iconst 0, 1, 0, 0, 0), (2, .putfield 3, 3, 3, 0, 0)] (pc' := 5) (lc' := [(0, (2, 3, 0)), (1, (0, 0, x1))]) (st' := []) (M' := (ax_up M 0 0 0)) (C' := (True ∧ (0 ≤ 0 ∧ 0 < ((2 : Nat) : Int)))) (by decide +kernel) rfl ⟨trivial, by omega⟩ ?_
  refine ax_bdMe_s hX (fun M1 hM_M1 hX => ?_)
  refine ax_fact (i := 0) (c := 3) (f := 4) (hi := 80) (s := 0) (by simp) rfl rfl rfl (fun hf2 => ?_)
  have hf2 : 0 ≤ (M1 0 4) ∧ (M1 0 4) ≤ 80 := hf2
  refine ax_lump ax_layM ok_kX3 [(5, .aload_n 0, 1, 0, 0, 0), (6, .getfield 18, 3, 3, 4, 0), (9, .bipush 76, 2, 0, 0, 0)] (pc' := 11) (lc' := [(0, (2, 3, 0)), (1, (0, 0, x1))]) (st' := [(0, 0, 76), (0, 0, (M1 0 4))]) (M' := M1) (C' := True) (by decide +kernel) rfl trivial ?_
  refine ax_jle_s hX (off := 5) (tgt := 16) (by decide +kernel) (by decide) (fun h3 hX => ?_) (fun h3 hX => ?_)
  · refine ax_lump ax_layM ok_kX3 [(16, .iconst 0, 1, 0, 0, 0), (17, .istore_n 2, 1, 0, 0, 0)] (pc' := 18) (lc' := [(2, (0, 0, 0)), (0, (2, 3, 0)), (1, (0, 0, x1))]) (st' := []) (M' := M1) (C' := True) (by decide +kernel) rfl trivial ?_
    refine ax_pk [1,2,0] (lc' := [(0, (2, 3, 0)), (1, (0, 0, x1)), (2, (0, 0, 0))]) rfl ?_
    refine w_X3_sign_L18 d x1 _  (fun M8 hx_8 hX => ?_) 4 0  M1 (by omega)  hX
    refine ax_rq_s hX (fun hS10 hX => ?_)
    refine ax_fact (i := 0) (c := 3) (f := 4) (hi := 80) (s := 0) (by simp) rfl rfl rfl (fun hf9 => ?_)
    have hf9 : 0 ≤ (M8 0 4) ∧ (M8 0 4) ≤ 80 := hf9
    refine ax_lump ax_layM ok_kX3 [(53, .aload_n 0, 1, 0, 0, 0), (54, .dup, 1, 0, 0, 0), (55, .getfield 18, 3, 3, 4, 0), (58, .iconst 4, 1, 0, 0, 0), (59, .iadd, 1, 1, 0, 0), (60, .putfield 18, 3, 3, 4, 0)] (pc' := 63) (lc' := [(0, (2, 3, 0))]) (st' := []) (M' := (ax_up M8 0 4 ((M8 0 4) + 4))) (C' := ((True ∧ ax_r32 ((M8 0 4) + 4)) ∧ (0 ≤ ((M8 0 4) + 4) ∧ ((M8 0 4) + 4) < ((81 : Nat) : Int)))) (by decide +kernel) rfl ⟨⟨trivial, ⟨by omega, by omega⟩⟩, hS10⟩ ?_
    refine ax_bdMe_s hX (fun M11 hM_M11 hX => ?_)
    have hk_k12 : (M11 0 4) = ((M8 0 4) + 4) := by rw [hM_M11]; exact ax_up_s
    refine ax_lump ax_layM ok_kX3 [(63, .aload_n 0, 1, 0, 0, 0), (64, .getfield 18, 3, 3, 4, 0)] (pc' := 67) (lc' := [(0, (2, 3, 0))]) (st' := [(0, 0, (M11 0 4))]) (M' := M11) (C' := True) (by decide +kernel) rfl trivial ?_
    exact ax_iret (by decide +kernel) rfl ⟨rfl, rfl, (show ((-1) : Int) ≤ (M11 0 4) from by omega), (show (M11 0 4) ≤ (80 : Int) from by omega)⟩
  · refine ax_lump ax_layM ok_kX3 [(14, .iconst (-1), 1, 0, 0, 0)] (pc' := 15) (lc' := [(0, (2, 3, 0)), (1, (0, 0, x1))]) (st' := [(0, 0, (-1))]) (M' := M1) (C' := True) (by decide +kernel) rfl trivial ?_
    exact ax_iret (by decide +kernel) rfl ⟨rfl, rfl, (show ((-1) : Int) ≤ (-1) from by omega), (show (-1) ≤ (80 : Int) from by omega)⟩
def f_X3_end (x1 : Int) (M : ax_M) : Int × ax_M := ax_bd (ax_up M 0 0 0) (fun M1 => (if (f_X3_in x1 0 (M1 0 4) M1) ≠ 0 then ax_bd (ax_up M1 0 4 x1) (fun M5 => (1, M5)) else (0, M1)))
set_option maxRecDepth 100000 in
set_option maxHeartbeats 4000000 in
theorem c_X3_end (d : Nat) (x1 : Int) (M : ax_M)  : ax_Met ax_LM gX3_end (d + 1) [(2, 3, 0), (0, 0, x1)] M ((ax_qm 0 1) (f_X3_end x1 M)) := by
  refine ax_body (by decide) (fun X => Nat.le_of_ble_eq_true rfl) (fun hok => ?_)
  have hr_x1 : (-2147483648) ≤ x1 ∧ x1 ≤ 2147483647 := hok (0, 0, x1) (by simp)
  show ax_W ax_LM gX3_end (d + 1) 0 [(0, (2, 3, 0)), (1, (0, 0, x1))] [] M _
  unfold f_X3_end
  refine ax_lump ax_layM ok_kX3 [(0, .aload_n 0, 1, 0, 0, 0), (1, .iconst 0, 1, 0, 0, 0), (2, .putfield 3, 3, 3, 0, 0)] (pc' := 5) (lc' := [(0, (2, 3, 0)), (1, (0, 0, x1))]) (st' := []) (M' := (ax_up M 0 0 0)) (C' := (True ∧ (0 ≤ 0 ∧ 0 < ((2 : Nat) : Int)))) (by decide +kernel) rfl ⟨trivial, by omega⟩ ?_
  refine ax_bdMe (fun M1 hM_M1 => ?_)
  refine ax_fact (i := 0) (c := 3) (f := 4) (hi := 80) (s := 0) (by simp) rfl rfl rfl (fun hf2 => ?_)
  have hf2 : 0 ≤ (M1 0 4) ∧ (M1 0 4) ≤ 80 := hf2
  refine ax_lump ax_layM ok_kX3 [(5, .iload_n 1, 1, 0, 0, 0), (6, .i2l, 1, 0, 0, 0), (7, .lconst 0, 1, 0, 0, 0), (8, .aload_n 0, 1, 0, 0, 0), (9, .getfield 18, 3, 3, 4, 0), (12, .i2l, 1, 0, 0, 0)] (pc' := 13) (lc' := [(0, (2, 3, 0)), (1, (0, 0, x1))]) (st' := [(1, 0, (M1 0 4)), (1, 0, 0), (1, 0, x1)]) (M' := M1) (C' := True) (by decide +kernel) rfl trivial ?_
  refine ax_cSi (G1 := gX3_in) (d1 := d + 0) (i := 25) (n := 3) (as := [(1, 0, x1), (1, 0, 0), (1, 0, (M1 0 4))]) (st := []) (by decide +kernel) calX3_in (by omega) rfl wt_875 wt_876 (Nat.le_of_ble_eq_true rfl) rfl (c_X3_in d x1 0 (M1 0 4) M1) (fun hc3 => ?_)
  refine ax_zne (off := 5) (tgt := 21) (by decide +kernel) (by decide) (fun h4 => ?_) (fun h4 => ?_)
  · have hgh4 := g_X3_in h4
    refine ax_lump ax_layM ok_kX3 [(21, .aload_n 0, 1, 0, 0, 0), (22, .iload_n 1, 1, 0, 0, 0), (23, .putfield 18, 3, 3, 4, 0)] (pc' := 26) (lc' := [(0, (2, 3, 0)), (1, (0, 0, x1))]) (st' := []) (M' := (ax_up M1 0 4 x1)) (C' := (True ∧ (0 ≤ x1 ∧ x1 < ((81 : Nat) : Int)))) (by decide +kernel) rfl ⟨trivial, by omega⟩ ?_
    refine ax_bdMe (fun M5 hM_M5 => ?_)
    have hk_k6 : (M5 0 4) = x1 := by rw [hM_M5]; exact ax_up_s
    refine ax_lump ax_layM ok_kX3 [(26, .iconst 1, 1, 0, 0, 0)] (pc' := 27) (lc' := [(0, (2, 3, 0)), (1, (0, 0, x1))]) (st' := [(0, 0, 1)]) (M' := M5) (C' := True) (by decide +kernel) rfl trivial ?_
    exact ax_zret (by decide +kernel) rfl (by omega) ⟨rfl, rfl, (show (0 : Int) ≤ 1 from by omega), (show 1 ≤ (1 : Int) from by omega)⟩
  · refine ax_lump ax_layM ok_kX3 [(19, .iconst 0, 1, 0, 0, 0)] (pc' := 20) (lc' := [(0, (2, 3, 0)), (1, (0, 0, x1))]) (st' := [(0, 0, 0)]) (M' := M1) (C' := True) (by decide +kernel) rfl trivial ?_
    exact ax_zret (by decide +kernel) rfl (by omega) ⟨rfl, rfl, (show (0 : Int) ≤ 0 from by omega), (show 0 ≤ (1 : Int) from by omega)⟩
def f_X3_begins (x1 : Int) (M : ax_M) : Int × ax_M := ax_bd (M 0 4) (fun y2 => ax_bd (ax_up M 0 4 0) (fun M3 => ax_bd (ax_up M3 0 5 0) (fun M5 => ax_bd (ax_up M5 0 7 0) (fun M7 => ax_bd (ax_up M7 0 6 (if x1 < y2 then x1 else y2)) (fun M9 => (y2, M9))))))
set_option maxRecDepth 100000 in
set_option maxHeartbeats 4000000 in
theorem c_X3_begins (d : Nat) (x1 : Int) (M : ax_M) (hp0 : 0 ≤ x1 ∧ x1 ≤ 80) : ax_Met ax_LM gX3_begins (d + 1) [(2, 3, 0), (0, 0, x1)] M ((ax_qm 0 80) (f_X3_begins x1 M)) := by
  refine ax_body (by decide) (fun X => Nat.le_of_ble_eq_true rfl) (fun hok => ?_)
  have hr_x1 : (-2147483648) ≤ x1 ∧ x1 ≤ 2147483647 := hok (0, 0, x1) (by simp)
  show ax_W ax_LM gX3_begins (d + 1) 0 [(0, (2, 3, 0)), (1, (0, 0, x1))] [] M _
  unfold f_X3_begins
  refine ax_fact (i := 0) (c := 3) (f := 4) (hi := 80) (s := 0) (by simp) rfl rfl rfl (fun hf1 => ?_)
  have hf1 : 0 ≤ (M 0 4) ∧ (M 0 4) ≤ 80 := hf1
  refine ax_lump ax_layM ok_kX3 [(0, .aload_n 0, 1, 0, 0, 0), (1, .getfield 18, 3, 3, 4, 0), (4, .istore_n 2, 1, 0, 0, 0)] (pc' := 5) (lc' := [(2, (0, 0, (M 0 4))), (0, (2, 3, 0)), (1, (0, 0, x1))]) (st' := []) (M' := M) (C' := True) (by decide +kernel) rfl trivial ?_
  refine ax_bdI (lo := 0) (hi := 80) (e := (M 0 4)) (fun y2 => [(2, (0, 0, y2)), (0, (2, 3, 0)), (1, (0, 0, x1))]) (fun y2 => []) (by omega) (fun y2 h_y2 => ?_)
  refine ax_lump ax_layM ok_kX3 [(5, .aload_n 0, 1, 0, 0, 0), (6, .iconst 0, 1, 0, 0, 0), (7, .putfield 18, 3, 3, 4, 0)] (pc' := 10) (lc' := [(2, (0, 0, y2)), (0, (2, 3, 0)), (1, (0, 0, x1))]) (st' := []) (M' := (ax_up M 0 4 0)) (C' := (True ∧ (0 ≤ 0 ∧ 0 < ((81 : Nat) : Int)))) (by decide +kernel) rfl ⟨trivial, by omega⟩ ?_
  refine ax_bdMe (fun M3 hM_M3 => ?_)
  have hk_k4 : (M3 0 4) = 0 := by rw [hM_M3]; exact ax_up_s
  refine ax_lump ax_layM ok_kX3 [(10, .aload_n 0, 1, 0, 0, 0), (11, .iconst 0, 1, 0, 0, 0), (12, .putfield 29, 3, 3, 5, 0)] (pc' := 15) (lc' := [(2, (0, 0, y2)), (0, (2, 3, 0)), (1, (0, 0, x1))]) (st' := []) (M' := (ax_up M3 0 5 0)) (C' := (True ∧ (0 ≤ 0 ∧ 0 < ((81 : Nat) : Int)))) (by decide +kernel) rfl ⟨trivial, by omega⟩ ?_
  refine ax_bdMe (fun M5 hM_M5 => ?_)
  have hk_k6 : (M5 0 4) = (M3 0 4) := by rw [hM_M5]; exact ax_up_o2 (by decide)
  refine ax_lump ax_layM ok_kX3 [(15, .aload_n 0, 1, 0, 0, 0), (16, .iconst 0, 1, 0, 0, 0), (17, .putfield 32, 3, 3, 7, 0)] (pc' := 20) (lc' := [(2, (0, 0, y2)), (0, (2, 3, 0)), (1, (0, 0, x1))]) (st' := []) (M' := (ax_up M5 0 7 0)) (C' := (True ∧ (0 ≤ 0 ∧ 0 < ((5 : Nat) : Int)))) (by decide +kernel) rfl ⟨trivial, by omega⟩ ?_
  refine ax_bdMe (fun M7 hM_M7 => ?_)
  have hk_k8 : (M7 0 4) = (M5 0 4) := by rw [hM_M7]; exact ax_up_o2 (by decide)
  refine ax_lump ax_layM ok_kX3 [(20, .aload_n 0, 1, 0, 0, 0), (21, .iload_n 2, 1, 0, 0, 0), (22, .iload_n 1, 1, 0, 0, 0)] (pc' := 23) (lc' := [(2, (0, 0, y2)), (0, (2, 3, 0)), (1, (0, 0, x1))]) (st' := [(0, 0, x1), (0, 0, y2), (2, 3, 0)]) (M' := M7) (C' := True) (by decide +kernel) rfl trivial ?_
  refine ax_mmin (i := 35) (by decide +kernel) (by omega) (Nat.le_of_ble_eq_true rfl) wt_891 wt_266 wt_8 wt_267 ?_
  refine ax_lump ax_layM ok_kX3 [(26, .putfield 41, 3, 3, 6, 0)] (pc' := 29) (lc' := [(2, (0, 0, y2)), (0, (2, 3, 0)), (1, (0, 0, x1))]) (st' := []) (M' := (ax_up M7 0 6 (if x1 < y2 then x1 else y2))) (C' := (True ∧ (0 ≤ (if x1 < y2 then x1 else y2) ∧ (if x1 < y2 then x1 else y2) < ((81 : Nat) : Int)))) (by decide +kernel) rfl ⟨trivial, by omega⟩ ?_
  refine ax_bdMe (fun M9 hM_M9 => ?_)
  have hk_k10 : (M9 0 4) = (M7 0 4) := by rw [hM_M9]; exact ax_up_o2 (by decide)
  refine ax_lump ax_layM ok_kX3 [(29, .iload_n 2, 1, 0, 0, 0)] (pc' := 30) (lc' := [(2, (0, 0, y2)), (0, (2, 3, 0)), (1, (0, 0, x1))]) (st' := [(0, 0, y2)]) (M' := M9) (C' := True) (by decide +kernel) rfl trivial ?_
  exact ax_iret (by decide +kernel) rfl ⟨rfl, rfl, (show (0 : Int) ≤ y2 from by omega), (show y2 ≤ (80 : Int) from by omega)⟩
def f_X3_takes (x1 : Int) (M : ax_M) : Prop × Int × ax_M := (if (M 0 6) ≤ (M 0 5) then ax_rq ((0 ≤ ((M 0 5) + (f_X3_flag 0 M)) ∧ ((M 0 5) + (f_X3_flag 0 M)) < ((81 : Nat) : Int))) (ax_bd (ax_up M 0 5 ((M 0 5) + (f_X3_flag 0 M))) (fun M6 => (True, (0, M6)))) else (if (M 2 (M 0 5).toNat) ≠ x1 then ax_bd (ax_up M 0 5 ((M 0 5) + (f_X3_flag 0 M))) (fun M11 => (True, (0, M11))) else ax_bd (ax_up M 0 5 ((M 0 5) + (f_X3_flag 1 M))) (fun M15 => (True, (1, M15)))))
set_option maxRecDepth 100000 in
set_option maxHeartbeats 4000000 in
theorem c_X3_takes (d : Nat) (x1 : Int) (M : ax_M)  (hX : (f_X3_takes x1 M).1) : ax_Met ax_LM gX3_takes (d + 1) [(2, 3, 0), (0, 0, x1)] M ((ax_qm 0 1) (f_X3_takes x1 M).2) := by
  refine ax_body (by decide) (fun X => Nat.le_of_ble_eq_true rfl) (fun hok => ?_)
  have hr_x1 : (-2147483648) ≤ x1 ∧ x1 ≤ 2147483647 := hok (0, 0, x1) (by simp)
  show ax_W ax_LM gX3_takes (d + 1) 0 [(0, (2, 3, 0)), (1, (0, 0, x1))] [] M _
  unfold f_X3_takes at hX ⊢
  refine ax_fact (i := 0) (c := 3) (f := 5) (hi := 80) (s := 0) (by simp) rfl rfl rfl (fun hf1 => ?_)
  have hf1 : 0 ≤ (M 0 5) ∧ (M 0 5) ≤ 80 := hf1
  refine ax_fact (i := 0) (c := 3) (f := 6) (hi := 80) (s := 0) (by simp) rfl rfl rfl (fun hf2 => ?_)
  have hf2 : 0 ≤ (M 0 6) ∧ (M 0 6) ≤ 80 := hf2
  refine ax_lump ax_layM ok_kX3 [(0, .aload_n 0, 1, 0, 0, 0), (1, .getfield 29, 3, 3, 5, 0), (4, .aload_n 0, 1, 0, 0, 0), (5, .getfield 41, 3, 3, 6, 0)] (pc' := 8) (lc' := [(0, (2, 3, 0)), (1, (0, 0, x1))]) (st' := [(0, 0, (M 0 6)), (0, 0, (M 0 5))]) (M' := M) (C' := True) (by decide +kernel) rfl trivial ?_
  refine ax_jge_s hX (off := 20) (tgt := 28) (by decide +kernel) (by decide) (fun h3 hX => ?_) (fun h3 hX => ?_)
  · refine ax_lump ax_layM ok_kX3 [(28, .iconst 0, 1, 0, 0, 0), (29, .istore_n 2, 1, 0, 0, 0), (30, .aload_n 0, 1, 0, 0, 0), (31, .dup, 1, 0, 0, 0), (32, .getfield 29, 3, 3, 5, 0), (35, .iload_n 2, 1, 0, 0, 0)] (pc' := 36) (lc' := [(2, (0, 0, 0)), (0, (2, 3, 0)), (1, (0, 0, x1))]) (st' := [(0, 0, 0), (0, 0, (M 0 5)), (2, 3, 0)]) (M' := M) (C' := True) (by decide +kernel) rfl trivial ?_
    refine ax_cSi (G1 := gX3_flag) (d1 := d + 0) (i := 44) (n := 1) (as := [(0, 0, 0)]) (st := [(0, 0, (M 0 5)), (2, 3, 0)]) (by decide +kernel) calX3_flag (by omega) rfl wt_904 wt_905 (Nat.le_of_ble_eq_true rfl) rfl (c_X3_flag d 0 M (by omega)) (fun hc4 => ?_)
    refine ax_rq_s hX (fun hS5 hX => ?_)
    refine ax_lump ax_layM ok_kX3 [(39, .iadd, 1, 1, 0, 0), (40, .putfield 29, 3, 3, 5, 0)] (pc' := 43) (lc' := [(2, (0, 0, 0)), (0, (2, 3, 0)), (1, (0, 0, x1))]) (st' := []) (M' := (ax_up M 0 5 ((M 0 5) + (f_X3_flag 0 M)))) (C' := ((True ∧ ax_r32 ((M 0 5) + (f_X3_flag 0 M))) ∧ (0 ≤ ((M 0 5) + (f_X3_flag 0 M)) ∧ ((M 0 5) + (f_X3_flag 0 M)) < ((81 : Nat) : Int)))) (by decide +kernel) rfl ⟨⟨trivial, ⟨by omega, by omega⟩⟩, hS5⟩ ?_
    refine ax_bdMe_s hX (fun M6 hM_M6 hX => ?_)
    have hk_k7 : (M6 0 5) = ((M 0 5) + (f_X3_flag 0 M)) := by rw [hM_M6]; exact ax_up_s
    have hk_k8 : (M6 0 6) = (M 0 6) := by rw [hM_M6]; exact ax_up_o2 (by decide)
    refine ax_lump ax_layM ok_kX3 [(43, .iload_n 2, 1, 0, 0, 0)] (pc' := 44) (lc' := [(2, (0, 0, 0)), (0, (2, 3, 0)), (1, (0, 0, x1))]) (st' := [(0, 0, 0)]) (M' := M6) (C' := True) (by decide +kernel) rfl trivial ?_
    exact ax_zret (by decide +kernel) rfl (by omega) ⟨rfl, rfl, (show (0 : Int) ≤ 0 from by omega), (show 0 ≤ (1 : Int) from by omega)⟩
  · refine ax_lump ax_layM ok_kX3 [(11, .aload_n 0, 1, 0, 0, 0), (12, .getfield 21, 3, 3, 3, 0), (15, .aload_n 0, 1, 0, 0, 0), (16, .getfield 29, 3, 3, 5, 0), (19, .iaload, 1, 0, 0, 0), (20, .iload_n 1, 1, 0, 0, 0)] (pc' := 21) (lc' := [(0, (2, 3, 0)), (1, (0, 0, x1))]) (st' := [(0, 0, x1), (0, 0, (M 2 (M 0 5).toNat))]) (M' := M) (C' := (True ∧ (0 ≤ (M 0 5) ∧ (M 0 5) < ((80 : Nat) : Int)))) (by decide +kernel) rfl ⟨trivial, by omega⟩ ?_
    refine ax_jne_s hX (off := 7) (tgt := 28) (by decide +kernel) (by decide) (fun h9 hX => ?_) (fun h9 hX => ?_)
    · refine ax_lump ax_layM ok_kX3 [(28, .iconst 0, 1, 0, 0, 0), (29, .istore_n 2, 1, 0, 0, 0), (30, .aload_n 0, 1, 0, 0, 0), (31, .dup, 1, 0, 0, 0), (32, .getfield 29, 3, 3, 5, 0), (35, .iload_n 2, 1, 0, 0, 0)] (pc' := 36) (lc' := [(2, (0, 0, 0)), (0, (2, 3, 0)), (1, (0, 0, x1))]) (st' := [(0, 0, 0), (0, 0, (M 0 5)), (2, 3, 0)]) (M' := M) (C' := True) (by decide +kernel) rfl trivial ?_
      refine ax_cSi (G1 := gX3_flag) (d1 := d + 0) (i := 44) (n := 1) (as := [(0, 0, 0)]) (st := [(0, 0, (M 0 5)), (2, 3, 0)]) (by decide +kernel) calX3_flag (by omega) rfl wt_904 wt_905 (Nat.le_of_ble_eq_true rfl) rfl (c_X3_flag d 0 M (by omega)) (fun hc10 => ?_)
      refine ax_lump ax_layM ok_kX3 [(39, .iadd, 1, 1, 0, 0), (40, .putfield 29, 3, 3, 5, 0)] (pc' := 43) (lc' := [(2, (0, 0, 0)), (0, (2, 3, 0)), (1, (0, 0, x1))]) (st' := []) (M' := (ax_up M 0 5 ((M 0 5) + (f_X3_flag 0 M)))) (C' := ((True ∧ ax_r32 ((M 0 5) + (f_X3_flag 0 M))) ∧ (0 ≤ ((M 0 5) + (f_X3_flag 0 M)) ∧ ((M 0 5) + (f_X3_flag 0 M)) < ((81 : Nat) : Int)))) (by decide +kernel) rfl ⟨⟨trivial, ⟨by omega, by omega⟩⟩, by omega⟩ ?_
      refine ax_bdMe_s hX (fun M11 hM_M11 hX => ?_)
      have hk_k12 : (M11 0 5) = ((M 0 5) + (f_X3_flag 0 M)) := by rw [hM_M11]; exact ax_up_s
      have hk_k13 : (M11 0 6) = (M 0 6) := by rw [hM_M11]; exact ax_up_o2 (by decide)
      refine ax_lump ax_layM ok_kX3 [(43, .iload_n 2, 1, 0, 0, 0)] (pc' := 44) (lc' := [(2, (0, 0, 0)), (0, (2, 3, 0)), (1, (0, 0, x1))]) (st' := [(0, 0, 0)]) (M' := M11) (C' := True) (by decide +kernel) rfl trivial ?_
      exact ax_zret (by decide +kernel) rfl (by omega) ⟨rfl, rfl, (show (0 : Int) ≤ 0 from by omega), (show 0 ≤ (1 : Int) from by omega)⟩
    · refine ax_lump ax_layM ok_kX3 [(24, .iconst 1, 1, 0, 0, 0), (25, .goto 4, 3, 29, 0, 0), (29, .istore_n 2, 1, 0, 0, 0), (30, .aload_n 0, 1, 0, 0, 0), (31, .dup, 1, 0, 0, 0), (32, .getfield 29, 3, 3, 5, 0), (35, .iload_n 2, 1, 0, 0, 0)] (pc' := 36) (lc' := [(2, (0, 0, 1)), (0, (2, 3, 0)), (1, (0, 0, x1))]) (st' := [(0, 0, 1), (0, 0, (M 0 5)), (2, 3, 0)]) (M' := M) (C' := True) (by decide +kernel) rfl trivial ?_
      refine ax_cSi (G1 := gX3_flag) (d1 := d + 0) (i := 44) (n := 1) (as := [(0, 0, 1)]) (st := [(0, 0, (M 0 5)), (2, 3, 0)]) (by decide +kernel) calX3_flag (by omega) rfl wt_904 wt_905 (Nat.le_of_ble_eq_true rfl) rfl (c_X3_flag d 1 M (by omega)) (fun hc14 => ?_)
      refine ax_lump ax_layM ok_kX3 [(39, .iadd, 1, 1, 0, 0), (40, .putfield 29, 3, 3, 5, 0)] (pc' := 43) (lc' := [(2, (0, 0, 1)), (0, (2, 3, 0)), (1, (0, 0, x1))]) (st' := []) (M' := (ax_up M 0 5 ((M 0 5) + (f_X3_flag 1 M)))) (C' := ((True ∧ ax_r32 ((M 0 5) + (f_X3_flag 1 M))) ∧ (0 ≤ ((M 0 5) + (f_X3_flag 1 M)) ∧ ((M 0 5) + (f_X3_flag 1 M)) < ((81 : Nat) : Int)))) (by decide +kernel) rfl ⟨⟨trivial, ⟨by omega, by omega⟩⟩, by omega⟩ ?_
      refine ax_bdMe_s hX (fun M15 hM_M15 hX => ?_)
      have hk_k16 : (M15 0 5) = ((M 0 5) + (f_X3_flag 1 M)) := by rw [hM_M15]; exact ax_up_s
      have hk_k17 : (M15 0 6) = (M 0 6) := by rw [hM_M15]; exact ax_up_o2 (by decide)
      refine ax_lump ax_layM ok_kX3 [(43, .iload_n 2, 1, 0, 0, 0)] (pc' := 44) (lc' := [(2, (0, 0, 1)), (0, (2, 3, 0)), (1, (0, 0, x1))]) (st' := [(0, 0, 1)]) (M' := M15) (C' := True) (by decide +kernel) rfl trivial ?_
      exact ax_zret (by decide +kernel) rfl (by omega) ⟨rfl, rfl, (show (0 : Int) ≤ 1 from by omega), (show 1 ≤ (1 : Int) from by omega)⟩
def f_X3_isDigit  (M : ax_M) : Int := (if (M 0 6) ≤ (M 0 5) then 0 else (if (f_X3_in (M 2 (M 0 5).toNat) 48 57 M) = 0 then 0 else 1))
set_option maxRecDepth 100000 in
set_option maxHeartbeats 4000000 in
theorem c_X3_isDigit (d : Nat)  (M : ax_M)  : ax_Met ax_LM gX3_isDigit (d + 1) [(2, 3, 0)] M ((ax_qi 0 1 M) (f_X3_isDigit  M)) := by
  refine ax_body (by decide) (fun X => Nat.le_of_ble_eq_true rfl) (fun hok => ?_)
  show ax_W ax_LM gX3_isDigit (d + 1) 0 [(0, (2, 3, 0))] [] M _
  unfold f_X3_isDigit
  refine ax_fact (i := 0) (c := 3) (f := 5) (hi := 80) (s := 0) (by simp) rfl rfl rfl (fun hf1 => ?_)
  have hf1 : 0 ≤ (M 0 5) ∧ (M 0 5) ≤ 80 := hf1
  refine ax_fact (i := 0) (c := 3) (f := 6) (hi := 80) (s := 0) (by simp) rfl rfl rfl (fun hf2 => ?_)
  have hf2 : 0 ≤ (M 0 6) ∧ (M 0 6) ≤ 80 := hf2
  refine ax_lump ax_layM ok_kX3 [(0, .aload_n 0, 1, 0, 0, 0), (1, .getfield 29, 3, 3, 5, 0), (4, .aload_n 0, 1, 0, 0, 0), (5, .getfield 41, 3, 3, 6, 0)] (pc' := 8) (lc' := [(0, (2, 3, 0))]) (st' := [(0, 0, (M 0 6)), (0, 0, (M 0 5))]) (M' := M) (C' := True) (by decide +kernel) rfl trivial ?_
  refine ax_jge (off := 29) (tgt := 37) (by decide +kernel) (by decide) (fun h3 => ?_) (fun h3 => ?_)
  · refine ax_lump ax_layM ok_kX3 [(37, .iconst 0, 1, 0, 0, 0)] (pc' := 38) (lc' := [(0, (2, 3, 0))]) (st' := [(0, 0, 0)]) (M' := M) (C' := True) (by decide +kernel) rfl trivial ?_
    exact ax_zret (by decide +kernel) rfl (by omega) ⟨rfl, rfl, (show (0 : Int) ≤ 0 from by omega), (show 0 ≤ (1 : Int) from by omega)⟩
  · refine ax_lump ax_layM ok_kX3 [(11, .aload_n 0, 1, 0, 0, 0), (12, .getfield 21, 3, 3, 3, 0), (15, .aload_n 0, 1, 0, 0, 0), (16, .getfield 29, 3, 3, 5, 0), (19, .iaload, 1, 0, 0, 0), (20, .i2l, 1, 0, 0, 0), (21, .ldc2_w 48, 3, 0, 0, 48), (24, .ldc2_w 50, 3, 0, 0, 57)] (pc' := 27) (lc' := [(0, (2, 3, 0))]) (st' := [(1, 0, 57), (1, 0, 48), (1, 0, (M 2 (M 0 5).toNat))]) (M' := M) (C' := (True ∧ (0 ≤ (M 0 5) ∧ (M 0 5) < ((80 : Nat) : Int)))) (by decide +kernel) rfl ⟨trivial, by omega⟩ ?_
    refine ax_cSi (G1 := gX3_in) (d1 := d + 0) (i := 25) (n := 3) (as := [(1, 0, (M 2 (M 0 5).toNat)), (1, 0, 48), (1, 0, 57)]) (st := []) (by decide +kernel) calX3_in (by omega) rfl wt_875 wt_876 (Nat.le_of_ble_eq_true rfl) rfl (c_X3_in d (M 2 (M 0 5).toNat) 48 57 M) (fun hc4 => ?_)
    refine ax_zeq (off := 7) (tgt := 37) (by decide +kernel) (by decide) (fun h5 => ?_) (fun h5 => ?_)
    · refine ax_lump ax_layM ok_kX3 [(37, .iconst 0, 1, 0, 0, 0)] (pc' := 38) (lc' := [(0, (2, 3, 0))]) (st' := [(0, 0, 0)]) (M' := M) (C' := True) (by decide +kernel) rfl trivial ?_
      exact ax_zret (by decide +kernel) rfl (by omega) ⟨rfl, rfl, (show (0 : Int) ≤ 0 from by omega), (show 0 ≤ (1 : Int) from by omega)⟩
    · have hgh5 := g_X3_in h5
      refine ax_lump ax_layM ok_kX3 [(33, .iconst 1, 1, 0, 0, 0), (34, .goto 4, 3, 38, 0, 0)] (pc' := 38) (lc' := [(0, (2, 3, 0))]) (st' := [(0, 0, 1)]) (M' := M) (C' := True) (by decide +kernel) rfl trivial ?_
      exact ax_zret (by decide +kernel) rfl (by omega) ⟨rfl, rfl, (show (0 : Int) ≤ 1 from by omega), (show 1 ≤ (1 : Int) from by omega)⟩
def f_X3_number_B13 (w1 : Int) (i : Int) (v2 : Int) (M : ax_M) (kc : Int → ax_M → Prop × Int × ax_M) (kx : Int → ax_M → Prop × Int × ax_M) : Prop × Int × ax_M := (if (f_X3_isDigit M) = 0 then kx v2 M else ax_rq ((0 ≤ (M 0 5) ∧ (M 0 5) < ((80 : Nat) : Int))) (ax_bd (ax_wr ((ax_wr ((ax_wr (10 * v2)) + (M 2 (M 0 5).toNat))) - 48)) (fun y7 => ax_rq ((0 ≤ ((M 0 5) + 1) ∧ ((M 0 5) + 1) < ((81 : Nat) : Int))) (ax_bd (ax_up M 0 5 ((M 0 5) + 1)) (fun M9 => kc y7 M9)))))
def f_X3_number_L13 (w1 : Int) : Nat → Int → Int → ax_M → (Int → ax_M → Prop × Int × ax_M) → Prop × Int × ax_M
  | 0, i, v2, M, kx => kx v2 M
  | n + 1, i, v2, M, kx => f_X3_number_B13 w1 i v2 M (fun u2 M9 => f_X3_number_L13 w1 n (i + 1) u2 M9 kx) kx
set_option maxRecDepth 100000 in
set_option maxHeartbeats 4000000 in
theorem wb_X3_number_B13 (d : Nat) (w1 : Int) (i : Int) (v2 : Int) (M : ax_M) (kc : Int → ax_M → Prop × Int × ax_M) (kx : Int → ax_M → Prop × Int × ax_M) (hw_w1 : 0 ≤ w1 ∧ w1 ≤ 3) (hi : 0 ≤ i ∧ i < w1)  (hkc : ∀ (u2 : Int) (M9 : ax_M), (kc u2 M9).1 → ax_W ax_LM gX3_number (d + 2) 13 [(0, (2, 3, 0)), (1, (0, 0, w1)), (2, (0, 0, u2)), (3, (0, 0, (i + 1)))] [] M9 ((ax_qm (-2147483648) 2147483647) (kc u2 M9).2)) (hkx : ∀ (x2 : Int) (M9 : ax_M), (True) → (kx x2 M9).1 → ax_W ax_LM gX3_number (d + 2) 59 [(2, (0, 0, x2))] [] M9 ((ax_qm (-2147483648) 2147483647) (kx x2 M9).2)) (hX : (f_X3_number_B13 w1 i v2 M kc kx).1) : ax_W ax_LM gX3_number (d + 2) 18 [(0, (2, 3, 0)), (1, (0, 0, w1)), (2, (0, 0, v2)), (3, (0, 0, i))] [] M ((ax_qm (-2147483648) 2147483647) (f_X3_number_B13 w1 i v2 M kc kx).2) := by
  unfold f_X3_number_B13 at hX ⊢
  refine ax_lump ax_layM ok_kX3 [(18, .aload_n 0, 1, 0, 0, 0)] (pc' := 19) (lc' := [(0, (2, 3, 0)), (1, (0, 0, w1)), (2, (0, 0, v2)), (3, (0, 0, i))]) (st' := [(2, 3, 0)]) (M' := M) (C' := True) (by decide +kernel) rfl trivial ?_
  refine ax_cVi (G1 := gX3_isDigit) (d1 := d + 1) (i := 62) (n := 0) (as := []) (st := []) (c := 3) (a := 0) (by decide +kernel) ax_cls3 calX3_isDigit (by omega) rfl wt_911 wt_913 ws_75 (Nat.le_of_ble_eq_true rfl) rfl (c_X3_isDigit d  M) (fun hc3 => ?_)
  refine ax_zeq_s hX (off := 37) (tgt := 59) (by decide +kernel) (by decide) (fun h4 hX => ?_) (fun h4 hX => ?_)
  · refine ax_pk [2] (lc' := [(2, (0, 0, v2))]) rfl ?_
    exact hkx v2 M trivial hX
  · refine ax_rq_s hX (fun hS6 hX => ?_)
    refine ax_fact (i := 0) (c := 3) (f := 5) (hi := 80) (s := 0) (by simp) rfl rfl rfl (fun hf5 => ?_)
    have hf5 : 0 ≤ (M 0 5) ∧ (M 0 5) ≤ 80 := hf5
    refine ax_lump ax_layM ok_kX3 [(25, .bipush 10, 2, 0, 0, 0), (27, .iload_n 2, 1, 0, 0, 0), (28, .imul, 1, 0, 0, 0), (29, .aload_n 0, 1, 0, 0, 0), (30, .getfield 21, 3, 3, 3, 0), (33, .aload_n 0, 1, 0, 0, 0), (34, .getfield 29, 3, 3, 5, 0), (37, .iaload, 1, 0, 0, 0), (38, .iadd, 1, 0, 0, 0), (39, .bipush 48, 2, 0, 0, 0), (41, .isub, 1, 0, 0, 0), (42, .istore_n 2, 1, 0, 0, 0)] (pc' := 43) (lc' := [(2, (0, 0, (ax_wr ((ax_wr ((ax_wr (10 * v2)) + (M 2 (M 0 5).toNat))) - 48)))), (0, (2, 3, 0)), (1, (0, 0, w1)), (3, (0, 0, i))]) (st' := []) (M' := M) (C' := (True ∧ (0 ≤ (M 0 5) ∧ (M 0 5) < ((80 : Nat) : Int)))) (by decide +kernel) rfl ⟨trivial, hS6⟩ ?_
    refine ax_bdI0_s hX (e := (ax_wr ((ax_wr ((ax_wr (10 * v2)) + (M 2 (M 0 5).toNat))) - 48))) (fun y7 => [(2, (0, 0, y7)), (0, (2, 3, 0)), (1, (0, 0, w1)), (3, (0, 0, i))]) (fun y7 => []) (fun y7 hX => ?_)
    refine ax_rq_s hX (fun hS8 hX => ?_)
    refine ax_lump ax_layM ok_kX3 [(43, .aload_n 0, 1, 0, 0, 0), (44, .dup, 1, 0, 0, 0), (45, .getfield 29, 3, 3, 5, 0), (48, .iconst 1, 1, 0, 0, 0), (49, .iadd, 1, 1, 0, 0), (50, .putfield 29, 3, 3, 5, 0)] (pc' := 53) (lc' := [(2, (0, 0, y7)), (0, (2, 3, 0)), (1, (0, 0, w1)), (3, (0, 0, i))]) (st' := []) (M' := (ax_up M 0 5 ((M 0 5) + 1))) (C' := ((True ∧ ax_r32 ((M 0 5) + 1)) ∧ (0 ≤ ((M 0 5) + 1) ∧ ((M 0 5) + 1) < ((81 : Nat) : Int)))) (by decide +kernel) rfl ⟨⟨trivial, ⟨by omega, by omega⟩⟩, hS8⟩ ?_
    refine ax_bdMe_s hX (fun M9 hM_M9 hX => ?_)
    have hk_k10 : (M9 0 5) = ((M 0 5) + 1) := by rw [hM_M9]; exact ax_up_s
    refine ax_lump ax_layM ok_kX3 [(53, .iinc 3 1, 3, 1, 0, 0), (56, .goto (-43), 3, 13, 0, 0)] (pc' := 13) (lc' := [(3, (0, 0, (i + 1))), (2, (0, 0, y7)), (0, (2, 3, 0)), (1, (0, 0, w1))]) (st' := []) (M' := M9) (C' := (True ∧ ax_r32 (i + 1))) (by decide +kernel) rfl ⟨trivial, ⟨by omega, by omega⟩⟩ ?_
    refine ax_pk [2,3,1,0] (lc' := [(0, (2, 3, 0)), (1, (0, 0, w1)), (2, (0, 0, y7)), (3, (0, 0, (i + 1)))]) rfl ?_
    exact hkc y7 M9  hX
set_option maxRecDepth 100000 in
set_option maxHeartbeats 4000000 in
theorem w_X3_number_L13 (d : Nat) (w1 : Int) (kx : Int → ax_M → Prop × Int × ax_M) (hw_w1 : 0 ≤ w1 ∧ w1 ≤ 3) (hkx : ∀ (x2 : Int) (M9 : ax_M), (True) → (kx x2 M9).1 → ax_W ax_LM gX3_number (d + 2) 59 [(2, (0, 0, x2))] [] M9 ((ax_qm (-2147483648) 2147483647) (kx x2 M9).2)) : ∀ (n : Nat) (i : Int) (v2 : Int) (M : ax_M), 0 ≤ i ∧ n = (w1 - i).toNat → (f_X3_number_L13 w1 n i v2 M kx).1 → ax_W ax_LM gX3_number (d + 2) 13 [(0, (2, 3, 0)), (1, (0, 0, w1)), (2, (0, 0, v2)), (3, (0, 0, i))] [] M ((ax_qm (-2147483648) 2147483647) (f_X3_number_L13 w1 n i v2 M kx).2) := by
  intro n
  induction n with
  | zero =>
    intro i v2 M hin hX
    refine ax_lump ax_layM ok_kX3 [(13, .iload_n 3, 1, 0, 0, 0), (14, .iload_n 1, 1, 0, 0, 0)] (pc' := 15) (lc' := [(0, (2, 3, 0)), (1, (0, 0, w1)), (2, (0, 0, v2)), (3, (0, 0, i))]) (st' := [(0, 0, w1), (0, 0, i)]) (M' := M) (C' := True) (by decide +kernel) rfl trivial ?_
    refine ax_icmp_ge (off := 44) (tgt := 59) (by decide +kernel) (by decide) (fun h => ?_) (fun h => ?_)
    · refine ax_pk [2] (lc' := [(2, (0, 0, v2))]) rfl ?_
      exact hkx v2 M trivial hX
    · exfalso; omega
  | succ n ih =>
    intro i v2 M hin hX
    refine ax_lump ax_layM ok_kX3 [(13, .iload_n 3, 1, 0, 0, 0), (14, .iload_n 1, 1, 0, 0, 0)] (pc' := 15) (lc' := [(0, (2, 3, 0)), (1, (0, 0, w1)), (2, (0, 0, v2)), (3, (0, 0, i))]) (st' := [(0, 0, w1), (0, 0, i)]) (M' := M) (C' := True) (by decide +kernel) rfl trivial ?_
    refine ax_icmp_ge (off := 44) (tgt := 59) (by decide +kernel) (by decide) (fun h => ?_) (fun h => ?_)
    · exfalso; omega
    · exact wb_X3_number_B13 d w1 i v2 M _ kx hw_w1 (by omega)  (fun u2 M9 hX => ih (i + 1) u2 M9 (by omega)  hX) hkx hX
def f_X3_number (x1 : Int) (M : ax_M) : Prop × Int × ax_M := (if (f_X3_isDigit M) ≠ 0 then f_X3_number_L13 x1 (x1 - 0).toNat 0 0 M (fun z11 M12 => (True, (z11, M12))) else (True, ((-1), M)))
set_option maxRecDepth 100000 in
set_option maxHeartbeats 4000000 in
theorem c_X3_number (d : Nat) (x1 : Int) (M : ax_M) (hp0 : 0 ≤ x1 ∧ x1 ≤ 3) (hX : (f_X3_number x1 M).1) : ax_Met ax_LM gX3_number (d + 2) [(2, 3, 0), (0, 0, x1)] M ((ax_qm (-2147483648) 2147483647) (f_X3_number x1 M).2) := by
  refine ax_body (by decide) (fun X => Nat.le_of_ble_eq_true rfl) (fun hok => ?_)
  have hr_x1 : (-2147483648) ≤ x1 ∧ x1 ≤ 2147483647 := hok (0, 0, x1) (by simp)
  show ax_W ax_LM gX3_number (d + 2) 0 [(0, (2, 3, 0)), (1, (0, 0, x1))] [] M _
  unfold f_X3_number at hX ⊢
  refine ax_lump ax_layM ok_kX3 [(0, .aload_n 0, 1, 0, 0, 0)] (pc' := 1) (lc' := [(0, (2, 3, 0)), (1, (0, 0, x1))]) (st' := [(2, 3, 0)]) (M' := M) (C' := True) (by decide +kernel) rfl trivial ?_
  refine ax_cVi (G1 := gX3_isDigit) (d1 := d + 1) (i := 62) (n := 0) (as := []) (st := []) (c := 3) (a := 0) (by decide +kernel) ax_cls3 calX3_isDigit (by omega) rfl wt_911 wt_913 ws_75 (Nat.le_of_ble_eq_true rfl) rfl (c_X3_isDigit d  M) (fun hc1 => ?_)
  refine ax_zne_s hX (off := 5) (tgt := 9) (by decide +kernel) (by decide) (fun h2 hX => ?_) (fun h2 hX => ?_)
  · refine ax_lump ax_layM ok_kX3 [(9, .iconst 0, 1, 0, 0, 0), (10, .istore_n 2, 1, 0, 0, 0), (11, .iconst 0, 1, 0, 0, 0), (12, .istore_n 3, 1, 0, 0, 0)] (pc' := 13) (lc' := [(3, (0, 0, 0)), (2, (0, 0, 0)), (0, (2, 3, 0)), (1, (0, 0, x1))]) (st' := []) (M' := M) (C' := True) (by decide +kernel) rfl trivial ?_
    refine ax_pk [2,3,1,0] (lc' := [(0, (2, 3, 0)), (1, (0, 0, x1)), (2, (0, 0, 0)), (3, (0, 0, 0))]) rfl ?_
    refine w_X3_number_L13 d x1 _ (by omega) (fun z11 M12 hx_12 hX => ?_) (x1 - 0).toNat 0 0 M (by omega)  hX
    refine ax_lump ax_layM ok_kX3 [(59, .iload_n 2, 1, 0, 0, 0)] (pc' := 60) (lc' := [(2, (0, 0, z11))]) (st' := [(0, 0, z11)]) (M' := M12) (C' := True) (by decide +kernel) rfl trivial ?_
    refine ax_rngS (fun hr => ?_)
    exact ax_iret (by decide +kernel) rfl ⟨rfl, rfl, hr.1, hr.2⟩
  · refine ax_lump ax_layM ok_kX3 [(7, .iconst (-1), 1, 0, 0, 0)] (pc' := 8) (lc' := [(0, (2, 3, 0)), (1, (0, 0, x1))]) (st' := [(0, 0, (-1))]) (M' := M) (C' := True) (by decide +kernel) rfl trivial ?_
    refine ax_rngS (fun hr => ?_)
    exact ax_iret (by decide +kernel) rfl ⟨rfl, rfl, hr.1, hr.2⟩
def f_X3_two  (M : ax_M) : Prop × Int × ax_M := ax_rc (f_X3_number 1 M) (fun y1 => (if 0 ≤ y1.1 then ax_rc (f_X3_number 1 y1.2) (fun y3 => (if 0 ≤ y3.1 then (True, ((ax_wr ((ax_wr (10 * y1.1)) + y3.1)), y3.2)) else (True, ((-1), y3.2)))) else (True, ((-1), y1.2))))
set_option maxRecDepth 100000 in
set_option maxHeartbeats 4000000 in
theorem c_X3_two (d : Nat)  (M : ax_M)  (hX : (f_X3_two  M).1) : ax_Met ax_LM gX3_two (d + 3) [(2, 3, 0)] M ((ax_qm (-2147483648) 2147483647) (f_X3_two  M).2) := by
  refine ax_body (by decide) (fun X => Nat.le_of_ble_eq_true rfl) (fun hok => ?_)
  show ax_W ax_LM gX3_two (d + 3) 0 [(0, (2, 3, 0))] [] M _
  unfold f_X3_two at hX ⊢
  refine ax_lump ax_layM ok_kX3 [(0, .aload_n 0, 1, 0, 0, 0), (1, .iconst 1, 1, 0, 0, 0)] (pc' := 2) (lc' := [(0, (2, 3, 0))]) (st' := [(0, 0, 1), (2, 3, 0)]) (M' := M) (C' := True) (by decide +kernel) rfl trivial ?_
  refine ax_cVm_r hX (G1 := gX3_number) (d1 := d + 2) (i := 66) (n := 1) (as := [(0, 0, 1)]) (st := []) (c := 3) (a := 0) (by decide +kernel) ax_cls3 calX3_number (by omega) rfl wt_917 wt_919 ws_76 (Nat.le_of_ble_eq_true rfl) rfl (fun hY => c_X3_number d 1 M (by omega) hY) (fun y1 h_y1 hX => ?_)
  refine ax_lump ax_layM ok_kX3 [(5, .istore_n 1, 1, 0, 0, 0), (6, .iload_n 1, 1, 0, 0, 0)] (pc' := 7) (lc' := [(1, (0, 0, y1.1)), (0, (2, 3, 0))]) (st' := [(0, 0, y1.1)]) (M' := y1.2) (C' := True) (by decide +kernel) rfl trivial ?_
  refine ax_zge_s hX (off := 7) (tgt := 14) (by decide +kernel) (by decide) (fun h2 hX => ?_) (fun h2 hX => ?_)
  · refine ax_lump ax_layM ok_kX3 [(14, .aload_n 0, 1, 0, 0, 0), (15, .iconst 1, 1, 0, 0, 0)] (pc' := 16) (lc' := [(1, (0, 0, y1.1)), (0, (2, 3, 0))]) (st' := [(0, 0, 1), (2, 3, 0)]) (M' := y1.2) (C' := True) (by decide +kernel) rfl trivial ?_
    refine ax_cVm_r hX (G1 := gX3_number) (d1 := d + 2) (i := 66) (n := 1) (as := [(0, 0, 1)]) (st := []) (c := 3) (a := 0) (by decide +kernel) ax_cls3 calX3_number (by omega) rfl wt_917 wt_919 ws_76 (Nat.le_of_ble_eq_true rfl) rfl (fun hY => c_X3_number d 1 y1.2 (by omega) hY) (fun y3 h_y3 hX => ?_)
    refine ax_lump ax_layM ok_kX3 [(19, .istore_n 2, 1, 0, 0, 0), (20, .iload_n 2, 1, 0, 0, 0)] (pc' := 21) (lc' := [(2, (0, 0, y3.1)), (1, (0, 0, y1.1)), (0, (2, 3, 0))]) (st' := [(0, 0, y3.1)]) (M' := y3.2) (C' := True) (by decide +kernel) rfl trivial ?_
    refine ax_zge_s hX (off := 7) (tgt := 28) (by decide +kernel) (by decide) (fun h4 hX => ?_) (fun h4 hX => ?_)
    · refine ax_lump ax_layM ok_kX3 [(28, .bipush 10, 2, 0, 0, 0), (30, .iload_n 1, 1, 0, 0, 0), (31, .imul, 1, 0, 0, 0), (32, .iload_n 2, 1, 0, 0, 0), (33, .iadd, 1, 0, 0, 0)] (pc' := 34) (lc' := [(2, (0, 0, y3.1)), (1, (0, 0, y1.1)), (0, (2, 3, 0))]) (st' := [(0, 0, (ax_wr ((ax_wr (10 * y1.1)) + y3.1)))]) (M' := y3.2) (C' := True) (by decide +kernel) rfl trivial ?_
      refine ax_rngS (fun hr => ?_)
      exact ax_iret (by decide +kernel) rfl ⟨rfl, rfl, hr.1, hr.2⟩
    · refine ax_lump ax_layM ok_kX3 [(24, .iconst (-1), 1, 0, 0, 0), (25, .goto 9, 3, 34, 0, 0)] (pc' := 34) (lc' := [(2, (0, 0, y3.1)), (1, (0, 0, y1.1)), (0, (2, 3, 0))]) (st' := [(0, 0, (-1))]) (M' := y3.2) (C' := True) (by decide +kernel) rfl trivial ?_
      refine ax_rngS (fun hr => ?_)
      exact ax_iret (by decide +kernel) rfl ⟨rfl, rfl, hr.1, hr.2⟩
  · refine ax_lump ax_layM ok_kX3 [(10, .iconst (-1), 1, 0, 0, 0), (11, .goto 8, 3, 19, 0, 0), (19, .istore_n 2, 1, 0, 0, 0), (20, .iload_n 2, 1, 0, 0, 0)] (pc' := 21) (lc' := [(2, (0, 0, (-1))), (1, (0, 0, y1.1)), (0, (2, 3, 0))]) (st' := [(0, 0, (-1))]) (M' := y1.2) (C' := True) (by decide +kernel) rfl trivial ?_
    refine ax_if_ge (off := 7) (tgt := 28) (by decide +kernel) (by decide) (fun h5 => ?_) (fun h5 => ?_)
    · exfalso; omega
    · refine ax_lump ax_layM ok_kX3 [(24, .iconst (-1), 1, 0, 0, 0), (25, .goto 9, 3, 34, 0, 0)] (pc' := 34) (lc' := [(2, (0, 0, (-1))), (1, (0, 0, y1.1)), (0, (2, 3, 0))]) (st' := [(0, 0, (-1))]) (M' := y1.2) (C' := True) (by decide +kernel) rfl trivial ?_
      refine ax_rngS (fun hr => ?_)
      exact ax_iret (by decide +kernel) rfl ⟨rfl, rfl, hr.1, hr.2⟩
