def f_X2_row (x1 : Int) (M : ax_M) : Prop × Int := (if x1 < 0 then (False, 0) else (if x1 < (M 0 12) then (True, (M 35 x1.toNat)) else (False, 0)))
set_option maxRecDepth 100000 in
set_option maxHeartbeats 4000000 in
theorem c_X2_row (d : Nat) (x1 : Int) (M : ax_M)  (hX : (f_X2_row x1 M).1) : ax_Met ax_LC gX2_row (d + 0) [(2, 2, 0), (0, 0, x1)] M ((ax_ql M) (f_X2_row x1 M).2) := by
  refine ax_body (by decide) (fun X => Nat.le_of_ble_eq_true rfl) (fun hok => ?_)
  have hr_x1 : (-2147483648) ≤ x1 ∧ x1 ≤ 2147483647 := hok (0, 0, x1) (by simp)
  show ax_W ax_LC gX2_row (d + 0) 0 [(0, (2, 2, 0)), (1, (0, 0, x1))] [] M _
  unfold f_X2_row at hX ⊢
  refine ax_lump ax_layC ok_kX2 [(0, .iload_n 1, 1, 0, 0, 0)] (pc' := 1) (lc' := [(0, (2, 2, 0)), (1, (0, 0, x1))]) (st' := [(0, 0, x1)]) (M' := M) (C' := True) (by decide +kernel) rfl trivial ?_
  refine ax_zlt_s hX (off := 11) (tgt := 12) (by decide +kernel) (by decide) (fun h1 hX => ?_) (fun h1 hX => ?_)
  · exact False.elim hX
  · refine ax_fact (i := 0) (c := 2) (f := 12) (hi := 12) (s := 0) (by simp) rfl rfl rfl (fun hf2 => ?_)
    have hf2 : 0 ≤ (M 0 12) ∧ (M 0 12) ≤ 12 := hf2
    refine ax_lump ax_layC ok_kX2 [(4, .iload_n 1, 1, 0, 0, 0), (5, .aload_n 0, 1, 0, 0, 0), (6, .getfield 58, 3, 2, 12, 0)] (pc' := 9) (lc' := [(0, (2, 2, 0)), (1, (0, 0, x1))]) (st' := [(0, 0, (M 0 12)), (0, 0, x1)]) (M' := M) (C' := True) (by decide +kernel) rfl trivial ?_
    refine ax_jlt_s hX (off := 14) (tgt := 23) (by decide +kernel) (by decide) (fun h3 hX => ?_) (fun h3 hX => ?_)
    · refine ax_lump ax_layC ok_kX2 [(23, .aload_n 0, 1, 0, 0, 0), (24, .getfield 54, 3, 2, 11, 0), (27, .iload_n 1, 1, 0, 0, 0), (28, .laload, 1, 0, 0, 0)] (pc' := 29) (lc' := [(0, (2, 2, 0)), (1, (0, 0, x1))]) (st' := [(1, 0, (M 35 x1.toNat))]) (M' := M) (C' := (True ∧ (0 ≤ x1 ∧ x1 < ((12 : Nat) : Int)))) (by decide +kernel) rfl ⟨trivial, by omega⟩ ?_
      exact ax_lret (by decide +kernel) rfl ⟨rfl, rfl⟩
    · exact False.elim hX
def f_X2_leaf (x1 : Int) (x2 : Int) (x3 : Int) (M : ax_M) : Prop × Int := (if x1 < 0 then (False, 0) else (if 16 ≤ x1 then (False, 0) else (if x2 < 0 then (False, 0) else (if x2 < 4 then ax_bd ((x1 * 4) + x2) (fun y5 => (if (f_X0_isEmptyAt 1 y5 M) = 0 then (if x3 = 0 then (True, (M 2 y5.toNat)) else (if x3 = 1 then (True, (M 3 y5.toNat)) else (if x3 = 2 then (True, (M 4 y5.toNat)) else (False, 0)))) else (False, 0))) else (False, 0)))))
set_option maxRecDepth 100000 in
set_option maxHeartbeats 4000000 in
theorem c_X2_leaf (d : Nat) (x1 : Int) (x2 : Int) (x3 : Int) (M : ax_M)  (hX : (f_X2_leaf x1 x2 x3 M).1) : ax_Met ax_LC gX2_leaf (d + 1) [(2, 2, 0), (0, 0, x1), (0, 0, x2), (0, 0, x3)] M ((ax_qi (-2147483648) 2147483647 M) (f_X2_leaf x1 x2 x3 M).2) := by
  refine ax_body (by decide) (fun X => Nat.le_of_ble_eq_true rfl) (fun hok => ?_)
  have hr_x1 : (-2147483648) ≤ x1 ∧ x1 ≤ 2147483647 := hok (0, 0, x1) (by simp)
  have hr_x2 : (-2147483648) ≤ x2 ∧ x2 ≤ 2147483647 := hok (0, 0, x2) (by simp)
  have hr_x3 : (-2147483648) ≤ x3 ∧ x3 ≤ 2147483647 := hok (0, 0, x3) (by simp)
  show ax_W ax_LC gX2_leaf (d + 1) 0 [(0, (2, 2, 0)), (1, (0, 0, x1)), (2, (0, 0, x2)), (3, (0, 0, x3))] [] M _
  unfold f_X2_leaf at hX ⊢
  refine ax_lump ax_layC ok_kX2 [(0, .iload_n 1, 1, 0, 0, 0)] (pc' := 1) (lc' := [(0, (2, 2, 0)), (1, (0, 0, x1)), (2, (0, 0, x2)), (3, (0, 0, x3))]) (st' := [(0, 0, x1)]) (M' := M) (C' := True) (by decide +kernel) rfl trivial ?_
  refine ax_zlt_s hX (off := 18) (tgt := 19) (by decide +kernel) (by decide) (fun h1 hX => ?_) (fun h1 hX => ?_)
  · exact False.elim hX
  · refine ax_lump ax_layC ok_kX2 [(4, .iload_n 1, 1, 0, 0, 0), (5, .bipush 16, 2, 0, 0, 0)] (pc' := 7) (lc' := [(0, (2, 2, 0)), (1, (0, 0, x1)), (2, (0, 0, x2)), (3, (0, 0, x3))]) (st' := [(0, 0, 16), (0, 0, x1)]) (M' := M) (C' := True) (by decide +kernel) rfl trivial ?_
    refine ax_jge_s hX (off := 12) (tgt := 19) (by decide +kernel) (by decide) (fun h2 hX => ?_) (fun h2 hX => ?_)
    · exact False.elim hX
    · refine ax_lump ax_layC ok_kX2 [(10, .iload_n 2, 1, 0, 0, 0)] (pc' := 11) (lc' := [(0, (2, 2, 0)), (1, (0, 0, x1)), (2, (0, 0, x2)), (3, (0, 0, x3))]) (st' := [(0, 0, x2)]) (M' := M) (C' := True) (by decide +kernel) rfl trivial ?_
      refine ax_zlt_s hX (off := 8) (tgt := 19) (by decide +kernel) (by decide) (fun h3 hX => ?_) (fun h3 hX => ?_)
      · exact False.elim hX
      · refine ax_lump ax_layC ok_kX2 [(14, .iload_n 2, 1, 0, 0, 0), (15, .iconst 4, 1, 0, 0, 0)] (pc' := 16) (lc' := [(0, (2, 2, 0)), (1, (0, 0, x1)), (2, (0, 0, x2)), (3, (0, 0, x3))]) (st' := [(0, 0, 4), (0, 0, x2)]) (M' := M) (C' := True) (by decide +kernel) rfl trivial ?_
        refine ax_jlt_s hX (off := 13) (tgt := 29) (by decide +kernel) (by decide) (fun h4 hX => ?_) (fun h4 hX => ?_)
        · refine ax_lump ax_layC ok_kX2 [(29, .iload_n 1, 1, 0, 0, 0), (30, .iconst 4, 1, 0, 0, 0), (31, .imul, 1, 1, 0, 0), (32, .iload_n 2, 1, 0, 0, 0), (33, .iadd, 1, 1, 0, 0), (34, .istore 4, 2, 0, 0, 0)] (pc' := 36) (lc' := [(4, (0, 0, ((x1 * 4) + x2))), (0, (2, 2, 0)), (1, (0, 0, x1)), (2, (0, 0, x2)), (3, (0, 0, x3))]) (st' := []) (M' := M) (C' := ((True ∧ ax_r32 (x1 * 4)) ∧ ax_r32 ((x1 * 4) + x2))) (by decide +kernel) rfl ⟨⟨trivial, ⟨by omega, by omega⟩⟩, ⟨by omega, by omega⟩⟩ ?_
          refine ax_bdI_s hX (lo := 0) (hi := 63) (e := ((x1 * 4) + x2)) (fun y5 => [(4, (0, 0, y5)), (0, (2, 2, 0)), (1, (0, 0, x1)), (2, (0, 0, x2)), (3, (0, 0, x3))]) (fun y5 => []) (by omega) (fun y5 h_y5 hX => ?_)
          refine ax_lump ax_layC ok_kX2 [(36, .aload_n 0, 1, 0, 0, 0), (37, .getfield 12, 3, 2, 0, 0), (40, .iload 4, 2, 0, 0, 0)] (pc' := 42) (lc' := [(4, (0, 0, y5)), (0, (2, 2, 0)), (1, (0, 0, x1)), (2, (0, 0, x2)), (3, (0, 0, x3))]) (st' := [(0, 0, y5), (2, 0, 1)]) (M' := M) (C' := True) (by decide +kernel) rfl trivial ?_
          refine ax_cNi (G1 := gX0_isEmptyAt) (d1 := d + 0) (i := 104) (n := 1) (as := [(0, 0, y5)]) (st := []) (c := 0) (a := 1) (by decide +kernel) ax_cls0 calX0_isEmptyAt (by omega) rfl wn_852 wt_396 ws_19 (Nat.le_of_ble_eq_true rfl) rfl (c_X0_isEmptyAt d 1 y5 M) (fun hc6 => ?_)
          refine ax_zeq_s hX (off := 13) (tgt := 58) (by decide +kernel) (by decide) (fun h7 hX => ?_) (fun h7 hX => ?_)
          · refine ax_lump ax_layC ok_kX2 [(58, .iload_n 3, 1, 0, 0, 0)] (pc' := 59) (lc' := [(4, (0, 0, y5)), (0, (2, 2, 0)), (1, (0, 0, x1)), (2, (0, 0, x2)), (3, (0, 0, x3))]) (st' := [(0, 0, x3)]) (M' := M) (C' := True) (by decide +kernel) rfl trivial ?_
            refine ax_ite_s hX (fun h8 hX => ?_) (fun h8 hX => ?_)
            · refine ax_swIn (dflt := 58) (lo := 0) (hi := 2) (off := 25) (offs := #[25, 36, 47]) (len := 25) (tgt := 84) (by decide +kernel) (by omega) (by omega) (by rw [h8]; rfl) (by decide) ?_
              refine ax_lump ax_layC ok_kX2 [(84, .aload_n 0, 1, 0, 0, 0), (85, .getfield 12, 3, 2, 0, 0), (88, .getfield 110, 3, 0, 0, 0), (91, .iload 4, 2, 0, 0, 0), (93, .iaload, 1, 0, 0, 0)] (pc' := 94) (lc' := [(4, (0, 0, y5)), (0, (2, 2, 0)), (1, (0, 0, x1)), (2, (0, 0, x2)), (3, (0, 0, x3))]) (st' := [(0, 0, (M 2 y5.toNat))]) (M' := M) (C' := (True ∧ (0 ≤ y5 ∧ y5 < ((64 : Nat) : Int)))) (by decide +kernel) rfl ⟨trivial, by omega⟩ ?_
              refine ax_rngS (fun hr => ?_)
              exact ax_iret (by decide +kernel) rfl ⟨rfl, rfl, hr.1, hr.2⟩
            · refine ax_ite_s hX (fun h9 hX => ?_) (fun h9 hX => ?_)
              · refine ax_swIn (dflt := 58) (lo := 0) (hi := 2) (off := 36) (offs := #[25, 36, 47]) (len := 25) (tgt := 95) (by decide +kernel) (by omega) (by omega) (by rw [h9]; rfl) (by decide) ?_
                refine ax_lump ax_layC ok_kX2 [(95, .aload_n 0, 1, 0, 0, 0), (96, .getfield 12, 3, 2, 0, 0), (99, .getfield 113, 3, 0, 1, 0), (102, .iload 4, 2, 0, 0, 0), (104, .iaload, 1, 0, 0, 0)] (pc' := 105) (lc' := [(4, (0, 0, y5)), (0, (2, 2, 0)), (1, (0, 0, x1)), (2, (0, 0, x2)), (3, (0, 0, x3))]) (st' := [(0, 0, (M 3 y5.toNat))]) (M' := M) (C' := (True ∧ (0 ≤ y5 ∧ y5 < ((64 : Nat) : Int)))) (by decide +kernel) rfl ⟨trivial, by omega⟩ ?_
                refine ax_rngS (fun hr => ?_)
                exact ax_iret (by decide +kernel) rfl ⟨rfl, rfl, hr.1, hr.2⟩
              · refine ax_ite_s hX (fun h10 hX => ?_) (fun h10 hX => ?_)
                · refine ax_swIn (dflt := 58) (lo := 0) (hi := 2) (off := 47) (offs := #[25, 36, 47]) (len := 25) (tgt := 106) (by decide +kernel) (by omega) (by omega) (by rw [h10]; rfl) (by decide) ?_
                  refine ax_lump ax_layC ok_kX2 [(106, .aload_n 0, 1, 0, 0, 0), (107, .getfield 12, 3, 2, 0, 0), (110, .getfield 116, 3, 0, 2, 0), (113, .iload 4, 2, 0, 0, 0), (115, .iaload, 1, 0, 0, 0)] (pc' := 116) (lc' := [(4, (0, 0, y5)), (0, (2, 2, 0)), (1, (0, 0, x1)), (2, (0, 0, x2)), (3, (0, 0, x3))]) (st' := [(0, 0, (M 4 y5.toNat))]) (M' := M) (C' := (True ∧ (0 ≤ y5 ∧ y5 < ((64 : Nat) : Int)))) (by decide +kernel) rfl ⟨trivial, by omega⟩ ?_
                  refine ax_rngS (fun hr => ?_)
                  exact ax_iret (by decide +kernel) rfl ⟨rfl, rfl, hr.1, hr.2⟩
                · refine ax_swOut (dflt := 58) (lo := 0) (hi := 2) (offs := #[25, 36, 47]) (len := 25) (tgt := 117) (by decide +kernel) (by omega) (by decide) ?_
                  exact False.elim hX
          · exact False.elim hX
        · exact False.elim hX
def f_X2_block (x1 : Int) (x2 : Int) (M : ax_M) : Prop × Int := (if x1 < 0 then (False, 0) else (if x1 < 16 then (if x2 = 0 then (True, (M 5 x1.toNat)) else (if x2 = 1 then (True, (M 6 x1.toNat)) else (if x2 = 2 then (True, (f_X0_writtenIn 1 x1 M)) else (if x2 = 3 then (True, (f_X0_latestIn 1 x1 M)) else (if x2 = 4 then (True, (M 7 x1.toNat)) else (False, 0)))))) else (False, 0)))
set_option maxRecDepth 100000 in
set_option maxHeartbeats 4000000 in
theorem c_X2_block (d : Nat) (x1 : Int) (x2 : Int) (M : ax_M)  (hX : (f_X2_block x1 x2 M).1) : ax_Met ax_LC gX2_block (d + 4) [(2, 2, 0), (0, 0, x1), (0, 0, x2)] M ((ax_qi (-2147483648) 2147483647 M) (f_X2_block x1 x2 M).2) := by
  refine ax_body (by decide) (fun X => Nat.le_of_ble_eq_true rfl) (fun hok => ?_)
  have hr_x1 : (-2147483648) ≤ x1 ∧ x1 ≤ 2147483647 := hok (0, 0, x1) (by simp)
  have hr_x2 : (-2147483648) ≤ x2 ∧ x2 ≤ 2147483647 := hok (0, 0, x2) (by simp)
  show ax_W ax_LC gX2_block (d + 4) 0 [(0, (2, 2, 0)), (1, (0, 0, x1)), (2, (0, 0, x2))] [] M _
  unfold f_X2_block at hX ⊢
  refine ax_lump ax_layC ok_kX2 [(0, .iload_n 1, 1, 0, 0, 0)] (pc' := 1) (lc' := [(0, (2, 2, 0)), (1, (0, 0, x1)), (2, (0, 0, x2))]) (st' := [(0, 0, x1)]) (M' := M) (C' := True) (by decide +kernel) rfl trivial ?_
  refine ax_zlt_s hX (off := 9) (tgt := 10) (by decide +kernel) (by decide) (fun h1 hX => ?_) (fun h1 hX => ?_)
  · exact False.elim hX
  · refine ax_lump ax_layC ok_kX2 [(4, .iload_n 1, 1, 0, 0, 0), (5, .bipush 16, 2, 0, 0, 0)] (pc' := 7) (lc' := [(0, (2, 2, 0)), (1, (0, 0, x1)), (2, (0, 0, x2))]) (st' := [(0, 0, 16), (0, 0, x1)]) (M' := M) (C' := True) (by decide +kernel) rfl trivial ?_
    refine ax_jlt_s hX (off := 13) (tgt := 20) (by decide +kernel) (by decide) (fun h2 hX => ?_) (fun h2 hX => ?_)
    · refine ax_lump ax_layC ok_kX2 [(20, .iload_n 2, 1, 0, 0, 0)] (pc' := 21) (lc' := [(0, (2, 2, 0)), (1, (0, 0, x1)), (2, (0, 0, x2))]) (st' := [(0, 0, x2)]) (M' := M) (C' := True) (by decide +kernel) rfl trivial ?_
      refine ax_ite_s hX (fun h3 hX => ?_) (fun h3 hX => ?_)
      · refine ax_swIn (dflt := 83) (lo := 0) (hi := 4) (off := 35) (offs := #[35, 45, 55, 64, 73]) (len := 35) (tgt := 56) (by decide +kernel) (by omega) (by omega) (by rw [h3]; rfl) (by decide) ?_
        refine ax_lump ax_layC ok_kX2 [(56, .aload_n 0, 1, 0, 0, 0), (57, .getfield 12, 3, 2, 0, 0), (60, .getfield 84, 3, 0, 3, 0), (63, .iload_n 1, 1, 0, 0, 0), (64, .iaload, 1, 0, 0, 0)] (pc' := 65) (lc' := [(0, (2, 2, 0)), (1, (0, 0, x1)), (2, (0, 0, x2))]) (st' := [(0, 0, (M 5 x1.toNat))]) (M' := M) (C' := (True ∧ (0 ≤ x1 ∧ x1 < ((16 : Nat) : Int)))) (by decide +kernel) rfl ⟨trivial, by omega⟩ ?_
        refine ax_rngS (fun hr => ?_)
        exact ax_iret (by decide +kernel) rfl ⟨rfl, rfl, hr.1, hr.2⟩
      · refine ax_ite_s hX (fun h4 hX => ?_) (fun h4 hX => ?_)
        · refine ax_swIn (dflt := 83) (lo := 0) (hi := 4) (off := 45) (offs := #[35, 45, 55, 64, 73]) (len := 35) (tgt := 66) (by decide +kernel) (by omega) (by omega) (by rw [h4]; rfl) (by decide) ?_
          refine ax_lump ax_layC ok_kX2 [(66, .aload_n 0, 1, 0, 0, 0), (67, .getfield 12, 3, 2, 0, 0), (70, .getfield 87, 3, 0, 4, 0), (73, .iload_n 1, 1, 0, 0, 0), (74, .iaload, 1, 0, 0, 0)] (pc' := 75) (lc' := [(0, (2, 2, 0)), (1, (0, 0, x1)), (2, (0, 0, x2))]) (st' := [(0, 0, (M 6 x1.toNat))]) (M' := M) (C' := (True ∧ (0 ≤ x1 ∧ x1 < ((16 : Nat) : Int)))) (by decide +kernel) rfl ⟨trivial, by omega⟩ ?_
          refine ax_rngS (fun hr => ?_)
          exact ax_iret (by decide +kernel) rfl ⟨rfl, rfl, hr.1, hr.2⟩
        · refine ax_ite_s hX (fun h5 hX => ?_) (fun h5 hX => ?_)
          · refine ax_swIn (dflt := 83) (lo := 0) (hi := 4) (off := 55) (offs := #[35, 45, 55, 64, 73]) (len := 35) (tgt := 76) (by decide +kernel) (by omega) (by omega) (by rw [h5]; rfl) (by decide) ?_
            refine ax_lump ax_layC ok_kX2 [(76, .aload_n 0, 1, 0, 0, 0), (77, .getfield 12, 3, 2, 0, 0), (80, .iload_n 1, 1, 0, 0, 0)] (pc' := 81) (lc' := [(0, (2, 2, 0)), (1, (0, 0, x1)), (2, (0, 0, x2))]) (st' := [(0, 0, x1), (2, 0, 1)]) (M' := M) (C' := True) (by decide +kernel) rfl trivial ?_
            refine ax_cNi (G1 := gX0_writtenIn) (d1 := d + 0) (i := 90) (n := 1) (as := [(0, 0, x1)]) (st := []) (c := 0) (a := 1) (by decide +kernel) ax_cls0 calX0_writtenIn (by omega) rfl wn_627 wt_424 ws_26 (Nat.le_of_ble_eq_true rfl) rfl (c_X0_writtenIn d 1 x1 M) (fun hc6 => ?_)
            refine ax_rngS (fun hr => ?_)
            exact ax_iret (by decide +kernel) rfl ⟨rfl, rfl, hr.1, hr.2⟩
          · refine ax_ite_s hX (fun h7 hX => ?_) (fun h7 hX => ?_)
            · refine ax_swIn (dflt := 83) (lo := 0) (hi := 4) (off := 64) (offs := #[35, 45, 55, 64, 73]) (len := 35) (tgt := 85) (by decide +kernel) (by omega) (by omega) (by rw [h7]; rfl) (by decide) ?_
              refine ax_lump ax_layC ok_kX2 [(85, .aload_n 0, 1, 0, 0, 0), (86, .getfield 12, 3, 2, 0, 0), (89, .iload_n 1, 1, 0, 0, 0)] (pc' := 90) (lc' := [(0, (2, 2, 0)), (1, (0, 0, x1)), (2, (0, 0, x2))]) (st' := [(0, 0, x1), (2, 0, 1)]) (M' := M) (C' := True) (by decide +kernel) rfl trivial ?_
              refine ax_cNi (G1 := gX0_latestIn) (d1 := d + 3) (i := 94) (n := 1) (as := [(0, 0, x1)]) (st := []) (c := 0) (a := 1) (by decide +kernel) ax_cls0 calX0_latestIn (by omega) rfl wn_629 wt_412 ws_23 (Nat.le_of_ble_eq_true rfl) rfl (c_X0_latestIn d 1 x1 M) (fun hc8 => ?_)
              refine ax_rngS (fun hr => ?_)
              exact ax_iret (by decide +kernel) rfl ⟨rfl, rfl, hr.1, hr.2⟩
            · refine ax_ite_s hX (fun h9 hX => ?_) (fun h9 hX => ?_)
              · refine ax_swIn (dflt := 83) (lo := 0) (hi := 4) (off := 73) (offs := #[35, 45, 55, 64, 73]) (len := 35) (tgt := 94) (by decide +kernel) (by omega) (by omega) (by rw [h9]; rfl) (by decide) ?_
                refine ax_lump ax_layC ok_kX2 [(94, .aload_n 0, 1, 0, 0, 0), (95, .getfield 12, 3, 2, 0, 0), (98, .getfield 97, 3, 0, 5, 0), (101, .iload_n 1, 1, 0, 0, 0), (102, .iaload, 1, 0, 0, 0)] (pc' := 103) (lc' := [(0, (2, 2, 0)), (1, (0, 0, x1)), (2, (0, 0, x2))]) (st' := [(0, 0, (M 7 x1.toNat))]) (M' := M) (C' := (True ∧ (0 ≤ x1 ∧ x1 < ((16 : Nat) : Int)))) (by decide +kernel) rfl ⟨trivial, by omega⟩ ?_
                refine ax_rngS (fun hr => ?_)
                exact ax_iret (by decide +kernel) rfl ⟨rfl, rfl, hr.1, hr.2⟩
              · refine ax_swOut (dflt := 83) (lo := 0) (hi := 4) (offs := #[35, 45, 55, 64, 73]) (len := 35) (tgt := 104) (by decide +kernel) (by omega) (by decide) ?_
                exact False.elim hX
    · exact False.elim hX
