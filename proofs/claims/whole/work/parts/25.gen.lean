def f_X3_levels  (M : ax_M) : Prop × Int × ax_M := ax_bd (ax_up M 0 0 0) (fun M1 => ax_rc (f_X3_putsBy M1) (fun M2 => ax_rc (f_X3_levelsNow M2) (fun y3 => (if 0 ≤ y3.1 then ax_bd (ax_up y3.2 0 1 0) (fun M5 => ax_rc (f_X3_enters (M5 0 21) M5) (fun M7 => ax_rc (f_X3_adds y3.1 M7) (fun y8 => (True, (y8.1, y8.2))))) else (True, (y3.1, y3.2))))))
set_option maxRecDepth 100000 in
set_option maxHeartbeats 4000000 in
theorem c_X3_levels (d : Nat)  (M : ax_M)  (hX : (f_X3_levels  M).1) : ax_Met ax_LM gX3_levels (d + 5) [(2, 3, 0)] M ((ax_qm (-2147483648) 2147483647) (f_X3_levels  M).2) := by
  refine ax_body (by decide) (fun X => Nat.le_of_ble_eq_true rfl) (fun hok => ?_)
  show ax_W ax_LM gX3_levels (d + 5) 0 [(0, (2, 3, 0))] [] M _
  unfold f_X3_levels at hX ⊢
  refine ax_lump ax_layM ok_kX3 [(0, .aload_n 0, 1, 0, 0, 0), (1, .iconst 0, 1, 0, 0, 0), (2, .putfield 3, 3, 3, 0, 0)] (pc' := 5) (lc' := [(0, (2, 3, 0))]) (st' := []) (M' := (ax_up M 0 0 0)) (C' := (True ∧ (0 ≤ 0 ∧ 0 < ((2 : Nat) : Int)))) (by decide +kernel) rfl ⟨trivial, by omega⟩ ?_
  refine ax_bdMe_s hX (fun M1 hM_M1 hX => ?_)
  refine ax_lump ax_layM ok_kX3 [(5, .aload_n 0, 1, 0, 0, 0)] (pc' := 6) (lc' := [(0, (2, 3, 0))]) (st' := [(2, 3, 0)]) (M' := M1) (C' := True) (by decide +kernel) rfl trivial ?_
  refine ax_cVv_r hX (G1 := gX3_putsBy) (d1 := d + 0) (i := 354) (n := 0) (as := []) (st := []) (c := 3) (a := 0) (by decide +kernel) ax_cls3 calX3_putsBy (by omega) rfl wt_1136 wt_1138 ws_81 (Nat.le_of_ble_eq_true rfl) rfl (fun hY => c_X3_putsBy d  M1 hY) (fun M2 hX => ?_)
  refine ax_lump ax_layM ok_kX3 [(9, .aload_n 0, 1, 0, 0, 0)] (pc' := 10) (lc' := [(0, (2, 3, 0))]) (st' := [(2, 3, 0)]) (M' := M2) (C' := True) (by decide +kernel) rfl trivial ?_
  refine ax_cVm_r hX (G1 := gX3_levelsNow) (d1 := d + 4) (i := 388) (n := 0) (as := []) (st := []) (c := 3) (a := 0) (by decide +kernel) ax_cls3 calX3_levelsNow (by omega) rfl wt_1308 wt_1310 ws_105 (Nat.le_of_ble_eq_true rfl) rfl (fun hY => c_X3_levelsNow d  M2 hY) (fun y3 h_y3 hX => ?_)
  refine ax_lump ax_layM ok_kX3 [(13, .istore_n 1, 1, 0, 0, 0), (14, .iload_n 1, 1, 0, 0, 0)] (pc' := 15) (lc' := [(1, (0, 0, y3.1)), (0, (2, 3, 0))]) (st' := [(0, 0, y3.1)]) (M' := y3.2) (C' := True) (by decide +kernel) rfl trivial ?_
  refine ax_zge_s hX (off := 5) (tgt := 20) (by decide +kernel) (by decide) (fun h4 hX => ?_) (fun h4 hX => ?_)
  · refine ax_lump ax_layM ok_kX3 [(20, .aload_n 0, 1, 0, 0, 0), (21, .iconst 0, 1, 0, 0, 0), (22, .putfield 15, 3, 3, 1, 0)] (pc' := 25) (lc' := [(1, (0, 0, y3.1)), (0, (2, 3, 0))]) (st' := []) (M' := (ax_up y3.2 0 1 0)) (C' := (True ∧ (0 ≤ 0 ∧ 0 < ((25 : Nat) : Int)))) (by decide +kernel) rfl ⟨trivial, by omega⟩ ?_
    refine ax_bdMe_s hX (fun M5 hM_M5 hX => ?_)
    refine ax_fact (i := 0) (c := 3) (f := 21) (hi := 15) (s := 0) (by simp) rfl rfl rfl (fun hf6 => ?_)
    have hf6 : 0 ≤ (M5 0 21) ∧ (M5 0 21) ≤ 15 := hf6
    refine ax_lump ax_layM ok_kX3 [(25, .aload_n 0, 1, 0, 0, 0), (26, .aload_n 0, 1, 0, 0, 0), (27, .getfield 261, 3, 3, 21, 0), (30, .i2l, 1, 0, 0, 0)] (pc' := 31) (lc' := [(1, (0, 0, y3.1)), (0, (2, 3, 0))]) (st' := [(1, 0, (M5 0 21)), (2, 3, 0)]) (M' := M5) (C' := True) (by decide +kernel) rfl trivial ?_
    refine ax_cVv_r hX (G1 := gX3_enters) (d1 := d + 0) (i := 345) (n := 1) (as := [(1, 0, (M5 0 21))]) (st := []) (c := 3) (a := 0) (by decide +kernel) ax_cls3 calX3_enters (by omega) rfl wt_1256 wt_1258 ws_98 (Nat.le_of_ble_eq_true rfl) rfl (fun hY => c_X3_enters d (M5 0 21) M5 hY) (fun M7 hX => ?_)
    refine ax_lump ax_layM ok_kX3 [(34, .aload_n 0, 1, 0, 0, 0), (35, .iload_n 1, 1, 0, 0, 0)] (pc' := 36) (lc' := [(1, (0, 0, y3.1)), (0, (2, 3, 0))]) (st' := [(0, 0, y3.1), (2, 3, 0)]) (M' := M7) (C' := True) (by decide +kernel) rfl trivial ?_
    refine ax_cVm_r hX (G1 := gX3_adds) (d1 := d + 0) (i := 367) (n := 1) (as := [(0, 0, y3.1)]) (st := []) (c := 3) (a := 0) (by decide +kernel) ax_cls3 calX3_adds (by omega) rfl wt_1264 wt_1266 ws_100 (Nat.le_of_ble_eq_true rfl) rfl (fun hY => c_X3_adds d y3.1 M7 hY) (fun y8 h_y8 hX => ?_)
    refine ax_rngS (fun hr => ?_)
    exact ax_iret (by decide +kernel) rfl ⟨rfl, rfl, hr.1, hr.2⟩
  · refine ax_lump ax_layM ok_kX3 [(18, .iload_n 1, 1, 0, 0, 0)] (pc' := 19) (lc' := [(1, (0, 0, y3.1)), (0, (2, 3, 0))]) (st' := [(0, 0, y3.1)]) (M' := y3.2) (C' := True) (by decide +kernel) rfl trivial ?_
    refine ax_rngS (fun hr => ?_)
    exact ax_iret (by decide +kernel) rfl ⟨rfl, rfl, hr.1, hr.2⟩
def f_X3_cools  (M : ax_M) : Prop × Int × ax_M := ax_bd (ax_up M 0 0 0) (fun M1 => ax_rc (f_X3_putsBy M1) (fun M2 => ax_bd (f_X3_coolsAll M2) (fun y3 => ax_rc (f_X3_adds y3.1 y3.2) (fun y4 => (True, (y4.1, y4.2))))))
set_option maxRecDepth 100000 in
set_option maxHeartbeats 4000000 in
theorem c_X3_cools (d : Nat)  (M : ax_M)  (hX : (f_X3_cools  M).1) : ax_Met ax_LM gX3_cools (d + 2) [(2, 3, 0)] M ((ax_qm (-2147483648) 2147483647) (f_X3_cools  M).2) := by
  refine ax_body (by decide) (fun X => Nat.le_of_ble_eq_true rfl) (fun hok => ?_)
  show ax_W ax_LM gX3_cools (d + 2) 0 [(0, (2, 3, 0))] [] M _
  unfold f_X3_cools at hX ⊢
  refine ax_lump ax_layM ok_kX3 [(0, .aload_n 0, 1, 0, 0, 0), (1, .iconst 0, 1, 0, 0, 0), (2, .putfield 3, 3, 3, 0, 0)] (pc' := 5) (lc' := [(0, (2, 3, 0))]) (st' := []) (M' := (ax_up M 0 0 0)) (C' := (True ∧ (0 ≤ 0 ∧ 0 < ((2 : Nat) : Int)))) (by decide +kernel) rfl ⟨trivial, by omega⟩ ?_
  refine ax_bdMe_s hX (fun M1 hM_M1 hX => ?_)
  refine ax_lump ax_layM ok_kX3 [(5, .aload_n 0, 1, 0, 0, 0)] (pc' := 6) (lc' := [(0, (2, 3, 0))]) (st' := [(2, 3, 0)]) (M' := M1) (C' := True) (by decide +kernel) rfl trivial ?_
  refine ax_cVv_r hX (G1 := gX3_putsBy) (d1 := d + 0) (i := 354) (n := 0) (as := []) (st := []) (c := 3) (a := 0) (by decide +kernel) ax_cls3 calX3_putsBy (by omega) rfl wt_1136 wt_1138 ws_81 (Nat.le_of_ble_eq_true rfl) rfl (fun hY => c_X3_putsBy d  M1 hY) (fun M2 hX => ?_)
  refine ax_lump ax_layM ok_kX3 [(9, .aload_n 0, 1, 0, 0, 0), (10, .aload_n 0, 1, 0, 0, 0)] (pc' := 11) (lc' := [(0, (2, 3, 0))]) (st' := [(2, 3, 0), (2, 3, 0)]) (M' := M2) (C' := True) (by decide +kernel) rfl trivial ?_
  refine ax_cVm_s hX (G1 := gX3_coolsAll) (d1 := d + 1) (i := 391) (n := 0) (as := []) (st := [(2, 3, 0)]) (c := 3) (a := 0) (by decide +kernel) ax_cls3 calX3_coolsAll (by omega) rfl wt_1316 wt_1318 ws_106 (Nat.le_of_ble_eq_true rfl) rfl (c_X3_coolsAll d  M2) (fun y3 h_y3 hX => ?_)
  refine ax_cVm_r hX (G1 := gX3_adds) (d1 := d + 0) (i := 367) (n := 1) (as := [(0, 0, y3.1)]) (st := []) (c := 3) (a := 0) (by decide +kernel) ax_cls3 calX3_adds (by omega) rfl wt_1264 wt_1266 ws_100 (Nat.le_of_ble_eq_true rfl) rfl (fun hY => c_X3_adds d y3.1 y3.2 hY) (fun y4 h_y4 hX => ?_)
  refine ax_rngS (fun hr => ?_)
  exact ax_iret (by decide +kernel) rfl ⟨rfl, rfl, hr.1, hr.2⟩
def f_X3_sets (x1 : Int) (x2 : Int) (M : ax_M) : Prop × Int × ax_M := ax_bd (ax_up M 0 0 0) (fun M1 => ax_rc (f_X3_putsBy M1) (fun M2 => ax_bd (f_X3_setsOne x1 x2 M2) (fun y3 => (if 0 ≤ y3.1 then ax_rc (f_X3_adds y3.1 y3.2) (fun y5 => (True, (y5.1, y5.2))) else (True, (y3.1, y3.2))))))
set_option maxRecDepth 100000 in
set_option maxHeartbeats 4000000 in
theorem c_X3_sets (d : Nat) (x1 : Int) (x2 : Int) (M : ax_M)  (hX : (f_X3_sets x1 x2 M).1) : ax_Met ax_LM gX3_sets (d + 3) [(2, 3, 0), (0, 0, x1), (0, 0, x2)] M ((ax_qm (-2147483648) 2147483647) (f_X3_sets x1 x2 M).2) := by
  refine ax_body (by decide) (fun X => Nat.le_of_ble_eq_true rfl) (fun hok => ?_)
  have hr_x1 : (-2147483648) ≤ x1 ∧ x1 ≤ 2147483647 := hok (0, 0, x1) (by simp)
  have hr_x2 : (-2147483648) ≤ x2 ∧ x2 ≤ 2147483647 := hok (0, 0, x2) (by simp)
  show ax_W ax_LM gX3_sets (d + 3) 0 [(0, (2, 3, 0)), (1, (0, 0, x1)), (2, (0, 0, x2))] [] M _
  unfold f_X3_sets at hX ⊢
  refine ax_lump ax_layM ok_kX3 [(0, .aload_n 0, 1, 0, 0, 0), (1, .iconst 0, 1, 0, 0, 0), (2, .putfield 3, 3, 3, 0, 0)] (pc' := 5) (lc' := [(0, (2, 3, 0)), (1, (0, 0, x1)), (2, (0, 0, x2))]) (st' := []) (M' := (ax_up M 0 0 0)) (C' := (True ∧ (0 ≤ 0 ∧ 0 < ((2 : Nat) : Int)))) (by decide +kernel) rfl ⟨trivial, by omega⟩ ?_
  refine ax_bdMe_s hX (fun M1 hM_M1 hX => ?_)
  refine ax_lump ax_layM ok_kX3 [(5, .aload_n 0, 1, 0, 0, 0)] (pc' := 6) (lc' := [(0, (2, 3, 0)), (1, (0, 0, x1)), (2, (0, 0, x2))]) (st' := [(2, 3, 0)]) (M' := M1) (C' := True) (by decide +kernel) rfl trivial ?_
  refine ax_cVv_r hX (G1 := gX3_putsBy) (d1 := d + 0) (i := 354) (n := 0) (as := []) (st := []) (c := 3) (a := 0) (by decide +kernel) ax_cls3 calX3_putsBy (by omega) rfl wt_1136 wt_1138 ws_81 (Nat.le_of_ble_eq_true rfl) rfl (fun hY => c_X3_putsBy d  M1 hY) (fun M2 hX => ?_)
  refine ax_lump ax_layM ok_kX3 [(9, .aload_n 0, 1, 0, 0, 0), (10, .iload_n 1, 1, 0, 0, 0), (11, .iload_n 2, 1, 0, 0, 0)] (pc' := 12) (lc' := [(0, (2, 3, 0)), (1, (0, 0, x1)), (2, (0, 0, x2))]) (st' := [(0, 0, x2), (0, 0, x1), (2, 3, 0)]) (M' := M2) (C' := True) (by decide +kernel) rfl trivial ?_
  refine ax_cVm_s hX (G1 := gX3_setsOne) (d1 := d + 2) (i := 394) (n := 2) (as := [(0, 0, x1), (0, 0, x2)]) (st := []) (c := 3) (a := 0) (by decide +kernel) ax_cls3 calX3_setsOne (by omega) rfl wt_1324 wt_1326 ws_107 (Nat.le_of_ble_eq_true rfl) rfl (c_X3_setsOne d x1 x2 M2) (fun y3 h_y3 hX => ?_)
  refine ax_lump ax_layM ok_kX3 [(15, .istore_n 3, 1, 0, 0, 0), (16, .iload_n 3, 1, 0, 0, 0)] (pc' := 17) (lc' := [(3, (0, 0, y3.1)), (0, (2, 3, 0)), (1, (0, 0, x1)), (2, (0, 0, x2))]) (st' := [(0, 0, y3.1)]) (M' := y3.2) (C' := True) (by decide +kernel) rfl trivial ?_
  refine ax_zge_s hX (off := 7) (tgt := 24) (by decide +kernel) (by decide) (fun h4 hX => ?_) (fun h4 hX => ?_)
  · refine ax_lump ax_layM ok_kX3 [(24, .aload_n 0, 1, 0, 0, 0), (25, .iload_n 3, 1, 0, 0, 0)] (pc' := 26) (lc' := [(3, (0, 0, y3.1)), (0, (2, 3, 0)), (1, (0, 0, x1)), (2, (0, 0, x2))]) (st' := [(0, 0, y3.1), (2, 3, 0)]) (M' := y3.2) (C' := True) (by decide +kernel) rfl trivial ?_
    refine ax_cVm_r hX (G1 := gX3_adds) (d1 := d + 0) (i := 367) (n := 1) (as := [(0, 0, y3.1)]) (st := []) (c := 3) (a := 0) (by decide +kernel) ax_cls3 calX3_adds (by omega) rfl wt_1264 wt_1266 ws_100 (Nat.le_of_ble_eq_true rfl) rfl (fun hY => c_X3_adds d y3.1 y3.2 hY) (fun y5 h_y5 hX => ?_)
    refine ax_rngS (fun hr => ?_)
    exact ax_iret (by decide +kernel) rfl ⟨rfl, rfl, hr.1, hr.2⟩
  · refine ax_lump ax_layM ok_kX3 [(20, .iload_n 3, 1, 0, 0, 0), (21, .goto 8, 3, 29, 0, 0)] (pc' := 29) (lc' := [(3, (0, 0, y3.1)), (0, (2, 3, 0)), (1, (0, 0, x1)), (2, (0, 0, x2))]) (st' := [(0, 0, y3.1)]) (M' := y3.2) (C' := True) (by decide +kernel) rfl trivial ?_
    refine ax_rngS (fun hr => ?_)
    exact ax_iret (by decide +kernel) rfl ⟨rfl, rfl, hr.1, hr.2⟩
def f_X3_copyOf_B22 (w1 : Int) (w2 : Int) (w3 : Int) (w4 : Int) (M : ax_M) (i : Nat) (v5 : Int) (kc : Int → Int) (kx : Int → Int) : Int := ax_bd (ax_wr ((M 7 (128 + (i : Int)).toNat) - (M 7 (128 + w4).toNat))) (fun y2 => (if (f_X3_pageAt 7 (i : Int) M) ≠ w1 then kc (v5 + (f_X3_flag 0 M)) else (if 0 < y2 then kc (v5 + (f_X3_flag 1 M)) else (if y2 ≠ 0 then kc (v5 + (f_X3_flag 0 M)) else (if w4 ≤ (i : Int) then kc (v5 + (f_X3_flag 0 M)) else kc (v5 + (f_X3_flag 1 M)))))))
def f_X3_copyOf_L22 (w1 : Int) (w2 : Int) (w3 : Int) (w4 : Int) (M : ax_M) : Nat → Nat → Int → (Int → Int) → Int
  | 0, i, v5, kx => kx v5
  | n + 1, i, v5, kx => f_X3_copyOf_B22 w1 w2 w3 w4 M i v5 (fun u5 => f_X3_copyOf_L22 w1 w2 w3 w4 M n (i + 1) u5 kx) kx
set_option maxRecDepth 100000 in
set_option maxHeartbeats 4000000 in
theorem wb_X3_copyOf_B22 (d : Nat) (w1 : Int) (w2 : Int) (w3 : Int) (w4 : Int) (M : ax_M) (i : Nat) (v5 : Int) (kc : Int → Int) (kx : Int → Int) (hw_w3 : (-1) ≤ w3 ∧ w3 ≤ (-1)) (hw_w4 : 0 ≤ w4 ∧ w4 ≤ 63) (hi : 0 ≤ i ∧ i < 64) (hv5 : 0 ≤ v5 ∧ v5 ≤ 0 + 1 * ((i : Int) - 0)) (hkc : ∀ (u5 : Int), 0 ≤ u5 ∧ u5 ≤ 0 + 1 * (((i : Int) + 1) - 0) → ax_W ax_LM gX3_copyOf (d + 1) 22 [(0, (2, 3, 0)), (1, (0, 0, w1)), (2, (0, 0, w2)), (3, (0, 0, w3)), (4, (0, 0, w4)), (5, (0, 0, u5)), (6, (0, 0, ((i : Int) + 1)))] [] M ((ax_qi (-1) 63 M) (kc u5))) (hkx : ∀ (x5 : Int), ((0 ≤ x5 ∧ x5 ≤ 64)) → ax_W ax_LM gX3_copyOf (d + 1) 103 [(0, (2, 3, 0)), (1, (0, 0, w1)), (2, (0, 0, w2)), (3, (0, 0, w3)), (4, (0, 0, w4)), (5, (0, 0, x5))] [] M ((ax_qi (-1) 63 M) (kx x5))) : ax_W ax_LM gX3_copyOf (d + 1) 29 [(0, (2, 3, 0)), (1, (0, 0, w1)), (2, (0, 0, w2)), (3, (0, 0, w3)), (4, (0, 0, w4)), (5, (0, 0, v5)), (6, (0, 0, (i : Int)))] [] M ((ax_qi (-1) 63 M) (f_X3_copyOf_B22 w1 w2 w3 w4 M i v5 kc kx)) := by
  unfold f_X3_copyOf_B22
  refine ax_lump ax_layM ok_kX3 [(29, .aload_n 0, 1, 0, 0, 0), (30, .getfield 138, 3, 3, 14, 0), (33, .sipush 128, 3, 0, 0, 0), (36, .iload 6, 2, 0, 0, 0), (38, .iadd, 1, 1, 0, 0), (39, .iaload, 1, 0, 0, 0), (40, .aload_n 0, 1, 0, 0, 0), (41, .getfield 138, 3, 3, 14, 0), (44, .sipush 128, 3, 0, 0, 0), (47, .iload 4, 2, 0, 0, 0), (49, .iadd, 1, 1, 0, 0), (50, .iaload, 1, 0, 0, 0), (51, .isub, 1, 0, 0, 0), (52, .istore 7, 2, 0, 0, 0)] (pc' := 54) (lc' := [(7, (0, 0, (ax_wr ((M 7 (128 + (i : Int)).toNat) - (M 7 (128 + w4).toNat))))), (0, (2, 3, 0)), (1, (0, 0, w1)), (2, (0, 0, w2)), (3, (0, 0, w3)), (4, (0, 0, w4)), (5, (0, 0, v5)), (6, (0, 0, (i : Int)))]) (st' := []) (M' := M) (C' := ((((True ∧ ax_r32 (128 + (i : Int))) ∧ (0 ≤ (128 + (i : Int)) ∧ (128 + (i : Int)) < ((274 : Nat) : Int))) ∧ ax_r32 (128 + w4)) ∧ (0 ≤ (128 + w4) ∧ (128 + w4) < ((274 : Nat) : Int)))) (by decide +kernel) rfl ⟨⟨⟨⟨trivial, ⟨by omega, by omega⟩⟩, by omega⟩, ⟨by omega, by omega⟩⟩, by omega⟩ ?_
  refine ax_bdI0 (e := (ax_wr ((M 7 (128 + (i : Int)).toNat) - (M 7 (128 + w4).toNat)))) (fun y2 => [(7, (0, 0, y2)), (0, (2, 3, 0)), (1, (0, 0, w1)), (2, (0, 0, w2)), (3, (0, 0, w3)), (4, (0, 0, w4)), (5, (0, 0, v5)), (6, (0, 0, (i : Int)))]) (fun y2 => []) (fun y2 => ?_)
  refine ax_lump ax_layM ok_kX3 [(54, .iload 5, 2, 0, 0, 0), (56, .aload_n 0, 1, 0, 0, 0), (57, .getfield 138, 3, 3, 14, 0), (60, .iload 6, 2, 0, 0, 0)] (pc' := 62) (lc' := [(7, (0, 0, y2)), (0, (2, 3, 0)), (1, (0, 0, w1)), (2, (0, 0, w2)), (3, (0, 0, w3)), (4, (0, 0, w4)), (5, (0, 0, v5)), (6, (0, 0, (i : Int)))]) (st' := [(0, 0, (i : Int)), (3, 274, 7), (0, 0, v5)]) (M' := M) (C' := True) (by decide +kernel) rfl trivial ?_
  refine ax_cSi (G1 := gX3_pageAt) (d1 := d + 0) (i := 188) (n := 2) (as := [(3, 274, 7), (0, 0, (i : Int))]) (st := [(0, 0, v5)]) (by decide +kernel) calX3_pageAt (by omega) rfl wt_1104 wt_1105 (Nat.le_of_ble_eq_true rfl) rfl (c_X3_pageAt d 7 (i : Int) M (by omega)) (fun hc3 => ?_)
  refine ax_lump ax_layM ok_kX3 [(65, .iload_n 1, 1, 0, 0, 0)] (pc' := 66) (lc' := [(7, (0, 0, y2)), (0, (2, 3, 0)), (1, (0, 0, w1)), (2, (0, 0, w2)), (3, (0, 0, w3)), (4, (0, 0, w4)), (5, (0, 0, v5)), (6, (0, 0, (i : Int)))]) (st' := [(0, 0, w1), (0, 0, (f_X3_pageAt 7 (i : Int) M)), (0, 0, v5)]) (M' := M) (C' := True) (by decide +kernel) rfl trivial ?_
  refine ax_jne (off := 24) (tgt := 90) (by decide +kernel) (by decide) (fun h4 => ?_) (fun h4 => ?_)
  · refine ax_lump ax_layM ok_kX3 [(90, .iconst 0, 1, 0, 0, 0)] (pc' := 91) (lc' := [(7, (0, 0, y2)), (0, (2, 3, 0)), (1, (0, 0, w1)), (2, (0, 0, w2)), (3, (0, 0, w3)), (4, (0, 0, w4)), (5, (0, 0, v5)), (6, (0, 0, (i : Int)))]) (st' := [(0, 0, 0), (0, 0, v5)]) (M' := M) (C' := True) (by decide +kernel) rfl trivial ?_
    refine ax_cSi (G1 := gX3_flag) (d1 := d + 0) (i := 44) (n := 1) (as := [(0, 0, 0)]) (st := [(0, 0, v5)]) (by decide +kernel) calX3_flag (by omega) rfl wt_904 wt_905 (Nat.le_of_ble_eq_true rfl) rfl (c_X3_flag d 0 M (by omega)) (fun hc5 => ?_)
    refine ax_lump ax_layM ok_kX3 [(94, .iadd, 1, 1, 0, 0), (95, .istore 5, 2, 0, 0, 0), (97, .iinc 6 1, 3, 1, 0, 0), (100, .goto (-78), 3, 22, 0, 0)] (pc' := 22) (lc' := [(6, (0, 0, ((i : Int) + 1))), (5, (0, 0, (v5 + (f_X3_flag 0 M)))), (7, (0, 0, y2)), (0, (2, 3, 0)), (1, (0, 0, w1)), (2, (0, 0, w2)), (3, (0, 0, w3)), (4, (0, 0, w4))]) (st' := []) (M' := M) (C' := ((True ∧ ax_r32 (v5 + (f_X3_flag 0 M))) ∧ ax_r32 ((i : Int) + 1))) (by decide +kernel) rfl ⟨⟨trivial, ⟨by omega, by omega⟩⟩, ⟨by omega, by omega⟩⟩ ?_
    refine ax_pk [3,4,5,6,7,1,0] (lc' := [(0, (2, 3, 0)), (1, (0, 0, w1)), (2, (0, 0, w2)), (3, (0, 0, w3)), (4, (0, 0, w4)), (5, (0, 0, (v5 + (f_X3_flag 0 M)))), (6, (0, 0, ((i : Int) + 1)))]) rfl ?_
    exact hkc (v5 + (f_X3_flag 0 M)) (by omega)
  · refine ax_lump ax_layM ok_kX3 [(69, .iload 7, 2, 0, 0, 0)] (pc' := 71) (lc' := [(7, (0, 0, y2)), (0, (2, 3, 0)), (1, (0, 0, w1)), (2, (0, 0, w2)), (3, (0, 0, w3)), (4, (0, 0, w4)), (5, (0, 0, v5)), (6, (0, 0, (i : Int)))]) (st' := [(0, 0, y2), (0, 0, v5)]) (M' := M) (C' := True) (by decide +kernel) rfl trivial ?_
    refine ax_zgt (off := 15) (tgt := 86) (by decide +kernel) (by decide) (fun h6 => ?_) (fun h6 => ?_)
    · refine ax_lump ax_layM ok_kX3 [(86, .iconst 1, 1, 0, 0, 0), (87, .goto 4, 3, 91, 0, 0)] (pc' := 91) (lc' := [(7, (0, 0, y2)), (0, (2, 3, 0)), (1, (0, 0, w1)), (2, (0, 0, w2)), (3, (0, 0, w3)), (4, (0, 0, w4)), (5, (0, 0, v5)), (6, (0, 0, (i : Int)))]) (st' := [(0, 0, 1), (0, 0, v5)]) (M' := M) (C' := True) (by decide +kernel) rfl trivial ?_
      refine ax_cSi (G1 := gX3_flag) (d1 := d + 0) (i := 44) (n := 1) (as := [(0, 0, 1)]) (st := [(0, 0, v5)]) (by decide +kernel) calX3_flag (by omega) rfl wt_904 wt_905 (Nat.le_of_ble_eq_true rfl) rfl (c_X3_flag d 1 M (by omega)) (fun hc7 => ?_)
      refine ax_lump ax_layM ok_kX3 [(94, .iadd, 1, 1, 0, 0), (95, .istore 5, 2, 0, 0, 0), (97, .iinc 6 1, 3, 1, 0, 0), (100, .goto (-78), 3, 22, 0, 0)] (pc' := 22) (lc' := [(6, (0, 0, ((i : Int) + 1))), (5, (0, 0, (v5 + (f_X3_flag 1 M)))), (7, (0, 0, y2)), (0, (2, 3, 0)), (1, (0, 0, w1)), (2, (0, 0, w2)), (3, (0, 0, w3)), (4, (0, 0, w4))]) (st' := []) (M' := M) (C' := ((True ∧ ax_r32 (v5 + (f_X3_flag 1 M))) ∧ ax_r32 ((i : Int) + 1))) (by decide +kernel) rfl ⟨⟨trivial, ⟨by omega, by omega⟩⟩, ⟨by omega, by omega⟩⟩ ?_
      refine ax_pk [3,4,5,6,7,1,0] (lc' := [(0, (2, 3, 0)), (1, (0, 0, w1)), (2, (0, 0, w2)), (3, (0, 0, w3)), (4, (0, 0, w4)), (5, (0, 0, (v5 + (f_X3_flag 1 M)))), (6, (0, 0, ((i : Int) + 1)))]) rfl ?_
      exact hkc (v5 + (f_X3_flag 1 M)) (by omega)
    · refine ax_lump ax_layM ok_kX3 [(74, .iload 7, 2, 0, 0, 0)] (pc' := 76) (lc' := [(7, (0, 0, y2)), (0, (2, 3, 0)), (1, (0, 0, w1)), (2, (0, 0, w2)), (3, (0, 0, w3)), (4, (0, 0, w4)), (5, (0, 0, v5)), (6, (0, 0, (i : Int)))]) (st' := [(0, 0, y2), (0, 0, v5)]) (M' := M) (C' := True) (by decide +kernel) rfl trivial ?_
      refine ax_zne (off := 14) (tgt := 90) (by decide +kernel) (by decide) (fun h8 => ?_) (fun h8 => ?_)
      · refine ax_lump ax_layM ok_kX3 [(90, .iconst 0, 1, 0, 0, 0)] (pc' := 91) (lc' := [(7, (0, 0, y2)), (0, (2, 3, 0)), (1, (0, 0, w1)), (2, (0, 0, w2)), (3, (0, 0, w3)), (4, (0, 0, w4)), (5, (0, 0, v5)), (6, (0, 0, (i : Int)))]) (st' := [(0, 0, 0), (0, 0, v5)]) (M' := M) (C' := True) (by decide +kernel) rfl trivial ?_
        refine ax_cSi (G1 := gX3_flag) (d1 := d + 0) (i := 44) (n := 1) (as := [(0, 0, 0)]) (st := [(0, 0, v5)]) (by decide +kernel) calX3_flag (by omega) rfl wt_904 wt_905 (Nat.le_of_ble_eq_true rfl) rfl (c_X3_flag d 0 M (by omega)) (fun hc9 => ?_)
        refine ax_lump ax_layM ok_kX3 [(94, .iadd, 1, 1, 0, 0), (95, .istore 5, 2, 0, 0, 0), (97, .iinc 6 1, 3, 1, 0, 0), (100, .goto (-78), 3, 22, 0, 0)] (pc' := 22) (lc' := [(6, (0, 0, ((i : Int) + 1))), (5, (0, 0, (v5 + (f_X3_flag 0 M)))), (7, (0, 0, y2)), (0, (2, 3, 0)), (1, (0, 0, w1)), (2, (0, 0, w2)), (3, (0, 0, w3)), (4, (0, 0, w4))]) (st' := []) (M' := M) (C' := ((True ∧ ax_r32 (v5 + (f_X3_flag 0 M))) ∧ ax_r32 ((i : Int) + 1))) (by decide +kernel) rfl ⟨⟨trivial, ⟨by omega, by omega⟩⟩, ⟨by omega, by omega⟩⟩ ?_
        refine ax_pk [3,4,5,6,7,1,0] (lc' := [(0, (2, 3, 0)), (1, (0, 0, w1)), (2, (0, 0, w2)), (3, (0, 0, w3)), (4, (0, 0, w4)), (5, (0, 0, (v5 + (f_X3_flag 0 M)))), (6, (0, 0, ((i : Int) + 1)))]) rfl ?_
        exact hkc (v5 + (f_X3_flag 0 M)) (by omega)
      · refine ax_lump ax_layM ok_kX3 [(79, .iload 6, 2, 0, 0, 0), (81, .iload 4, 2, 0, 0, 0)] (pc' := 83) (lc' := [(7, (0, 0, y2)), (0, (2, 3, 0)), (1, (0, 0, w1)), (2, (0, 0, w2)), (3, (0, 0, w3)), (4, (0, 0, w4)), (5, (0, 0, v5)), (6, (0, 0, (i : Int)))]) (st' := [(0, 0, w4), (0, 0, (i : Int)), (0, 0, v5)]) (M' := M) (C' := True) (by decide +kernel) rfl trivial ?_
        refine ax_jge (off := 7) (tgt := 90) (by decide +kernel) (by decide) (fun h10 => ?_) (fun h10 => ?_)
        · refine ax_lump ax_layM ok_kX3 [(90, .iconst 0, 1, 0, 0, 0)] (pc' := 91) (lc' := [(7, (0, 0, y2)), (0, (2, 3, 0)), (1, (0, 0, w1)), (2, (0, 0, w2)), (3, (0, 0, w3)), (4, (0, 0, w4)), (5, (0, 0, v5)), (6, (0, 0, (i : Int)))]) (st' := [(0, 0, 0), (0, 0, v5)]) (M' := M) (C' := True) (by decide +kernel) rfl trivial ?_
          refine ax_cSi (G1 := gX3_flag) (d1 := d + 0) (i := 44) (n := 1) (as := [(0, 0, 0)]) (st := [(0, 0, v5)]) (by decide +kernel) calX3_flag (by omega) rfl wt_904 wt_905 (Nat.le_of_ble_eq_true rfl) rfl (c_X3_flag d 0 M (by omega)) (fun hc11 => ?_)
          refine ax_lump ax_layM ok_kX3 [(94, .iadd, 1, 1, 0, 0), (95, .istore 5, 2, 0, 0, 0), (97, .iinc 6 1, 3, 1, 0, 0), (100, .goto (-78), 3, 22, 0, 0)] (pc' := 22) (lc' := [(6, (0, 0, ((i : Int) + 1))), (5, (0, 0, (v5 + (f_X3_flag 0 M)))), (7, (0, 0, y2)), (0, (2, 3, 0)), (1, (0, 0, w1)), (2, (0, 0, w2)), (3, (0, 0, w3)), (4, (0, 0, w4))]) (st' := []) (M' := M) (C' := ((True ∧ ax_r32 (v5 + (f_X3_flag 0 M))) ∧ ax_r32 ((i : Int) + 1))) (by decide +kernel) rfl ⟨⟨trivial, ⟨by omega, by omega⟩⟩, ⟨by omega, by omega⟩⟩ ?_
          refine ax_pk [3,4,5,6,7,1,0] (lc' := [(0, (2, 3, 0)), (1, (0, 0, w1)), (2, (0, 0, w2)), (3, (0, 0, w3)), (4, (0, 0, w4)), (5, (0, 0, (v5 + (f_X3_flag 0 M)))), (6, (0, 0, ((i : Int) + 1)))]) rfl ?_
          exact hkc (v5 + (f_X3_flag 0 M)) (by omega)
        · refine ax_lump ax_layM ok_kX3 [(86, .iconst 1, 1, 0, 0, 0), (87, .goto 4, 3, 91, 0, 0)] (pc' := 91) (lc' := [(7, (0, 0, y2)), (0, (2, 3, 0)), (1, (0, 0, w1)), (2, (0, 0, w2)), (3, (0, 0, w3)), (4, (0, 0, w4)), (5, (0, 0, v5)), (6, (0, 0, (i : Int)))]) (st' := [(0, 0, 1), (0, 0, v5)]) (M' := M) (C' := True) (by decide +kernel) rfl trivial ?_
          refine ax_cSi (G1 := gX3_flag) (d1 := d + 0) (i := 44) (n := 1) (as := [(0, 0, 1)]) (st := [(0, 0, v5)]) (by decide +kernel) calX3_flag (by omega) rfl wt_904 wt_905 (Nat.le_of_ble_eq_true rfl) rfl (c_X3_flag d 1 M (by omega)) (fun hc12 => ?_)
          refine ax_lump ax_layM ok_kX3 [(94, .iadd, 1, 1, 0, 0), (95, .istore 5, 2, 0, 0, 0), (97, .iinc 6 1, 3, 1, 0, 0), (100, .goto (-78), 3, 22, 0, 0)] (pc' := 22) (lc' := [(6, (0, 0, ((i : Int) + 1))), (5, (0, 0, (v5 + (f_X3_flag 1 M)))), (7, (0, 0, y2)), (0, (2, 3, 0)), (1, (0, 0, w1)), (2, (0, 0, w2)), (3, (0, 0, w3)), (4, (0, 0, w4))]) (st' := []) (M' := M) (C' := ((True ∧ ax_r32 (v5 + (f_X3_flag 1 M))) ∧ ax_r32 ((i : Int) + 1))) (by decide +kernel) rfl ⟨⟨trivial, ⟨by omega, by omega⟩⟩, ⟨by omega, by omega⟩⟩ ?_
          refine ax_pk [3,4,5,6,7,1,0] (lc' := [(0, (2, 3, 0)), (1, (0, 0, w1)), (2, (0, 0, w2)), (3, (0, 0, w3)), (4, (0, 0, w4)), (5, (0, 0, (v5 + (f_X3_flag 1 M)))), (6, (0, 0, ((i : Int) + 1)))]) rfl ?_
          exact hkc (v5 + (f_X3_flag 1 M)) (by omega)
set_option maxRecDepth 100000 in
set_option maxHeartbeats 4000000 in
theorem w_X3_copyOf_L22 (d : Nat) (w1 : Int) (w2 : Int) (w3 : Int) (w4 : Int) (M : ax_M) (kx : Int → Int) (hw_w3 : (-1) ≤ w3 ∧ w3 ≤ (-1)) (hw_w4 : 0 ≤ w4 ∧ w4 ≤ 63) (hkx : ∀ (x5 : Int), ((0 ≤ x5 ∧ x5 ≤ 64)) → ax_W ax_LM gX3_copyOf (d + 1) 103 [(0, (2, 3, 0)), (1, (0, 0, w1)), (2, (0, 0, w2)), (3, (0, 0, w3)), (4, (0, 0, w4)), (5, (0, 0, x5))] [] M ((ax_qi (-1) 63 M) (kx x5))) : ∀ (n : Nat) (i : Nat) (v5 : Int), 0 ≤ i ∧ i + n = 64 → 0 ≤ v5 ∧ v5 ≤ 0 + 1 * ((i : Int) - 0) → ax_W ax_LM gX3_copyOf (d + 1) 22 [(0, (2, 3, 0)), (1, (0, 0, w1)), (2, (0, 0, w2)), (3, (0, 0, w3)), (4, (0, 0, w4)), (5, (0, 0, v5)), (6, (0, 0, (i : Int)))] [] M ((ax_qi (-1) 63 M) (f_X3_copyOf_L22 w1 w2 w3 w4 M n i v5 kx)) := by
  intro n
  induction n with
  | zero =>
    intro i v5 hin hv5
    refine ax_lump ax_layM ok_kX3 [(22, .iload 6, 2, 0, 0, 0), (24, .bipush 64, 2, 0, 0, 0)] (pc' := 26) (lc' := [(0, (2, 3, 0)), (1, (0, 0, w1)), (2, (0, 0, w2)), (3, (0, 0, w3)), (4, (0, 0, w4)), (5, (0, 0, v5)), (6, (0, 0, (i : Int)))]) (st' := [(0, 0, 64), (0, 0, (i : Int))]) (M' := M) (C' := True) (by decide +kernel) rfl trivial ?_
    refine ax_icmp_ge (off := 77) (tgt := 103) (by decide +kernel) (by decide) (fun h => ?_) (fun h => ?_)
    · refine ax_pk [0,1,2,3,4,5] (lc' := [(0, (2, 3, 0)), (1, (0, 0, w1)), (2, (0, 0, w2)), (3, (0, 0, w3)), (4, (0, 0, w4)), (5, (0, 0, v5))]) rfl ?_
      exact hkx v5 (by omega)
    · exfalso; omega
  | succ n ih =>
    intro i v5 hin hv5
    refine ax_lump ax_layM ok_kX3 [(22, .iload 6, 2, 0, 0, 0), (24, .bipush 64, 2, 0, 0, 0)] (pc' := 26) (lc' := [(0, (2, 3, 0)), (1, (0, 0, w1)), (2, (0, 0, w2)), (3, (0, 0, w3)), (4, (0, 0, w4)), (5, (0, 0, v5)), (6, (0, 0, (i : Int)))]) (st' := [(0, 0, 64), (0, 0, (i : Int))]) (M' := M) (C' := True) (by decide +kernel) rfl trivial ?_
    refine ax_icmp_ge (off := 77) (tgt := 103) (by decide +kernel) (by decide) (fun h => ?_) (fun h => ?_)
    · exfalso; omega
    · exact wb_X3_copyOf_B22 d w1 w2 w3 w4 M i v5 _ kx hw_w3 hw_w4 (by omega) hv5 (fun u5 hu5 => ih (i + 1) u5 (by omega) (by omega)) hkx
def f_X3_copyOf_B5 (w1 : Int) (w2 : Int) (M : ax_M) (i : Nat) (v3 : Int) (kc : Int → Int) (kx : Int → Int) : Int := (if 0 ≤ v3 then kx v3 else f_X3_copyOf_L22 w1 w2 v3 (i : Int) M 64 0 0 (fun z13 => (if (f_X3_pageAt 7 (i : Int) M) ≠ w1 then kc v3 else (if z13 ≠ w2 then kc v3 else kc (i : Int)))))
def f_X3_copyOf_L5 (w1 : Int) (w2 : Int) (M : ax_M) : Nat → Nat → Int → (Int → Int) → Int
  | 0, i, v3, kx => kx v3
  | n + 1, i, v3, kx => f_X3_copyOf_B5 w1 w2 M i v3 (fun u3 => f_X3_copyOf_L5 w1 w2 M n (i + 1) u3 kx) kx
set_option maxRecDepth 100000 in
set_option maxHeartbeats 4000000 in
theorem wb_X3_copyOf_B5 (d : Nat) (w1 : Int) (w2 : Int) (M : ax_M) (i : Nat) (v3 : Int) (kc : Int → Int) (kx : Int → Int)  (hi : 0 ≤ i ∧ i < 64) (hv3 : (-1) ≤ v3 ∧ v3 ≤ 63) (hkc : ∀ (u3 : Int), (-1) ≤ u3 ∧ u3 ≤ 63 → ax_W ax_LM gX3_copyOf (d + 1) 5 [(0, (2, 3, 0)), (1, (0, 0, w1)), (2, (0, 0, w2)), (3, (0, 0, u3)), (4, (0, 0, ((i : Int) + 1)))] [] M ((ax_qi (-1) 63 M) (kc u3))) (hkx : ∀ (x3 : Int), (((-1) ≤ x3 ∧ x3 ≤ 63)) → ax_W ax_LM gX3_copyOf (d + 1) 135 [(3, (0, 0, x3))] [] M ((ax_qi (-1) 63 M) (kx x3))) : ax_W ax_LM gX3_copyOf (d + 1) 12 [(0, (2, 3, 0)), (1, (0, 0, w1)), (2, (0, 0, w2)), (3, (0, 0, v3)), (4, (0, 0, (i : Int)))] [] M ((ax_qi (-1) 63 M) (f_X3_copyOf_B5 w1 w2 M i v3 kc kx)) := by
  unfold f_X3_copyOf_B5
  refine ax_lump ax_layM ok_kX3 [(12, .iload_n 3, 1, 0, 0, 0)] (pc' := 13) (lc' := [(0, (2, 3, 0)), (1, (0, 0, w1)), (2, (0, 0, w2)), (3, (0, 0, v3)), (4, (0, 0, (i : Int)))]) (st' := [(0, 0, v3)]) (M' := M) (C' := True) (by decide +kernel) rfl trivial ?_
  refine ax_zge (off := 122) (tgt := 135) (by decide +kernel) (by decide) (fun h1 => ?_) (fun h1 => ?_)
  · refine ax_pk [3] (lc' := [(3, (0, 0, v3))]) rfl ?_
    exact hkx v3 (by omega)
  · refine ax_lump ax_layM ok_kX3 [(16, .iconst 0, 1, 0, 0, 0), (17, .istore 5, 2, 0, 0, 0), (19, .iconst 0, 1, 0, 0, 0), (20, .istore 6, 2, 0, 0, 0)] (pc' := 22) (lc' := [(6, (0, 0, 0)), (5, (0, 0, 0)), (0, (2, 3, 0)), (1, (0, 0, w1)), (2, (0, 0, w2)), (3, (0, 0, v3)), (4, (0, 0, (i : Int)))]) (st' := []) (M' := M) (C' := True) (by decide +kernel) rfl trivial ?_
    refine ax_pk [2,3,4,5,6,1,0] (lc' := [(0, (2, 3, 0)), (1, (0, 0, w1)), (2, (0, 0, w2)), (3, (0, 0, v3)), (4, (0, 0, (i : Int))), (5, (0, 0, 0)), (6, (0, 0, 0))]) rfl ?_
    refine w_X3_copyOf_L22 d w1 w2 v3 (i : Int) M _ (by omega) (by omega) (fun z13 hx_13 => ?_) 64 0 0 (by omega) (by omega)
    refine ax_lump ax_layM ok_kX3 [(103, .aload_n 0, 1, 0, 0, 0), (104, .getfield 138, 3, 3, 14, 0), (107, .iload 4, 2, 0, 0, 0)] (pc' := 109) (lc' := [(0, (2, 3, 0)), (1, (0, 0, w1)), (2, (0, 0, w2)), (3, (0, 0, v3)), (4, (0, 0, (i : Int))), (5, (0, 0, z13))]) (st' := [(0, 0, (i : Int)), (3, 274, 7)]) (M' := M) (C' := True) (by decide +kernel) rfl trivial ?_
    refine ax_cSi (G1 := gX3_pageAt) (d1 := d + 0) (i := 188) (n := 2) (as := [(3, 274, 7), (0, 0, (i : Int))]) (st := []) (by decide +kernel) calX3_pageAt (by omega) rfl wt_1104 wt_1105 (Nat.le_of_ble_eq_true rfl) rfl (c_X3_pageAt d 7 (i : Int) M (by omega)) (fun hc14 => ?_)
    refine ax_lump ax_layM ok_kX3 [(112, .iload_n 1, 1, 0, 0, 0)] (pc' := 113) (lc' := [(0, (2, 3, 0)), (1, (0, 0, w1)), (2, (0, 0, w2)), (3, (0, 0, v3)), (4, (0, 0, (i : Int))), (5, (0, 0, z13))]) (st' := [(0, 0, w1), (0, 0, (f_X3_pageAt 7 (i : Int) M))]) (M' := M) (C' := True) (by decide +kernel) rfl trivial ?_
    refine ax_jne (off := 14) (tgt := 127) (by decide +kernel) (by decide) (fun h15 => ?_) (fun h15 => ?_)
    · refine ax_lump ax_layM ok_kX3 [(127, .iload_n 3, 1, 0, 0, 0), (128, .istore_n 3, 1, 0, 0, 0), (129, .iinc 4 1, 3, 1, 0, 0), (132, .goto (-127), 3, 5, 0, 0)] (pc' := 5) (lc' := [(4, (0, 0, ((i : Int) + 1))), (3, (0, 0, v3)), (0, (2, 3, 0)), (1, (0, 0, w1)), (2, (0, 0, w2)), (5, (0, 0, z13))]) (st' := []) (M' := M) (C' := (True ∧ ax_r32 ((i : Int) + 1))) (by decide +kernel) rfl ⟨trivial, ⟨by omega, by omega⟩⟩ ?_
      refine ax_pk [2,3,4,1,0] (lc' := [(0, (2, 3, 0)), (1, (0, 0, w1)), (2, (0, 0, w2)), (3, (0, 0, v3)), (4, (0, 0, ((i : Int) + 1)))]) rfl ?_
      exact hkc v3 (by omega)
    · refine ax_lump ax_layM ok_kX3 [(116, .iload 5, 2, 0, 0, 0), (118, .iload_n 2, 1, 0, 0, 0)] (pc' := 119) (lc' := [(0, (2, 3, 0)), (1, (0, 0, w1)), (2, (0, 0, w2)), (3, (0, 0, v3)), (4, (0, 0, (i : Int))), (5, (0, 0, z13))]) (st' := [(0, 0, w2), (0, 0, z13)]) (M' := M) (C' := True) (by decide +kernel) rfl trivial ?_
      refine ax_jne (off := 8) (tgt := 127) (by decide +kernel) (by decide) (fun h16 => ?_) (fun h16 => ?_)
      · refine ax_lump ax_layM ok_kX3 [(127, .iload_n 3, 1, 0, 0, 0), (128, .istore_n 3, 1, 0, 0, 0), (129, .iinc 4 1, 3, 1, 0, 0), (132, .goto (-127), 3, 5, 0, 0)] (pc' := 5) (lc' := [(4, (0, 0, ((i : Int) + 1))), (3, (0, 0, v3)), (0, (2, 3, 0)), (1, (0, 0, w1)), (2, (0, 0, w2)), (5, (0, 0, z13))]) (st' := []) (M' := M) (C' := (True ∧ ax_r32 ((i : Int) + 1))) (by decide +kernel) rfl ⟨trivial, ⟨by omega, by omega⟩⟩ ?_
        refine ax_pk [2,3,4,1,0] (lc' := [(0, (2, 3, 0)), (1, (0, 0, w1)), (2, (0, 0, w2)), (3, (0, 0, v3)), (4, (0, 0, ((i : Int) + 1)))]) rfl ?_
        exact hkc v3 (by omega)
      · refine ax_lump ax_layM ok_kX3 [(122, .iload 4, 2, 0, 0, 0), (124, .goto 4, 3, 128, 0, 0), (128, .istore_n 3, 1, 0, 0, 0), (129, .iinc 4 1, 3, 1, 0, 0), (132, .goto (-127), 3, 5, 0, 0)] (pc' := 5) (lc' := [(4, (0, 0, ((i : Int) + 1))), (3, (0, 0, (i : Int))), (0, (2, 3, 0)), (1, (0, 0, w1)), (2, (0, 0, w2)), (5, (0, 0, z13))]) (st' := []) (M' := M) (C' := (True ∧ ax_r32 ((i : Int) + 1))) (by decide +kernel) rfl ⟨trivial, ⟨by omega, by omega⟩⟩ ?_
        refine ax_pk [2,3,4,1,0] (lc' := [(0, (2, 3, 0)), (1, (0, 0, w1)), (2, (0, 0, w2)), (3, (0, 0, (i : Int))), (4, (0, 0, ((i : Int) + 1)))]) rfl ?_
        exact hkc (i : Int) (by omega)
set_option maxRecDepth 100000 in
set_option maxHeartbeats 4000000 in
theorem w_X3_copyOf_L5 (d : Nat) (w1 : Int) (w2 : Int) (M : ax_M) (kx : Int → Int)  (hkx : ∀ (x3 : Int), (((-1) ≤ x3 ∧ x3 ≤ 63)) → ax_W ax_LM gX3_copyOf (d + 1) 135 [(3, (0, 0, x3))] [] M ((ax_qi (-1) 63 M) (kx x3))) : ∀ (n : Nat) (i : Nat) (v3 : Int), 0 ≤ i ∧ i + n = 64 → (-1) ≤ v3 ∧ v3 ≤ 63 → ax_W ax_LM gX3_copyOf (d + 1) 5 [(0, (2, 3, 0)), (1, (0, 0, w1)), (2, (0, 0, w2)), (3, (0, 0, v3)), (4, (0, 0, (i : Int)))] [] M ((ax_qi (-1) 63 M) (f_X3_copyOf_L5 w1 w2 M n i v3 kx)) := by
  intro n
  induction n with
  | zero =>
    intro i v3 hin hv3
    refine ax_lump ax_layM ok_kX3 [(5, .iload 4, 2, 0, 0, 0), (7, .bipush 64, 2, 0, 0, 0)] (pc' := 9) (lc' := [(0, (2, 3, 0)), (1, (0, 0, w1)), (2, (0, 0, w2)), (3, (0, 0, v3)), (4, (0, 0, (i : Int)))]) (st' := [(0, 0, 64), (0, 0, (i : Int))]) (M' := M) (C' := True) (by decide +kernel) rfl trivial ?_
    refine ax_icmp_ge (off := 126) (tgt := 135) (by decide +kernel) (by decide) (fun h => ?_) (fun h => ?_)
    · refine ax_pk [3] (lc' := [(3, (0, 0, v3))]) rfl ?_
      exact hkx v3 (by omega)
    · exfalso; omega
  | succ n ih =>
    intro i v3 hin hv3
    refine ax_lump ax_layM ok_kX3 [(5, .iload 4, 2, 0, 0, 0), (7, .bipush 64, 2, 0, 0, 0)] (pc' := 9) (lc' := [(0, (2, 3, 0)), (1, (0, 0, w1)), (2, (0, 0, w2)), (3, (0, 0, v3)), (4, (0, 0, (i : Int)))]) (st' := [(0, 0, 64), (0, 0, (i : Int))]) (M' := M) (C' := True) (by decide +kernel) rfl trivial ?_
    refine ax_icmp_ge (off := 126) (tgt := 135) (by decide +kernel) (by decide) (fun h => ?_) (fun h => ?_)
    · exfalso; omega
    · exact wb_X3_copyOf_B5 d w1 w2 M i v3 _ kx  (by omega) hv3 (fun u3 hu3 => ih (i + 1) u3 (by omega) hu3) hkx
def f_X3_copyOf (x1 : Int) (x2 : Int) (M : ax_M) : Int := f_X3_copyOf_L5 x1 x2 M 64 0 (-1) (fun z17 => z17)
set_option maxRecDepth 100000 in
set_option maxHeartbeats 4000000 in
theorem c_X3_copyOf (d : Nat) (x1 : Int) (x2 : Int) (M : ax_M)  : ax_Met ax_LM gX3_copyOf (d + 1) [(2, 3, 0), (0, 0, x1), (0, 0, x2)] M ((ax_qi (-1) 63 M) (f_X3_copyOf x1 x2 M)) := by
  refine ax_body (by decide) (fun X => Nat.le_of_ble_eq_true rfl) (fun hok => ?_)
  have hr_x1 : (-2147483648) ≤ x1 ∧ x1 ≤ 2147483647 := hok (0, 0, x1) (by simp)
  have hr_x2 : (-2147483648) ≤ x2 ∧ x2 ≤ 2147483647 := hok (0, 0, x2) (by simp)
  show ax_W ax_LM gX3_copyOf (d + 1) 0 [(0, (2, 3, 0)), (1, (0, 0, x1)), (2, (0, 0, x2))] [] M _
  unfold f_X3_copyOf
  refine ax_lump ax_layM ok_kX3 [(0, .iconst (-1), 1, 0, 0, 0), (1, .istore_n 3, 1, 0, 0, 0), (2, .iconst 0, 1, 0, 0, 0), (3, .istore 4, 2, 0, 0, 0)] (pc' := 5) (lc' := [(4, (0, 0, 0)), (3, (0, 0, (-1))), (0, (2, 3, 0)), (1, (0, 0, x1)), (2, (0, 0, x2))]) (st' := []) (M' := M) (C' := True) (by decide +kernel) rfl trivial ?_
  refine ax_pk [2,3,4,1,0] (lc' := [(0, (2, 3, 0)), (1, (0, 0, x1)), (2, (0, 0, x2)), (3, (0, 0, (-1))), (4, (0, 0, 0))]) rfl ?_
  refine w_X3_copyOf_L5 d x1 x2 M _  (fun z17 hx_17 => ?_) 64 0 (-1) (by omega) (by omega)
  refine ax_lump ax_layM ok_kX3 [(135, .iload_n 3, 1, 0, 0, 0)] (pc' := 136) (lc' := [(3, (0, 0, z17))]) (st' := [(0, 0, z17)]) (M' := M) (C' := True) (by decide +kernel) rfl trivial ?_
  exact ax_iret (by decide +kernel) rfl ⟨rfl, rfl, (show ((-1) : Int) ≤ z17 from by omega), (show z17 ≤ (63 : Int) from by omega)⟩
def f_X3_stale_B9  (M : ax_M) (i : Nat) (v1 : Int) (kc : Int → Prop × Int × ax_M) (kx : Int → Prop × Int × ax_M) : Prop × Int × ax_M := (if (f_X3_staleIn 7 (i : Int) M) ≤ (f_X3_staleIn 7 v1 M) then kc v1 else kc (i : Int))
def f_X3_stale_L9  (M : ax_M) : Nat → Nat → Int → (Int → Prop × Int × ax_M) → Prop × Int × ax_M
  | 0, i, v1, kx => kx v1
  | n + 1, i, v1, kx => f_X3_stale_B9  M i v1 (fun u1 => f_X3_stale_L9  M n (i + 1) u1 kx) kx
set_option maxRecDepth 100000 in
set_option maxHeartbeats 4000000 in
theorem wb_X3_stale_B9 (d : Nat)  (M : ax_M) (i : Nat) (v1 : Int) (kc : Int → Prop × Int × ax_M) (kx : Int → Prop × Int × ax_M)  (hi : 0 ≤ i ∧ i < 16) (hv1 : 0 ≤ v1 ∧ v1 ≤ 15) (hkc : ∀ (u1 : Int), 0 ≤ u1 ∧ u1 ≤ 15 → (kc u1).1 → ax_W ax_LM gX3_stale (d + 6) 9 [(0, (2, 3, 0)), (1, (0, 0, u1)), (2, (0, 0, ((i : Int) + 1)))] [] M ((ax_qm 0 64) (kc u1).2)) (hkx : ∀ (x1 : Int), ((0 ≤ x1 ∧ x1 ≤ 15)) → (kx x1).1 → ax_W ax_LM gX3_stale (d + 6) 46 [(0, (2, 3, 0)), (1, (0, 0, x1))] [] M ((ax_qm 0 64) (kx x1).2)) (hX : (f_X3_stale_B9  M i v1 kc kx).1) : ax_W ax_LM gX3_stale (d + 6) 15 [(0, (2, 3, 0)), (1, (0, 0, v1)), (2, (0, 0, (i : Int)))] [] M ((ax_qm 0 64) (f_X3_stale_B9  M i v1 kc kx).2) := by
  unfold f_X3_stale_B9 at hX ⊢
  refine ax_lump ax_layM ok_kX3 [(15, .aload_n 0, 1, 0, 0, 0), (16, .getfield 138, 3, 3, 14, 0), (19, .iload_n 2, 1, 0, 0, 0)] (pc' := 20) (lc' := [(0, (2, 3, 0)), (1, (0, 0, v1)), (2, (0, 0, (i : Int)))]) (st' := [(0, 0, (i : Int)), (3, 274, 7)]) (M' := M) (C' := True) (by decide +kernel) rfl trivial ?_
  refine ax_cSi (G1 := gX3_staleIn) (d1 := d + 4) (i := 264) (n := 2) (as := [(3, 274, 7), (0, 0, (i : Int))]) (st := []) (by decide +kernel) calX3_staleIn (by omega) rfl wt_1239 wt_1240 (Nat.le_of_ble_eq_true rfl) rfl (c_X3_staleIn d 7 (i : Int) M (by omega)) (fun hc2 => ?_)
  refine ax_lump ax_layM ok_kX3 [(23, .aload_n 0, 1, 0, 0, 0), (24, .getfield 138, 3, 3, 14, 0), (27, .iload_n 1, 1, 0, 0, 0)] (pc' := 28) (lc' := [(0, (2, 3, 0)), (1, (0, 0, v1)), (2, (0, 0, (i : Int)))]) (st' := [(0, 0, v1), (3, 274, 7), (0, 0, (f_X3_staleIn 7 (i : Int) M))]) (M' := M) (C' := True) (by decide +kernel) rfl trivial ?_
  refine ax_cSi (G1 := gX3_staleIn) (d1 := d + 4) (i := 264) (n := 2) (as := [(3, 274, 7), (0, 0, v1)]) (st := [(0, 0, (f_X3_staleIn 7 (i : Int) M))]) (by decide +kernel) calX3_staleIn (by omega) rfl wt_1239 wt_1240 (Nat.le_of_ble_eq_true rfl) rfl (c_X3_staleIn d 7 v1 M (by omega)) (fun hc3 => ?_)
  refine ax_jle_s hX (off := 7) (tgt := 38) (by decide +kernel) (by decide) (fun h4 hX => ?_) (fun h4 hX => ?_)
  · refine ax_lump ax_layM ok_kX3 [(38, .iload_n 1, 1, 0, 0, 0), (39, .istore_n 1, 1, 0, 0, 0), (40, .iinc 2 1, 3, 1, 0, 0), (43, .goto (-34), 3, 9, 0, 0)] (pc' := 9) (lc' := [(2, (0, 0, ((i : Int) + 1))), (1, (0, 0, v1)), (0, (2, 3, 0))]) (st' := []) (M' := M) (C' := (True ∧ ax_r32 ((i : Int) + 1))) (by decide +kernel) rfl ⟨trivial, ⟨by omega, by omega⟩⟩ ?_
    refine ax_pk [2,1,0] (lc' := [(0, (2, 3, 0)), (1, (0, 0, v1)), (2, (0, 0, ((i : Int) + 1)))]) rfl ?_
    exact hkc v1 (by omega) hX
  · refine ax_lump ax_layM ok_kX3 [(34, .iload_n 2, 1, 0, 0, 0), (35, .goto 4, 3, 39, 0, 0), (39, .istore_n 1, 1, 0, 0, 0), (40, .iinc 2 1, 3, 1, 0, 0), (43, .goto (-34), 3, 9, 0, 0)] (pc' := 9) (lc' := [(2, (0, 0, ((i : Int) + 1))), (1, (0, 0, (i : Int))), (0, (2, 3, 0))]) (st' := []) (M' := M) (C' := (True ∧ ax_r32 ((i : Int) + 1))) (by decide +kernel) rfl ⟨trivial, ⟨by omega, by omega⟩⟩ ?_
    refine ax_pk [2,1,0] (lc' := [(0, (2, 3, 0)), (1, (0, 0, (i : Int))), (2, (0, 0, ((i : Int) + 1)))]) rfl ?_
    exact hkc (i : Int) (by omega) hX
set_option maxRecDepth 100000 in
set_option maxHeartbeats 4000000 in
theorem w_X3_stale_L9 (d : Nat)  (M : ax_M) (kx : Int → Prop × Int × ax_M)  (hkx : ∀ (x1 : Int), ((0 ≤ x1 ∧ x1 ≤ 15)) → (kx x1).1 → ax_W ax_LM gX3_stale (d + 6) 46 [(0, (2, 3, 0)), (1, (0, 0, x1))] [] M ((ax_qm 0 64) (kx x1).2)) : ∀ (n : Nat) (i : Nat) (v1 : Int), 0 ≤ i ∧ i + n = 16 → 0 ≤ v1 ∧ v1 ≤ 15 → (f_X3_stale_L9  M n i v1 kx).1 → ax_W ax_LM gX3_stale (d + 6) 9 [(0, (2, 3, 0)), (1, (0, 0, v1)), (2, (0, 0, (i : Int)))] [] M ((ax_qm 0 64) (f_X3_stale_L9  M n i v1 kx).2) := by
  intro n
  induction n with
  | zero =>
    intro i v1 hin hv1 hX
    refine ax_lump ax_layM ok_kX3 [(9, .iload_n 2, 1, 0, 0, 0), (10, .bipush 16, 2, 0, 0, 0)] (pc' := 12) (lc' := [(0, (2, 3, 0)), (1, (0, 0, v1)), (2, (0, 0, (i : Int)))]) (st' := [(0, 0, 16), (0, 0, (i : Int))]) (M' := M) (C' := True) (by decide +kernel) rfl trivial ?_
    refine ax_icmp_ge (off := 34) (tgt := 46) (by decide +kernel) (by decide) (fun h => ?_) (fun h => ?_)
    · refine ax_pk [0,1] (lc' := [(0, (2, 3, 0)), (1, (0, 0, v1))]) rfl ?_
      exact hkx v1 (by omega) hX
    · exfalso; omega
  | succ n ih =>
    intro i v1 hin hv1 hX
    refine ax_lump ax_layM ok_kX3 [(9, .iload_n 2, 1, 0, 0, 0), (10, .bipush 16, 2, 0, 0, 0)] (pc' := 12) (lc' := [(0, (2, 3, 0)), (1, (0, 0, v1)), (2, (0, 0, (i : Int)))]) (st' := [(0, 0, 16), (0, 0, (i : Int))]) (M' := M) (C' := True) (by decide +kernel) rfl trivial ?_
    refine ax_icmp_ge (off := 34) (tgt := 46) (by decide +kernel) (by decide) (fun h => ?_) (fun h => ?_)
    · exfalso; omega
    · exact wb_X3_stale_B9 d  M i v1 _ kx  (by omega) hv1 (fun u1 hu1 hX => ih (i + 1) u1 (by omega) hu1 hX) hkx hX
def f_X3_stale  (M : ax_M) : Prop × Int × ax_M := ax_bd (ax_up M 0 0 0) (fun M1 => f_X3_stale_L9  M1 16 0 0 (fun z5 => ax_bd (f_X3_staleMany 7 M1) (fun y7 => ax_bd (ax_up M1 0 1 0) (fun M8 => (if y7 ≤ 0 then (True, (y7, M8)) else ax_rc (f_X3_enters z5 M8) (fun M10 => ax_rc (f_X3_enters (f_X3_staleIn 7 z5 M10) M10) (fun M12 => (True, (y7, M12)))))))))
set_option maxRecDepth 100000 in
set_option maxHeartbeats 4000000 in
theorem c_X3_stale (d : Nat)  (M : ax_M)  (hX : (f_X3_stale  M).1) : ax_Met ax_LM gX3_stale (d + 6) [(2, 3, 0)] M ((ax_qm 0 64) (f_X3_stale  M).2) := by
  refine ax_body (by decide) (fun X => Nat.le_of_ble_eq_true rfl) (fun hok => ?_)
  show ax_W ax_LM gX3_stale (d + 6) 0 [(0, (2, 3, 0))] [] M _
  unfold f_X3_stale at hX ⊢
  refine ax_lump ax_layM ok_kX3 [(0, .aload_n 0, 1, 0, 0, 0), (1, .iconst 0, 1, 0, 0, 0), (2, .putfield 3, 3, 3, 0, 0)] (pc' := 5) (lc' := [(0, (2, 3, 0))]) (st' := []) (M' := (ax_up M 0 0 0)) (C' := (True ∧ (0 ≤ 0 ∧ 0 < ((2 : Nat) : Int)))) (by decide +kernel) rfl ⟨trivial, by omega⟩ ?_
  refine ax_bdMe_s hX (fun M1 hM_M1 hX => ?_)
  refine ax_lump ax_layM ok_kX3 [(5, .iconst 0, 1, 0, 0, 0), (6, .istore_n 1, 1, 0, 0, 0), (7, .iconst 0, 1, 0, 0, 0), (8, .istore_n 2, 1, 0, 0, 0)] (pc' := 9) (lc' := [(2, (0, 0, 0)), (1, (0, 0, 0)), (0, (2, 3, 0))]) (st' := []) (M' := M1) (C' := True) (by decide +kernel) rfl trivial ?_
  refine ax_pk [2,1,0] (lc' := [(0, (2, 3, 0)), (1, (0, 0, 0)), (2, (0, 0, 0))]) rfl ?_
  refine w_X3_stale_L9 d  M1 _  (fun z5 hx_5 hX => ?_) 16 0 0 (by omega) (by omega) hX
  refine ax_lump ax_layM ok_kX3 [(46, .aload_n 0, 1, 0, 0, 0), (47, .getfield 138, 3, 3, 14, 0)] (pc' := 50) (lc' := [(0, (2, 3, 0)), (1, (0, 0, z5))]) (st' := [(3, 274, 7)]) (M' := M1) (C' := True) (by decide +kernel) rfl trivial ?_
  refine ax_cSi (G1 := gX3_staleMany) (d1 := d + 5) (i := 276) (n := 1) (as := [(3, 274, 7)]) (st := []) (by decide +kernel) calX3_staleMany (by omega) rfl wt_1236 wt_1237 (Nat.le_of_ble_eq_true rfl) rfl (c_X3_staleMany d 7 M1) (fun hc6 => ?_)
  refine ax_lump ax_layM ok_kX3 [(53, .istore_n 2, 1, 0, 0, 0)] (pc' := 54) (lc' := [(2, (0, 0, (f_X3_staleMany 7 M1))), (0, (2, 3, 0)), (1, (0, 0, z5))]) (st' := []) (M' := M1) (C' := True) (by decide +kernel) rfl trivial ?_
  refine ax_bdI_s hX (lo := 0) (hi := 64) (e := (f_X3_staleMany 7 M1)) (fun y7 => [(2, (0, 0, y7)), (0, (2, 3, 0)), (1, (0, 0, z5))]) (fun y7 => []) (by omega) (fun y7 h_y7 hX => ?_)
  refine ax_lump ax_layM ok_kX3 [(54, .aload_n 0, 1, 0, 0, 0), (55, .iconst 0, 1, 0, 0, 0), (56, .putfield 15, 3, 3, 1, 0)] (pc' := 59) (lc' := [(2, (0, 0, y7)), (0, (2, 3, 0)), (1, (0, 0, z5))]) (st' := []) (M' := (ax_up M1 0 1 0)) (C' := (True ∧ (0 ≤ 0 ∧ 0 < ((25 : Nat) : Int)))) (by decide +kernel) rfl ⟨trivial, by omega⟩ ?_
  refine ax_bdMe_s hX (fun M8 hM_M8 hX => ?_)
  refine ax_lump ax_layM ok_kX3 [(59, .iload_n 2, 1, 0, 0, 0)] (pc' := 60) (lc' := [(2, (0, 0, y7)), (0, (2, 3, 0)), (1, (0, 0, z5))]) (st' := [(0, 0, y7)]) (M' := M8) (C' := True) (by decide +kernel) rfl trivial ?_
  refine ax_zle_s hX (off := 22) (tgt := 82) (by decide +kernel) (by decide) (fun h9 hX => ?_) (fun h9 hX => ?_)
  · refine ax_lump ax_layM ok_kX3 [(82, .iload_n 2, 1, 0, 0, 0)] (pc' := 83) (lc' := [(2, (0, 0, y7)), (0, (2, 3, 0)), (1, (0, 0, z5))]) (st' := [(0, 0, y7)]) (M' := M8) (C' := True) (by decide +kernel) rfl trivial ?_
    exact ax_iret (by decide +kernel) rfl ⟨rfl, rfl, (show (0 : Int) ≤ y7 from by omega), (show y7 ≤ (64 : Int) from by omega)⟩
  · refine ax_lump ax_layM ok_kX3 [(63, .aload_n 0, 1, 0, 0, 0), (64, .iload_n 1, 1, 0, 0, 0), (65, .i2l, 1, 0, 0, 0)] (pc' := 66) (lc' := [(2, (0, 0, y7)), (0, (2, 3, 0)), (1, (0, 0, z5))]) (st' := [(1, 0, z5), (2, 3, 0)]) (M' := M8) (C' := True) (by decide +kernel) rfl trivial ?_
    refine ax_cVv_r hX (G1 := gX3_enters) (d1 := d + 0) (i := 345) (n := 1) (as := [(1, 0, z5)]) (st := []) (c := 3) (a := 0) (by decide +kernel) ax_cls3 calX3_enters (by omega) rfl wt_1256 wt_1258 ws_98 (Nat.le_of_ble_eq_true rfl) rfl (fun hY => c_X3_enters d z5 M8 hY) (fun M10 hX => ?_)
    refine ax_lump ax_layM ok_kX3 [(69, .aload_n 0, 1, 0, 0, 0), (70, .aload_n 0, 1, 0, 0, 0), (71, .getfield 138, 3, 3, 14, 0), (74, .iload_n 1, 1, 0, 0, 0)] (pc' := 75) (lc' := [(2, (0, 0, y7)), (0, (2, 3, 0)), (1, (0, 0, z5))]) (st' := [(0, 0, z5), (3, 274, 7), (2, 3, 0)]) (M' := M10) (C' := True) (by decide +kernel) rfl trivial ?_
    refine ax_cSi (G1 := gX3_staleIn) (d1 := d + 4) (i := 264) (n := 2) (as := [(3, 274, 7), (0, 0, z5)]) (st := [(2, 3, 0)]) (by decide +kernel) calX3_staleIn (by omega) rfl wt_1239 wt_1240 (Nat.le_of_ble_eq_true rfl) rfl (c_X3_staleIn d 7 z5 M10 (by omega)) (fun hc11 => ?_)
    refine ax_lump ax_layM ok_kX3 [(78, .i2l, 1, 0, 0, 0)] (pc' := 79) (lc' := [(2, (0, 0, y7)), (0, (2, 3, 0)), (1, (0, 0, z5))]) (st' := [(1, 0, (f_X3_staleIn 7 z5 M10)), (2, 3, 0)]) (M' := M10) (C' := True) (by decide +kernel) rfl trivial ?_
    refine ax_cVv_r hX (G1 := gX3_enters) (d1 := d + 0) (i := 345) (n := 1) (as := [(1, 0, (f_X3_staleIn 7 z5 M10))]) (st := []) (c := 3) (a := 0) (by decide +kernel) ax_cls3 calX3_enters (by omega) rfl wt_1256 wt_1258 ws_98 (Nat.le_of_ble_eq_true rfl) rfl (fun hY => c_X3_enters d (f_X3_staleIn 7 z5 M10) M10 hY) (fun M12 hX => ?_)
    refine ax_lump ax_layM ok_kX3 [(82, .iload_n 2, 1, 0, 0, 0)] (pc' := 83) (lc' := [(2, (0, 0, y7)), (0, (2, 3, 0)), (1, (0, 0, z5))]) (st' := [(0, 0, y7)]) (M' := M12) (C' := True) (by decide +kernel) rfl trivial ?_
    exact ax_iret (by decide +kernel) rfl ⟨rfl, rfl, (show (0 : Int) ≤ y7 from by omega), (show y7 ≤ (64 : Int) from by omega)⟩
def f_X3_heat (x1 : Int) (M : ax_M) : Int × ax_M := ax_bd (ax_up M 0 0 0) (fun M1 => (if (f_X3_isPage x1 M1) = 0 then ((-1), M1) else ((M1 7 (240 + x1).toNat), M1)))
set_option maxRecDepth 100000 in
set_option maxHeartbeats 4000000 in
theorem c_X3_heat (d : Nat) (x1 : Int) (M : ax_M)  : ax_Met ax_LM gX3_heat (d + 2) [(2, 3, 0), (0, 0, x1)] M ((ax_qm (-2147483648) 2147483647) (f_X3_heat x1 M)) := by
  refine ax_body (by decide) (fun X => Nat.le_of_ble_eq_true rfl) (fun hok => ?_)
  have hr_x1 : (-2147483648) ≤ x1 ∧ x1 ≤ 2147483647 := hok (0, 0, x1) (by simp)
  show ax_W ax_LM gX3_heat (d + 2) 0 [(0, (2, 3, 0)), (1, (0, 0, x1))] [] M _
  unfold f_X3_heat
  refine ax_lump ax_layM ok_kX3 [(0, .aload_n 0, 1, 0, 0, 0), (1, .iconst 0, 1, 0, 0, 0), (2, .putfield 3, 3, 3, 0, 0)] (pc' := 5) (lc' := [(0, (2, 3, 0)), (1, (0, 0, x1))]) (st' := []) (M' := (ax_up M 0 0 0)) (C' := (True ∧ (0 ≤ 0 ∧ 0 < ((2 : Nat) : Int)))) (by decide +kernel) rfl ⟨trivial, by omega⟩ ?_
  refine ax_bdMe (fun M1 hM_M1 => ?_)
  refine ax_lump ax_layM ok_kX3 [(5, .iload_n 1, 1, 0, 0, 0)] (pc' := 6) (lc' := [(0, (2, 3, 0)), (1, (0, 0, x1))]) (st' := [(0, 0, x1)]) (M' := M1) (C' := True) (by decide +kernel) rfl trivial ?_
  refine ax_cSi (G1 := gX3_isPage) (d1 := d + 1) (i := 349) (n := 1) (as := [(0, 0, x1)]) (st := []) (by decide +kernel) calX3_isPage (by omega) rfl wt_1131 wt_1132 (Nat.le_of_ble_eq_true rfl) rfl (c_X3_isPage d x1 M1) (fun hc2 => ?_)
  refine ax_zeq (off := 16) (tgt := 25) (by decide +kernel) (by decide) (fun h3 => ?_) (fun h3 => ?_)
  · refine ax_lump ax_layM ok_kX3 [(25, .iconst (-1), 1, 0, 0, 0)] (pc' := 26) (lc' := [(0, (2, 3, 0)), (1, (0, 0, x1))]) (st' := [(0, 0, (-1))]) (M' := M1) (C' := True) (by decide +kernel) rfl trivial ?_
    refine ax_rngS (fun hr => ?_)
    exact ax_iret (by decide +kernel) rfl ⟨rfl, rfl, hr.1, hr.2⟩
  · have hgh3 := g_X3_isPage h3
    refine ax_lump ax_layM ok_kX3 [(12, .aload_n 0, 1, 0, 0, 0), (13, .getfield 138, 3, 3, 14, 0), (16, .sipush 240, 3, 0, 0, 0), (19, .iload_n 1, 1, 0, 0, 0), (20, .iadd, 1, 1, 0, 0), (21, .iaload, 1, 0, 0, 0), (22, .goto 4, 3, 26, 0, 0)] (pc' := 26) (lc' := [(0, (2, 3, 0)), (1, (0, 0, x1))]) (st' := [(0, 0, (M1 7 (240 + x1).toNat))]) (M' := M1) (C' := ((True ∧ ax_r32 (240 + x1)) ∧ (0 ≤ (240 + x1) ∧ (240 + x1) < ((274 : Nat) : Int)))) (by decide +kernel) rfl ⟨⟨trivial, ⟨by omega, by omega⟩⟩, by omega⟩ ?_
    refine ax_rngS (fun hr => ?_)
    exact ax_iret (by decide +kernel) rfl ⟨rfl, rfl, hr.1, hr.2⟩
def f_X3_next  (M : ax_M) : Prop × Int × ax_M := ax_bd (ax_up M 0 0 0) (fun M1 => ax_bd (f_X3_nextFree 7 M1) (fun y3 => ax_bd (ax_up M1 0 1 0) (fun M4 => ax_rc (f_X3_enters (M4 7 (224 + y3).toNat) M4) (fun M5 => ax_rc (f_X3_enters (f_X3_kindMany 7 0 M5) M5) (fun M7 => (True, (y3, M7)))))))
set_option maxRecDepth 100000 in
set_option maxHeartbeats 4000000 in
theorem c_X3_next (d : Nat)  (M : ax_M)  (hX : (f_X3_next  M).1) : ax_Met ax_LM gX3_next (d + 2) [(2, 3, 0)] M ((ax_qm (-1) 15) (f_X3_next  M).2) := by
  refine ax_body (by decide) (fun X => Nat.le_of_ble_eq_true rfl) (fun hok => ?_)
  show ax_W ax_LM gX3_next (d + 2) 0 [(0, (2, 3, 0))] [] M _
  unfold f_X3_next at hX ⊢
  refine ax_lump ax_layM ok_kX3 [(0, .aload_n 0, 1, 0, 0, 0), (1, .iconst 0, 1, 0, 0, 0), (2, .putfield 3, 3, 3, 0, 0)] (pc' := 5) (lc' := [(0, (2, 3, 0))]) (st' := []) (M' := (ax_up M 0 0 0)) (C' := (True ∧ (0 ≤ 0 ∧ 0 < ((2 : Nat) : Int)))) (by decide +kernel) rfl ⟨trivial, by omega⟩ ?_
  refine ax_bdMe_s hX (fun M1 hM_M1 hX => ?_)
  refine ax_lump ax_layM ok_kX3 [(5, .aload_n 0, 1, 0, 0, 0), (6, .getfield 138, 3, 3, 14, 0)] (pc' := 9) (lc' := [(0, (2, 3, 0))]) (st' := [(3, 274, 7)]) (M' := M1) (C' := True) (by decide +kernel) rfl trivial ?_
  refine ax_cSi (G1 := gX3_nextFree) (d1 := d + 0) (i := 220) (n := 1) (as := [(3, 274, 7)]) (st := []) (by decide +kernel) calX3_nextFree (by omega) rfl wt_1158 wt_1159 (Nat.le_of_ble_eq_true rfl) rfl (c_X3_nextFree d 7 M1) (fun hc2 => ?_)
  refine ax_lump ax_layM ok_kX3 [(12, .istore_n 1, 1, 0, 0, 0)] (pc' := 13) (lc' := [(1, (0, 0, (f_X3_nextFree 7 M1))), (0, (2, 3, 0))]) (st' := []) (M' := M1) (C' := True) (by decide +kernel) rfl trivial ?_
  refine ax_bdI_s hX (lo := (-1)) (hi := 15) (e := (f_X3_nextFree 7 M1)) (fun y3 => [(1, (0, 0, y3)), (0, (2, 3, 0))]) (fun y3 => []) (by omega) (fun y3 h_y3 hX => ?_)
  refine ax_lump ax_layM ok_kX3 [(13, .aload_n 0, 1, 0, 0, 0), (14, .iconst 0, 1, 0, 0, 0), (15, .putfield 15, 3, 3, 1, 0)] (pc' := 18) (lc' := [(1, (0, 0, y3)), (0, (2, 3, 0))]) (st' := []) (M' := (ax_up M1 0 1 0)) (C' := (True ∧ (0 ≤ 0 ∧ 0 < ((25 : Nat) : Int)))) (by decide +kernel) rfl ⟨trivial, by omega⟩ ?_
  refine ax_bdMe_s hX (fun M4 hM_M4 hX => ?_)
  refine ax_lump ax_layM ok_kX3 [(18, .aload_n 0, 1, 0, 0, 0), (19, .aload_n 0, 1, 0, 0, 0), (20, .getfield 138, 3, 3, 14, 0), (23, .sipush 224, 3, 0, 0, 0), (26, .iload_n 1, 1, 0, 0, 0), (27, .iadd, 1, 1, 0, 0), (28, .iaload, 1, 0, 0, 0), (29, .i2l, 1, 0, 0, 0)] (pc' := 30) (lc' := [(1, (0, 0, y3)), (0, (2, 3, 0))]) (st' := [(1, 0, (M4 7 (224 + y3).toNat)), (2, 3, 0)]) (M' := M4) (C' := ((True ∧ ax_r32 (224 + y3)) ∧ (0 ≤ (224 + y3) ∧ (224 + y3) < ((274 : Nat) : Int)))) (by decide +kernel) rfl ⟨⟨trivial, ⟨by omega, by omega⟩⟩, by omega⟩ ?_
  refine ax_cVv_r hX (G1 := gX3_enters) (d1 := d + 0) (i := 345) (n := 1) (as := [(1, 0, (M4 7 (224 + y3).toNat))]) (st := []) (c := 3) (a := 0) (by decide +kernel) ax_cls3 calX3_enters (by omega) rfl wt_1256 wt_1258 ws_98 (Nat.le_of_ble_eq_true rfl) rfl (fun hY => c_X3_enters d (M4 7 (224 + y3).toNat) M4 hY) (fun M5 hX => ?_)
  refine ax_lump ax_layM ok_kX3 [(33, .aload_n 0, 1, 0, 0, 0), (34, .aload_n 0, 1, 0, 0, 0), (35, .getfield 138, 3, 3, 14, 0), (38, .iconst 0, 1, 0, 0, 0)] (pc' := 39) (lc' := [(1, (0, 0, y3)), (0, (2, 3, 0))]) (st' := [(0, 0, 0), (3, 274, 7), (2, 3, 0)]) (M' := M5) (C' := True) (by decide +kernel) rfl trivial ?_
  refine ax_cSi (G1 := gX3_kindMany) (d1 := d + 1) (i := 273) (n := 2) (as := [(3, 274, 7), (0, 0, 0)]) (st := [(2, 3, 0)]) (by decide +kernel) calX3_kindMany (by omega) rfl wt_1209 wt_1210 (Nat.le_of_ble_eq_true rfl) rfl (c_X3_kindMany d 7 0 M5) (fun hc6 => ?_)
  refine ax_lump ax_layM ok_kX3 [(42, .i2l, 1, 0, 0, 0)] (pc' := 43) (lc' := [(1, (0, 0, y3)), (0, (2, 3, 0))]) (st' := [(1, 0, (f_X3_kindMany 7 0 M5)), (2, 3, 0)]) (M' := M5) (C' := True) (by decide +kernel) rfl trivial ?_
  refine ax_cVv_r hX (G1 := gX3_enters) (d1 := d + 0) (i := 345) (n := 1) (as := [(1, 0, (f_X3_kindMany 7 0 M5))]) (st := []) (c := 3) (a := 0) (by decide +kernel) ax_cls3 calX3_enters (by omega) rfl wt_1256 wt_1258 ws_98 (Nat.le_of_ble_eq_true rfl) rfl (fun hY => c_X3_enters d (f_X3_kindMany 7 0 M5) M5 hY) (fun M7 hX => ?_)
  refine ax_lump ax_layM ok_kX3 [(46, .iload_n 1, 1, 0, 0, 0)] (pc' := 47) (lc' := [(1, (0, 0, y3)), (0, (2, 3, 0))]) (st' := [(0, 0, y3)]) (M' := M7) (C' := True) (by decide +kernel) rfl trivial ?_
  exact ax_iret (by decide +kernel) rfl ⟨rfl, rfl, (show ((-1) : Int) ≤ y3 from by omega), (show y3 ≤ (15 : Int) from by omega)⟩
def f_X3_logs_B35 (w1 : Int) (w2 : Int) (i : Int)  (M : ax_M) (kc : ax_M → Prop × Int × ax_M) (kx : ax_M → Prop × Int × ax_M) : Prop × Int × ax_M := ax_rc (f_X3_enters (f_X3_blockOf 7 (3 + w1) i M) M) (fun M8 => kc M8)
def f_X3_logs_L35 (w1 : Int) (w2 : Int) : Nat → Int → ax_M → (ax_M → Prop × Int × ax_M) → Prop × Int × ax_M
  | 0, i, M, kx => kx M
  | n + 1, i, M, kx => f_X3_logs_B35 w1 w2 i  M (fun M9 => f_X3_logs_L35 w1 w2 n (i + 1) M9 kx) kx
set_option maxRecDepth 100000 in
set_option maxHeartbeats 4000000 in
theorem wb_X3_logs_B35 (d : Nat) (w1 : Int) (w2 : Int) (i : Int)  (M : ax_M) (kc : ax_M → Prop × Int × ax_M) (kx : ax_M → Prop × Int × ax_M) (hw_w1 : 0 ≤ w1 ∧ w1 ≤ 1) (hw_w2 : 0 ≤ w2 ∧ w2 ≤ 16) (hi : 0 ≤ i ∧ i < w2)  (hkc : ∀ (M9 : ax_M), (kc M9).1 → ax_W ax_LM gX3_logs (d + 2) 35 [(0, (2, 3, 0)), (1, (0, 0, w1)), (2, (0, 0, w2)), (3, (0, 0, (i + 1)))] [] M9 ((ax_qm (-1) 16) (kc M9).2)) (hkx : ∀ (M9 : ax_M), (True) → (kx M9).1 → ax_W ax_LM gX3_logs (d + 2) 62 [(2, (0, 0, w2))] [] M9 ((ax_qm (-1) 16) (kx M9).2)) (hX : (f_X3_logs_B35 w1 w2 i  M kc kx).1) : ax_W ax_LM gX3_logs (d + 2) 40 [(0, (2, 3, 0)), (1, (0, 0, w1)), (2, (0, 0, w2)), (3, (0, 0, i))] [] M ((ax_qm (-1) 16) (f_X3_logs_B35 w1 w2 i  M kc kx).2) := by
  unfold f_X3_logs_B35 at hX ⊢
  refine ax_lump ax_layM ok_kX3 [(40, .aload_n 0, 1, 0, 0, 0), (41, .aload_n 0, 1, 0, 0, 0), (42, .getfield 138, 3, 3, 14, 0), (45, .iconst 3, 1, 0, 0, 0), (46, .iload_n 1, 1, 0, 0, 0), (47, .iadd, 1, 1, 0, 0), (48, .iload_n 3, 1, 0, 0, 0)] (pc' := 49) (lc' := [(0, (2, 3, 0)), (1, (0, 0, w1)), (2, (0, 0, w2)), (3, (0, 0, i))]) (st' := [(0, 0, i), (0, 0, (3 + w1)), (3, 274, 7), (2, 3, 0)]) (M' := M) (C' := (True ∧ ax_r32 (3 + w1))) (by decide +kernel) rfl ⟨trivial, ⟨by omega, by omega⟩⟩ ?_
  refine ax_cSi (G1 := gX3_blockOf) (d1 := d + 0) (i := 228) (n := 3) (as := [(3, 274, 7), (0, 0, (3 + w1)), (0, 0, i)]) (st := [(2, 3, 0)]) (by decide +kernel) calX3_blockOf (by omega) rfl wt_1152 wt_1153 (Nat.le_of_ble_eq_true rfl) rfl (c_X3_blockOf d 7 (3 + w1) i M) (fun hc7 => ?_)
  refine ax_lump ax_layM ok_kX3 [(52, .i2l, 1, 0, 0, 0)] (pc' := 53) (lc' := [(0, (2, 3, 0)), (1, (0, 0, w1)), (2, (0, 0, w2)), (3, (0, 0, i))]) (st' := [(1, 0, (f_X3_blockOf 7 (3 + w1) i M)), (2, 3, 0)]) (M' := M) (C' := True) (by decide +kernel) rfl trivial ?_
  refine ax_cVv_r hX (G1 := gX3_enters) (d1 := d + 0) (i := 345) (n := 1) (as := [(1, 0, (f_X3_blockOf 7 (3 + w1) i M))]) (st := []) (c := 3) (a := 0) (by decide +kernel) ax_cls3 calX3_enters (by omega) rfl wt_1256 wt_1258 ws_98 (Nat.le_of_ble_eq_true rfl) rfl (fun hY => c_X3_enters d (f_X3_blockOf 7 (3 + w1) i M) M hY) (fun M8 hX => ?_)
  refine ax_lump ax_layM ok_kX3 [(56, .iinc 3 1, 3, 1, 0, 0), (59, .goto (-24), 3, 35, 0, 0)] (pc' := 35) (lc' := [(3, (0, 0, (i + 1))), (0, (2, 3, 0)), (1, (0, 0, w1)), (2, (0, 0, w2))]) (st' := []) (M' := M8) (C' := (True ∧ ax_r32 (i + 1))) (by decide +kernel) rfl ⟨trivial, ⟨by omega, by omega⟩⟩ ?_
  refine ax_pk [1,2,3,0] (lc' := [(0, (2, 3, 0)), (1, (0, 0, w1)), (2, (0, 0, w2)), (3, (0, 0, (i + 1)))]) rfl ?_
  exact hkc M8  hX
set_option maxRecDepth 100000 in
set_option maxHeartbeats 4000000 in
theorem w_X3_logs_L35 (d : Nat) (w1 : Int) (w2 : Int) (kx : ax_M → Prop × Int × ax_M) (hw_w1 : 0 ≤ w1 ∧ w1 ≤ 1) (hw_w2 : 0 ≤ w2 ∧ w2 ≤ 16) (hkx : ∀ (M9 : ax_M), (True) → (kx M9).1 → ax_W ax_LM gX3_logs (d + 2) 62 [(2, (0, 0, w2))] [] M9 ((ax_qm (-1) 16) (kx M9).2)) : ∀ (n : Nat) (i : Int) (M : ax_M), 0 ≤ i ∧ n = (w2 - i).toNat → (f_X3_logs_L35 w1 w2 n i  M kx).1 → ax_W ax_LM gX3_logs (d + 2) 35 [(0, (2, 3, 0)), (1, (0, 0, w1)), (2, (0, 0, w2)), (3, (0, 0, i))] [] M ((ax_qm (-1) 16) (f_X3_logs_L35 w1 w2 n i  M kx).2) := by
  intro n
  induction n with
  | zero =>
    intro i M hin hX
    refine ax_lump ax_layM ok_kX3 [(35, .iload_n 3, 1, 0, 0, 0), (36, .iload_n 2, 1, 0, 0, 0)] (pc' := 37) (lc' := [(0, (2, 3, 0)), (1, (0, 0, w1)), (2, (0, 0, w2)), (3, (0, 0, i))]) (st' := [(0, 0, w2), (0, 0, i)]) (M' := M) (C' := True) (by decide +kernel) rfl trivial ?_
    refine ax_icmp_ge (off := 25) (tgt := 62) (by decide +kernel) (by decide) (fun h => ?_) (fun h => ?_)
    · refine ax_pk [2] (lc' := [(2, (0, 0, w2))]) rfl ?_
      exact hkx M trivial hX
    · exfalso; omega
  | succ n ih =>
    intro i M hin hX
    refine ax_lump ax_layM ok_kX3 [(35, .iload_n 3, 1, 0, 0, 0), (36, .iload_n 2, 1, 0, 0, 0)] (pc' := 37) (lc' := [(0, (2, 3, 0)), (1, (0, 0, w1)), (2, (0, 0, w2)), (3, (0, 0, i))]) (st' := [(0, 0, w2), (0, 0, i)]) (M' := M) (C' := True) (by decide +kernel) rfl trivial ?_
    refine ax_icmp_ge (off := 25) (tgt := 62) (by decide +kernel) (by decide) (fun h => ?_) (fun h => ?_)
    · exfalso; omega
    · exact wb_X3_logs_B35 d w1 w2 i  M _ kx hw_w1 hw_w2 (by omega)  (fun M9 hX => ih (i + 1)  M9 (by omega)  hX) hkx hX
def f_X3_logs (x1 : Int) (M : ax_M) : Prop × Int × ax_M := ax_bd (ax_up M 0 0 0) (fun M1 => (if (f_X3_in x1 0 1 M1) ≠ 0 then ax_bd (f_X3_kindMany 7 (3 + x1) M1) (fun y5 => ax_bd (ax_up M1 0 1 0) (fun M6 => f_X3_logs_L35 x1 y5 (y5 - 0).toNat 0  M6 (fun M9 => (True, (y5, M9))))) else (True, ((-1), M1))))
set_option maxRecDepth 100000 in
set_option maxHeartbeats 4000000 in
theorem c_X3_logs (d : Nat) (x1 : Int) (M : ax_M)  (hX : (f_X3_logs x1 M).1) : ax_Met ax_LM gX3_logs (d + 2) [(2, 3, 0), (0, 0, x1)] M ((ax_qm (-1) 16) (f_X3_logs x1 M).2) := by
  refine ax_body (by decide) (fun X => Nat.le_of_ble_eq_true rfl) (fun hok => ?_)
  have hr_x1 : (-2147483648) ≤ x1 ∧ x1 ≤ 2147483647 := hok (0, 0, x1) (by simp)
  show ax_W ax_LM gX3_logs (d + 2) 0 [(0, (2, 3, 0)), (1, (0, 0, x1))] [] M _
  unfold f_X3_logs at hX ⊢
  refine ax_lump ax_layM ok_kX3 [(0, .aload_n 0, 1, 0, 0, 0), (1, .iconst 0, 1, 0, 0, 0), (2, .putfield 3, 3, 3, 0, 0)] (pc' := 5) (lc' := [(0, (2, 3, 0)), (1, (0, 0, x1))]) (st' := []) (M' := (ax_up M 0 0 0)) (C' := (True ∧ (0 ≤ 0 ∧ 0 < ((2 : Nat) : Int)))) (by decide +kernel) rfl ⟨trivial, by omega⟩ ?_
  refine ax_bdMe_s hX (fun M1 hM_M1 hX => ?_)
  refine ax_lump ax_layM ok_kX3 [(5, .iload_n 1, 1, 0, 0, 0), (6, .i2l, 1, 0, 0, 0), (7, .lconst 0, 1, 0, 0, 0), (8, .lconst 1, 1, 0, 0, 0)] (pc' := 9) (lc' := [(0, (2, 3, 0)), (1, (0, 0, x1))]) (st' := [(1, 0, 1), (1, 0, 0), (1, 0, x1)]) (M' := M1) (C' := True) (by decide +kernel) rfl trivial ?_
  refine ax_cSi (G1 := gX3_in) (d1 := d + 0) (i := 25) (n := 3) (as := [(1, 0, x1), (1, 0, 0), (1, 0, 1)]) (st := []) (by decide +kernel) calX3_in (by omega) rfl wt_875 wt_876 (Nat.le_of_ble_eq_true rfl) rfl (c_X3_in d x1 0 1 M1) (fun hc2 => ?_)
  refine ax_zne_s hX (off := 5) (tgt := 17) (by decide +kernel) (by decide) (fun h3 hX => ?_) (fun h3 hX => ?_)
  · have hgh3 := g_X3_in h3
    refine ax_lump ax_layM ok_kX3 [(17, .aload_n 0, 1, 0, 0, 0), (18, .getfield 138, 3, 3, 14, 0), (21, .iconst 3, 1, 0, 0, 0), (22, .iload_n 1, 1, 0, 0, 0), (23, .iadd, 1, 1, 0, 0)] (pc' := 24) (lc' := [(0, (2, 3, 0)), (1, (0, 0, x1))]) (st' := [(0, 0, (3 + x1)), (3, 274, 7)]) (M' := M1) (C' := (True ∧ ax_r32 (3 + x1))) (by decide +kernel) rfl ⟨trivial, ⟨by omega, by omega⟩⟩ ?_
    refine ax_cSi (G1 := gX3_kindMany) (d1 := d + 1) (i := 273) (n := 2) (as := [(3, 274, 7), (0, 0, (3 + x1))]) (st := []) (by decide +kernel) calX3_kindMany (by omega) rfl wt_1209 wt_1210 (Nat.le_of_ble_eq_true rfl) rfl (c_X3_kindMany d 7 (3 + x1) M1) (fun hc4 => ?_)
    refine ax_lump ax_layM ok_kX3 [(27, .istore_n 2, 1, 0, 0, 0)] (pc' := 28) (lc' := [(2, (0, 0, (f_X3_kindMany 7 (3 + x1) M1))), (0, (2, 3, 0)), (1, (0, 0, x1))]) (st' := []) (M' := M1) (C' := True) (by decide +kernel) rfl trivial ?_
    refine ax_bdI_s hX (lo := 0) (hi := 16) (e := (f_X3_kindMany 7 (3 + x1) M1)) (fun y5 => [(2, (0, 0, y5)), (0, (2, 3, 0)), (1, (0, 0, x1))]) (fun y5 => []) (by omega) (fun y5 h_y5 hX => ?_)
    refine ax_lump ax_layM ok_kX3 [(28, .aload_n 0, 1, 0, 0, 0), (29, .iconst 0, 1, 0, 0, 0), (30, .putfield 15, 3, 3, 1, 0)] (pc' := 33) (lc' := [(2, (0, 0, y5)), (0, (2, 3, 0)), (1, (0, 0, x1))]) (st' := []) (M' := (ax_up M1 0 1 0)) (C' := (True ∧ (0 ≤ 0 ∧ 0 < ((25 : Nat) : Int)))) (by decide +kernel) rfl ⟨trivial, by omega⟩ ?_
    refine ax_bdMe_s hX (fun M6 hM_M6 hX => ?_)
    refine ax_lump ax_layM ok_kX3 [(33, .iconst 0, 1, 0, 0, 0), (34, .istore_n 3, 1, 0, 0, 0)] (pc' := 35) (lc' := [(3, (0, 0, 0)), (2, (0, 0, y5)), (0, (2, 3, 0)), (1, (0, 0, x1))]) (st' := []) (M' := M6) (C' := True) (by decide +kernel) rfl trivial ?_
    refine ax_pk [2,3,1,0] (lc' := [(0, (2, 3, 0)), (1, (0, 0, x1)), (2, (0, 0, y5)), (3, (0, 0, 0))]) rfl ?_
    refine w_X3_logs_L35 d x1 y5 _ (by omega) (by omega) (fun M9 hx_9 hX => ?_) (y5 - 0).toNat 0  M6 (by omega)  hX
    refine ax_lump ax_layM ok_kX3 [(62, .iload_n 2, 1, 0, 0, 0)] (pc' := 63) (lc' := [(2, (0, 0, y5))]) (st' := [(0, 0, y5)]) (M' := M9) (C' := True) (by decide +kernel) rfl trivial ?_
    exact ax_iret (by decide +kernel) rfl ⟨rfl, rfl, (show ((-1) : Int) ≤ y5 from by omega), (show y5 ≤ (16 : Int) from by omega)⟩
  · refine ax_lump ax_layM ok_kX3 [(15, .iconst (-1), 1, 0, 0, 0)] (pc' := 16) (lc' := [(0, (2, 3, 0)), (1, (0, 0, x1))]) (st' := [(0, 0, (-1))]) (M' := M1) (C' := True) (by decide +kernel) rfl trivial ?_
    exact ax_iret (by decide +kernel) rfl ⟨rfl, rfl, (show ((-1) : Int) ≤ (-1) from by omega), (show (-1) ≤ (16 : Int) from by omega)⟩
def f_X3_copiesAll_B2  (i : Nat)  (M : ax_M) (kc : ax_M → ax_M) (kx : ax_M → ax_M) : ax_M := ax_bd (ax_up M 8 i (M 7 i)) (fun M1 => kc M1)
def f_X3_copiesAll_L2  : Nat → Nat → ax_M → (ax_M → ax_M) → ax_M
  | 0, i, M, kx => kx M
  | n + 1, i, M, kx => f_X3_copiesAll_B2  i  M (fun M9 => f_X3_copiesAll_L2  n (i + 1) M9 kx) kx
set_option maxRecDepth 100000 in
set_option maxHeartbeats 4000000 in
theorem wb_X3_copiesAll_B2 (d : Nat)  (i : Nat)  (M : ax_M) (kc : ax_M → ax_M) (kx : ax_M → ax_M)  (hi : 0 ≤ i ∧ i < 274)  (hkc : ∀ (M9 : ax_M), ax_W ax_LM gX3_copiesAll (d + 1) 2 [(0, (2, 3, 0)), (1, (0, 0, ((i : Int) + 1)))] [] M9 (ax_qv (kc M9))) (hkx : ∀ (M9 : ax_M), (True) → ax_W ax_LM gX3_copiesAll (d + 1) 27 [(0, (2, 3, 0))] [] M9 (ax_qv (kx M9))) : ax_W ax_LM gX3_copiesAll (d + 1) 9 [(0, (2, 3, 0)), (1, (0, 0, (i : Int)))] [] M (ax_qv (f_X3_copiesAll_B2  i  M kc kx)) := by
  unfold f_X3_copiesAll_B2
  refine ax_lump ax_layM ok_kX3 [(9, .aload_n 0, 1, 0, 0, 0), (10, .getfield 141, 3, 3, 15, 0), (13, .iload_n 1, 1, 0, 0, 0), (14, .aload_n 0, 1, 0, 0, 0), (15, .getfield 138, 3, 3, 14, 0), (18, .iload_n 1, 1, 0, 0, 0), (19, .iaload, 1, 0, 0, 0), (20, .iastore, 1, 0, 0, 0)] (pc' := 21) (lc' := [(0, (2, 3, 0)), (1, (0, 0, (i : Int)))]) (st' := []) (M' := (ax_up M 8 i (M 7 i))) (C' := ((True ∧ (0 ≤ (i : Int) ∧ (i : Int) < ((274 : Nat) : Int))) ∧ (0 ≤ (i : Int) ∧ (i : Int) < ((274 : Nat) : Int)))) (by decide +kernel) rfl ⟨⟨trivial, by omega⟩, by omega⟩ ?_
  refine ax_bdMe (fun M1 hM_M1 => ?_)
  refine ax_lump ax_layM ok_kX3 [(21, .iinc 1 1, 3, 1, 0, 0), (24, .goto (-22), 3, 2, 0, 0)] (pc' := 2) (lc' := [(1, (0, 0, ((i : Int) + 1))), (0, (2, 3, 0))]) (st' := []) (M' := M1) (C' := (True ∧ ax_r32 ((i : Int) + 1))) (by decide +kernel) rfl ⟨trivial, ⟨by omega, by omega⟩⟩ ?_
  refine ax_pk [1,0] (lc' := [(0, (2, 3, 0)), (1, (0, 0, ((i : Int) + 1)))]) rfl ?_
  exact hkc M1 
set_option maxRecDepth 100000 in
set_option maxHeartbeats 4000000 in
theorem w_X3_copiesAll_L2 (d : Nat)  (kx : ax_M → ax_M)  (hkx : ∀ (M9 : ax_M), (True) → ax_W ax_LM gX3_copiesAll (d + 1) 27 [(0, (2, 3, 0))] [] M9 (ax_qv (kx M9))) : ∀ (n : Nat) (i : Nat) (M : ax_M), 0 ≤ i ∧ i + n = 274 → ax_W ax_LM gX3_copiesAll (d + 1) 2 [(0, (2, 3, 0)), (1, (0, 0, (i : Int)))] [] M (ax_qv (f_X3_copiesAll_L2  n i  M kx)) := by
  intro n
  induction n with
  | zero =>
    intro i M hin
    refine ax_lump ax_layM ok_kX3 [(2, .iload_n 1, 1, 0, 0, 0), (3, .sipush 274, 3, 0, 0, 0)] (pc' := 6) (lc' := [(0, (2, 3, 0)), (1, (0, 0, (i : Int)))]) (st' := [(0, 0, 274), (0, 0, (i : Int))]) (M' := M) (C' := True) (by decide +kernel) rfl trivial ?_
    refine ax_icmp_ge (off := 21) (tgt := 27) (by decide +kernel) (by decide) (fun h => ?_) (fun h => ?_)
    · refine ax_pk [0] (lc' := [(0, (2, 3, 0))]) rfl ?_
      exact hkx M trivial
    · exfalso; omega
  | succ n ih =>
    intro i M hin
    refine ax_lump ax_layM ok_kX3 [(2, .iload_n 1, 1, 0, 0, 0), (3, .sipush 274, 3, 0, 0, 0)] (pc' := 6) (lc' := [(0, (2, 3, 0)), (1, (0, 0, (i : Int)))]) (st' := [(0, 0, 274), (0, 0, (i : Int))]) (M' := M) (C' := True) (by decide +kernel) rfl trivial ?_
    refine ax_icmp_ge (off := 21) (tgt := 27) (by decide +kernel) (by decide) (fun h => ?_) (fun h => ?_)
    · exfalso; omega
    · exact wb_X3_copiesAll_B2 d  i  M _ kx  (by omega)  (fun M9 => ih (i + 1)  M9 (by omega) ) hkx
def f_X3_copiesAll  (M : ax_M) : ax_M := f_X3_copiesAll_L2  274 0  M (fun M2 => ax_bd (f_X3_marks 8 M2) (fun M3 => M3))
set_option maxRecDepth 100000 in
set_option maxHeartbeats 4000000 in
theorem c_X3_copiesAll (d : Nat)  (M : ax_M)  : ax_Met ax_LM gX3_copiesAll (d + 1) [(2, 3, 0)] M (ax_qv (f_X3_copiesAll  M)) := by
  refine ax_body (by decide) (fun X => Nat.le_of_ble_eq_true rfl) (fun hok => ?_)
  show ax_W ax_LM gX3_copiesAll (d + 1) 0 [(0, (2, 3, 0))] [] M _
  unfold f_X3_copiesAll
  refine ax_lump ax_layM ok_kX3 [(0, .iconst 0, 1, 0, 0, 0), (1, .istore_n 1, 1, 0, 0, 0)] (pc' := 2) (lc' := [(1, (0, 0, 0)), (0, (2, 3, 0))]) (st' := []) (M' := M) (C' := True) (by decide +kernel) rfl trivial ?_
  refine ax_pk [1,0] (lc' := [(0, (2, 3, 0)), (1, (0, 0, 0))]) rfl ?_
  refine w_X3_copiesAll_L2 d  _  (fun M2 hx_2 => ?_) 274 0  M (by omega) 
  refine ax_lump ax_layM ok_kX3 [(27, .aload_n 0, 1, 0, 0, 0), (28, .aload_n 0, 1, 0, 0, 0), (29, .getfield 141, 3, 3, 15, 0)] (pc' := 32) (lc' := [(0, (2, 3, 0))]) (st' := [(3, 274, 8), (2, 3, 0)]) (M' := M2) (C' := True) (by decide +kernel) rfl trivial ?_
  refine ax_cVv (G1 := gX3_marks) (d1 := d + 0) (i := 357) (n := 1) (as := [(3, 274, 8)]) (st := []) (c := 3) (a := 0) (by decide +kernel) ax_cls3 calX3_marks (by omega) rfl wt_1140 wt_1142 ws_82 (Nat.le_of_ble_eq_true rfl) rfl (c_X3_marks d 8 M2) (fun M3 => ?_)
  exact ax_vret (by decide +kernel) rfl ⟨rfl, rfl⟩
def f_X3_spreadOf (a0 : Nat) (M : ax_M) : Int := (ax_wr ((M a0 (224 + (f_X3_mostWipes a0 M)).toNat) - (M a0 (224 + (f_X3_fewestWipes a0 M)).toNat)))
set_option maxRecDepth 100000 in
set_option maxHeartbeats 4000000 in
theorem c_X3_spreadOf (d : Nat) (a0 : Nat) (M : ax_M)  : ax_Met ax_LM gX3_spreadOf (d + 1) [(3, 274, (a0 : Int))] M ((ax_qi (-2147483648) 2147483647 M) (f_X3_spreadOf a0 M)) := by
  refine ax_body (by decide) (fun X => Nat.le_of_ble_eq_true rfl) (fun hok => ?_)
  show ax_W ax_LM gX3_spreadOf (d + 1) 0 [(0, (3, 274, (a0 : Int)))] [] M _
  unfold f_X3_spreadOf
  refine ax_lump ax_layM ok_kX3 [(0, .aload_n 0, 1, 0, 0, 0), (1, .sipush 224, 3, 0, 0, 0), (4, .aload_n 0, 1, 0, 0, 0)] (pc' := 5) (lc' := [(0, (3, 274, (a0 : Int)))]) (st' := [(3, 274, (a0 : Int)), (0, 0, 224), (3, 274, (a0 : Int))]) (M' := M) (C' := True) (by decide +kernel) rfl trivial ?_
  refine ax_cSi (G1 := gX3_mostWipes) (d1 := d + 0) (i := 267) (n := 1) (as := [(3, 274, (a0 : Int))]) (st := [(0, 0, 224), (3, 274, (a0 : Int))]) (by decide +kernel) calX3_mostWipes (by omega) rfl wt_1230 wt_1231 (Nat.le_of_ble_eq_true rfl) rfl (c_X3_mostWipes d a0 M) (fun hc1 => ?_)
  refine ax_lump ax_layM ok_kX3 [(8, .iadd, 1, 1, 0, 0), (9, .iaload, 1, 0, 0, 0), (10, .aload_n 0, 1, 0, 0, 0), (11, .sipush 224, 3, 0, 0, 0), (14, .aload_n 0, 1, 0, 0, 0)] (pc' := 15) (lc' := [(0, (3, 274, (a0 : Int)))]) (st' := [(3, 274, (a0 : Int)), (0, 0, 224), (3, 274, (a0 : Int)), (0, 0, (M a0 (224 + (f_X3_mostWipes a0 M)).toNat))]) (M' := M) (C' := ((True ∧ ax_r32 (224 + (f_X3_mostWipes a0 M))) ∧ (0 ≤ (224 + (f_X3_mostWipes a0 M)) ∧ (224 + (f_X3_mostWipes a0 M)) < ((274 : Nat) : Int)))) (by decide +kernel) rfl ⟨⟨trivial, ⟨by omega, by omega⟩⟩, by omega⟩ ?_
  refine ax_cSi (G1 := gX3_fewestWipes) (d1 := d + 0) (i := 270) (n := 1) (as := [(3, 274, (a0 : Int))]) (st := [(0, 0, 224), (3, 274, (a0 : Int)), (0, 0, (M a0 (224 + (f_X3_mostWipes a0 M)).toNat))]) (by decide +kernel) calX3_fewestWipes (by omega) rfl wt_1233 wt_1234 (Nat.le_of_ble_eq_true rfl) rfl (c_X3_fewestWipes d a0 M) (fun hc2 => ?_)
  refine ax_lump ax_layM ok_kX3 [(18, .iadd, 1, 1, 0, 0), (19, .iaload, 1, 0, 0, 0), (20, .isub, 1, 0, 0, 0)] (pc' := 21) (lc' := [(0, (3, 274, (a0 : Int)))]) (st' := [(0, 0, (ax_wr ((M a0 (224 + (f_X3_mostWipes a0 M)).toNat) - (M a0 (224 + (f_X3_fewestWipes a0 M)).toNat))))]) (M' := M) (C' := ((True ∧ ax_r32 (224 + (f_X3_fewestWipes a0 M))) ∧ (0 ≤ (224 + (f_X3_fewestWipes a0 M)) ∧ (224 + (f_X3_fewestWipes a0 M)) < ((274 : Nat) : Int)))) (by decide +kernel) rfl ⟨⟨trivial, ⟨by omega, by omega⟩⟩, by omega⟩ ?_
  refine ax_rngS (fun hr => ?_)
  exact ax_iret (by decide +kernel) rfl ⟨rfl, rfl, hr.1, hr.2⟩
def f_X3_spread  (M : ax_M) : Prop × Int × ax_M := ax_bd (ax_up M 0 0 0) (fun M1 => ax_bd (ax_up M1 0 1 0) (fun M2 => ax_rc (f_X3_enters (f_X3_mostWipes 7 M2) M2) (fun M4 => ax_rc (f_X3_enters (f_X3_fewestWipes 7 M4) M4) (fun M6 => ax_rc (f_X3_enters (f_X3_allWipes 7 M6) M6) (fun M8 => (True, ((f_X3_spreadOf 7 M8), M8)))))))
set_option maxRecDepth 100000 in
set_option maxHeartbeats 4000000 in
theorem c_X3_spread (d : Nat)  (M : ax_M)  (hX : (f_X3_spread  M).1) : ax_Met ax_LM gX3_spread (d + 2) [(2, 3, 0)] M ((ax_qm (-2147483648) 2147483647) (f_X3_spread  M).2) := by
  refine ax_body (by decide) (fun X => Nat.le_of_ble_eq_true rfl) (fun hok => ?_)
  show ax_W ax_LM gX3_spread (d + 2) 0 [(0, (2, 3, 0))] [] M _
  unfold f_X3_spread at hX ⊢
  refine ax_lump ax_layM ok_kX3 [(0, .aload_n 0, 1, 0, 0, 0), (1, .iconst 0, 1, 0, 0, 0), (2, .putfield 3, 3, 3, 0, 0)] (pc' := 5) (lc' := [(0, (2, 3, 0))]) (st' := []) (M' := (ax_up M 0 0 0)) (C' := (True ∧ (0 ≤ 0 ∧ 0 < ((2 : Nat) : Int)))) (by decide +kernel) rfl ⟨trivial, by omega⟩ ?_
  refine ax_bdMe_s hX (fun M1 hM_M1 hX => ?_)
  refine ax_lump ax_layM ok_kX3 [(5, .aload_n 0, 1, 0, 0, 0), (6, .iconst 0, 1, 0, 0, 0), (7, .putfield 15, 3, 3, 1, 0)] (pc' := 10) (lc' := [(0, (2, 3, 0))]) (st' := []) (M' := (ax_up M1 0 1 0)) (C' := (True ∧ (0 ≤ 0 ∧ 0 < ((25 : Nat) : Int)))) (by decide +kernel) rfl ⟨trivial, by omega⟩ ?_
  refine ax_bdMe_s hX (fun M2 hM_M2 hX => ?_)
  refine ax_lump ax_layM ok_kX3 [(10, .aload_n 0, 1, 0, 0, 0), (11, .aload_n 0, 1, 0, 0, 0), (12, .getfield 138, 3, 3, 14, 0)] (pc' := 15) (lc' := [(0, (2, 3, 0))]) (st' := [(3, 274, 7), (2, 3, 0)]) (M' := M2) (C' := True) (by decide +kernel) rfl trivial ?_
  refine ax_cSi (G1 := gX3_mostWipes) (d1 := d + 0) (i := 267) (n := 1) (as := [(3, 274, 7)]) (st := [(2, 3, 0)]) (by decide +kernel) calX3_mostWipes (by omega) rfl wt_1230 wt_1231 (Nat.le_of_ble_eq_true rfl) rfl (c_X3_mostWipes d 7 M2) (fun hc3 => ?_)
  refine ax_lump ax_layM ok_kX3 [(18, .i2l, 1, 0, 0, 0)] (pc' := 19) (lc' := [(0, (2, 3, 0))]) (st' := [(1, 0, (f_X3_mostWipes 7 M2)), (2, 3, 0)]) (M' := M2) (C' := True) (by decide +kernel) rfl trivial ?_
  refine ax_cVv_r hX (G1 := gX3_enters) (d1 := d + 0) (i := 345) (n := 1) (as := [(1, 0, (f_X3_mostWipes 7 M2))]) (st := []) (c := 3) (a := 0) (by decide +kernel) ax_cls3 calX3_enters (by omega) rfl wt_1256 wt_1258 ws_98 (Nat.le_of_ble_eq_true rfl) rfl (fun hY => c_X3_enters d (f_X3_mostWipes 7 M2) M2 hY) (fun M4 hX => ?_)
  refine ax_lump ax_layM ok_kX3 [(22, .aload_n 0, 1, 0, 0, 0), (23, .aload_n 0, 1, 0, 0, 0), (24, .getfield 138, 3, 3, 14, 0)] (pc' := 27) (lc' := [(0, (2, 3, 0))]) (st' := [(3, 274, 7), (2, 3, 0)]) (M' := M4) (C' := True) (by decide +kernel) rfl trivial ?_
  refine ax_cSi (G1 := gX3_fewestWipes) (d1 := d + 0) (i := 270) (n := 1) (as := [(3, 274, 7)]) (st := [(2, 3, 0)]) (by decide +kernel) calX3_fewestWipes (by omega) rfl wt_1233 wt_1234 (Nat.le_of_ble_eq_true rfl) rfl (c_X3_fewestWipes d 7 M4) (fun hc5 => ?_)
  refine ax_lump ax_layM ok_kX3 [(30, .i2l, 1, 0, 0, 0)] (pc' := 31) (lc' := [(0, (2, 3, 0))]) (st' := [(1, 0, (f_X3_fewestWipes 7 M4)), (2, 3, 0)]) (M' := M4) (C' := True) (by decide +kernel) rfl trivial ?_
  refine ax_cVv_r hX (G1 := gX3_enters) (d1 := d + 0) (i := 345) (n := 1) (as := [(1, 0, (f_X3_fewestWipes 7 M4))]) (st := []) (c := 3) (a := 0) (by decide +kernel) ax_cls3 calX3_enters (by omega) rfl wt_1256 wt_1258 ws_98 (Nat.le_of_ble_eq_true rfl) rfl (fun hY => c_X3_enters d (f_X3_fewestWipes 7 M4) M4 hY) (fun M6 hX => ?_)
  refine ax_lump ax_layM ok_kX3 [(34, .aload_n 0, 1, 0, 0, 0), (35, .aload_n 0, 1, 0, 0, 0), (36, .getfield 138, 3, 3, 14, 0)] (pc' := 39) (lc' := [(0, (2, 3, 0))]) (st' := [(3, 274, 7), (2, 3, 0)]) (M' := M6) (C' := True) (by decide +kernel) rfl trivial ?_
  refine ax_cSi (G1 := gX3_allWipes) (d1 := d + 0) (i := 336) (n := 1) (as := [(3, 274, 7)]) (st := [(2, 3, 0)]) (by decide +kernel) calX3_allWipes (by omega) rfl wt_1124 wt_1125 (Nat.le_of_ble_eq_true rfl) rfl (c_X3_allWipes d 7 M6) (fun hc7 => ?_)
  refine ax_lump ax_layM ok_kX3 [(42, .i2l, 1, 0, 0, 0)] (pc' := 43) (lc' := [(0, (2, 3, 0))]) (st' := [(1, 0, (f_X3_allWipes 7 M6)), (2, 3, 0)]) (M' := M6) (C' := True) (by decide +kernel) rfl trivial ?_
  refine ax_cVv_r hX (G1 := gX3_enters) (d1 := d + 0) (i := 345) (n := 1) (as := [(1, 0, (f_X3_allWipes 7 M6))]) (st := []) (c := 3) (a := 0) (by decide +kernel) ax_cls3 calX3_enters (by omega) rfl wt_1256 wt_1258 ws_98 (Nat.le_of_ble_eq_true rfl) rfl (fun hY => c_X3_enters d (f_X3_allWipes 7 M6) M6 hY) (fun M8 hX => ?_)
  refine ax_lump ax_layM ok_kX3 [(46, .aload_n 0, 1, 0, 0, 0), (47, .getfield 138, 3, 3, 14, 0)] (pc' := 50) (lc' := [(0, (2, 3, 0))]) (st' := [(3, 274, 7)]) (M' := M8) (C' := True) (by decide +kernel) rfl trivial ?_
  refine ax_cSi (G1 := gX3_spreadOf) (d1 := d + 1) (i := 424) (n := 1) (as := [(3, 274, 7)]) (st := []) (by decide +kernel) calX3_spreadOf (by omega) rfl wt_1388 wt_1389 (Nat.le_of_ble_eq_true rfl) rfl (c_X3_spreadOf d 7 M8) (fun hc9 => ?_)
  refine ax_rngS (fun hr => ?_)
  exact ax_iret (by decide +kernel) rfl ⟨rfl, rfl, hr.1, hr.2⟩
def f_X3_valueOf (a0 : Nat) (x1 : Int) (M : ax_M) : Int := ax_bd (f_X3_latest a0 x1 M) (fun y2 => (if 0 ≤ y2 then (M a0 (64 + y2).toNat) else 100))
set_option maxRecDepth 100000 in
set_option maxHeartbeats 4000000 in
theorem c_X3_valueOf (d : Nat) (a0 : Nat) (x1 : Int) (M : ax_M)  : ax_Met ax_LM gX3_valueOf (d + 3) [(3, 274, (a0 : Int)), (0, 0, x1)] M ((ax_qi (-2147483648) 2147483647 M) (f_X3_valueOf a0 x1 M)) := by
  refine ax_body (by decide) (fun X => Nat.le_of_ble_eq_true rfl) (fun hok => ?_)
  have hr_x1 : (-2147483648) ≤ x1 ∧ x1 ≤ 2147483647 := hok (0, 0, x1) (by simp)
  show ax_W ax_LM gX3_valueOf (d + 3) 0 [(0, (3, 274, (a0 : Int))), (1, (0, 0, x1))] [] M _
  unfold f_X3_valueOf
  refine ax_lump ax_layM ok_kX3 [(0, .aload_n 0, 1, 0, 0, 0), (1, .iload_n 1, 1, 0, 0, 0)] (pc' := 2) (lc' := [(0, (3, 274, (a0 : Int))), (1, (0, 0, x1))]) (st' := [(0, 0, x1), (3, 274, (a0 : Int))]) (M' := M) (C' := True) (by decide +kernel) rfl trivial ?_
  refine ax_cSi (G1 := gX3_latest) (d1 := d + 2) (i := 199) (n := 2) (as := [(3, 274, (a0 : Int)), (0, 0, x1)]) (st := []) (by decide +kernel) calX3_latest (by omega) rfl wt_1107 wt_1108 (Nat.le_of_ble_eq_true rfl) rfl (c_X3_latest d a0 x1 M) (fun hc1 => ?_)
  refine ax_lump ax_layM ok_kX3 [(5, .istore_n 2, 1, 0, 0, 0)] (pc' := 6) (lc' := [(2, (0, 0, (f_X3_latest a0 x1 M))), (0, (3, 274, (a0 : Int))), (1, (0, 0, x1))]) (st' := []) (M' := M) (C' := True) (by decide +kernel) rfl trivial ?_
  refine ax_bdI (lo := (-1)) (hi := 63) (e := (f_X3_latest a0 x1 M)) (fun y2 => [(2, (0, 0, y2)), (0, (3, 274, (a0 : Int))), (1, (0, 0, x1))]) (fun y2 => []) (by omega) (fun y2 h_y2 => ?_)
  refine ax_lump ax_layM ok_kX3 [(6, .iload_n 2, 1, 0, 0, 0)] (pc' := 7) (lc' := [(2, (0, 0, y2)), (0, (3, 274, (a0 : Int))), (1, (0, 0, x1))]) (st' := [(0, 0, y2)]) (M' := M) (C' := True) (by decide +kernel) rfl trivial ?_
  refine ax_zge (off := 8) (tgt := 15) (by decide +kernel) (by decide) (fun h3 => ?_) (fun h3 => ?_)
  · refine ax_lump ax_layM ok_kX3 [(15, .aload_n 0, 1, 0, 0, 0), (16, .bipush 64, 2, 0, 0, 0), (18, .iload_n 2, 1, 0, 0, 0), (19, .iadd, 1, 1, 0, 0), (20, .iaload, 1, 0, 0, 0)] (pc' := 21) (lc' := [(2, (0, 0, y2)), (0, (3, 274, (a0 : Int))), (1, (0, 0, x1))]) (st' := [(0, 0, (M a0 (64 + y2).toNat))]) (M' := M) (C' := ((True ∧ ax_r32 (64 + y2)) ∧ (0 ≤ (64 + y2) ∧ (64 + y2) < ((274 : Nat) : Int)))) (by decide +kernel) rfl ⟨⟨trivial, ⟨by omega, by omega⟩⟩, by omega⟩ ?_
    refine ax_rngS (fun hr => ?_)
    exact ax_iret (by decide +kernel) rfl ⟨rfl, rfl, hr.1, hr.2⟩
  · refine ax_lump ax_layM ok_kX3 [(10, .bipush 100, 2, 0, 0, 0), (12, .goto 9, 3, 21, 0, 0)] (pc' := 21) (lc' := [(2, (0, 0, y2)), (0, (3, 274, (a0 : Int))), (1, (0, 0, x1))]) (st' := [(0, 0, 100)]) (M' := M) (C' := True) (by decide +kernel) rfl trivial ?_
    refine ax_rngS (fun hr => ?_)
    exact ax_iret (by decide +kernel) rfl ⟨rfl, rfl, hr.1, hr.2⟩
def f_X3_highest (x0 : Int) (M : ax_M) : Int := (if x0 ≠ 1 then (if x0 ≠ 3 then 4 else 5) else 9)
set_option maxRecDepth 100000 in
set_option maxHeartbeats 4000000 in
theorem c_X3_highest (d : Nat) (x0 : Int) (M : ax_M)  : ax_Met ax_LM gX3_highest (d + 0) [(0, 0, x0)] M ((ax_qi 4 9 M) (f_X3_highest x0 M)) := by
  refine ax_body (by decide) (fun X => Nat.le_of_ble_eq_true rfl) (fun hok => ?_)
  have hr_x0 : (-2147483648) ≤ x0 ∧ x0 ≤ 2147483647 := hok (0, 0, x0) (by simp)
  show ax_W ax_LM gX3_highest (d + 0) 0 [(0, (0, 0, x0))] [] M _
  unfold f_X3_highest
  refine ax_lump ax_layM ok_kX3 [(0, .iload_n 0, 1, 0, 0, 0), (1, .iconst 1, 1, 0, 0, 0)] (pc' := 2) (lc' := [(0, (0, 0, x0))]) (st' := [(0, 0, 1), (0, 0, x0)]) (M' := M) (C' := True) (by decide +kernel) rfl trivial ?_
  refine ax_jne (off := 8) (tgt := 10) (by decide +kernel) (by decide) (fun h1 => ?_) (fun h1 => ?_)
  · refine ax_lump ax_layM ok_kX3 [(10, .iload_n 0, 1, 0, 0, 0), (11, .iconst 3, 1, 0, 0, 0)] (pc' := 12) (lc' := [(0, (0, 0, x0))]) (st' := [(0, 0, 3), (0, 0, x0)]) (M' := M) (C' := True) (by decide +kernel) rfl trivial ?_
    refine ax_jne (off := 7) (tgt := 19) (by decide +kernel) (by decide) (fun h2 => ?_) (fun h2 => ?_)
    · refine ax_lump ax_layM ok_kX3 [(19, .iconst 4, 1, 0, 0, 0)] (pc' := 20) (lc' := [(0, (0, 0, x0))]) (st' := [(0, 0, 4)]) (M' := M) (C' := True) (by decide +kernel) rfl trivial ?_
      exact ax_iret (by decide +kernel) rfl ⟨rfl, rfl, (show (4 : Int) ≤ 4 from by omega), (show 4 ≤ (9 : Int) from by omega)⟩
    · refine ax_lump ax_layM ok_kX3 [(15, .iconst 5, 1, 0, 0, 0), (16, .goto 4, 3, 20, 0, 0)] (pc' := 20) (lc' := [(0, (0, 0, x0))]) (st' := [(0, 0, 5)]) (M' := M) (C' := True) (by decide +kernel) rfl trivial ?_
      exact ax_iret (by decide +kernel) rfl ⟨rfl, rfl, (show (4 : Int) ≤ 5 from by omega), (show 5 ≤ (9 : Int) from by omega)⟩
  · refine ax_lump ax_layM ok_kX3 [(5, .bipush 9, 2, 0, 0, 0), (7, .goto 13, 3, 20, 0, 0)] (pc' := 20) (lc' := [(0, (0, 0, x0))]) (st' := [(0, 0, 9)]) (M' := M) (C' := True) (by decide +kernel) rfl trivial ?_
    exact ax_iret (by decide +kernel) rfl ⟨rfl, rfl, (show (4 : Int) ≤ 9 from by omega), (show 9 ≤ (9 : Int) from by omega)⟩
def f_X3_heard (x1 : Int) (x2 : Int) (M : ax_M) : Int × ax_M := ax_bd (ax_up M 0 0 0) (fun M1 => (if (f_X3_in x1 0 3 M1) = 0 then ((-1), M1) else (if (f_X3_in x2 0 (f_X3_highest x1 M1) M1) = 0 then ((-1), M1) else (if (M1 0 32) ≠ 12 then ax_bd (ax_up M1 17 (M1 0 32).toNat x1) (fun M9 => ax_bd (ax_up M9 18 (M9 0 32).toNat x2) (fun M11 => ax_bd (ax_up M11 0 32 ((M11 0 32) + 1)) (fun M13 => ((M13 0 32), M13)))) else ((-1), M1)))))
set_option maxRecDepth 100000 in
set_option maxHeartbeats 4000000 in
theorem c_X3_heard (d : Nat) (x1 : Int) (x2 : Int) (M : ax_M)  : ax_Met ax_LM gX3_heard (d + 1) [(2, 3, 0), (0, 0, x1), (0, 0, x2)] M ((ax_qm (-1) 12) (f_X3_heard x1 x2 M)) := by
  refine ax_body (by decide) (fun X => Nat.le_of_ble_eq_true rfl) (fun hok => ?_)
  have hr_x1 : (-2147483648) ≤ x1 ∧ x1 ≤ 2147483647 := hok (0, 0, x1) (by simp)
  have hr_x2 : (-2147483648) ≤ x2 ∧ x2 ≤ 2147483647 := hok (0, 0, x2) (by simp)
  show ax_W ax_LM gX3_heard (d + 1) 0 [(0, (2, 3, 0)), (1, (0, 0, x1)), (2, (0, 0, x2))] [] M _
  unfold f_X3_heard
  refine ax_lump ax_layM ok_kX3 [(0, .aload_n 0, 1, 0, 0, 0), (1, .iconst 0, 1, 0, 0, 0), (2, .putfield 3, 3, 3, 0, 0)] (pc' := 5) (lc' := [(0, (2, 3, 0)), (1, (0, 0, x1)), (2, (0, 0, x2))]) (st' := []) (M' := (ax_up M 0 0 0)) (C' := (True ∧ (0 ≤ 0 ∧ 0 < ((2 : Nat) : Int)))) (by decide +kernel) rfl ⟨trivial, by omega⟩ ?_
  refine ax_bdMe (fun M1 hM_M1 => ?_)
  refine ax_lump ax_layM ok_kX3 [(5, .iload_n 1, 1, 0, 0, 0), (6, .i2l, 1, 0, 0, 0), (7, .lconst 0, 1, 0, 0, 0), (8, .ldc2_w 329, 3, 0, 0, 3)] (pc' := 11) (lc' := [(0, (2, 3, 0)), (1, (0, 0, x1)), (2, (0, 0, x2))]) (st' := [(1, 0, 3), (1, 0, 0), (1, 0, x1)]) (M' := M1) (C' := True) (by decide +kernel) rfl trivial ?_
  refine ax_cSi (G1 := gX3_in) (d1 := d + 0) (i := 25) (n := 3) (as := [(1, 0, x1), (1, 0, 0), (1, 0, 3)]) (st := []) (by decide +kernel) calX3_in (by omega) rfl wt_875 wt_876 (Nat.le_of_ble_eq_true rfl) rfl (c_X3_in d x1 0 3 M1) (fun hc2 => ?_)
  refine ax_zeq (off := 26) (tgt := 40) (by decide +kernel) (by decide) (fun h3 => ?_) (fun h3 => ?_)
  · refine ax_lump ax_layM ok_kX3 [(40, .iconst (-1), 1, 0, 0, 0)] (pc' := 41) (lc' := [(0, (2, 3, 0)), (1, (0, 0, x1)), (2, (0, 0, x2))]) (st' := [(0, 0, (-1))]) (M' := M1) (C' := True) (by decide +kernel) rfl trivial ?_
    exact ax_iret (by decide +kernel) rfl ⟨rfl, rfl, (show ((-1) : Int) ≤ (-1) from by omega), (show (-1) ≤ (12 : Int) from by omega)⟩
  · have hgh3 := g_X3_in h3
    refine ax_lump ax_layM ok_kX3 [(17, .iload_n 2, 1, 0, 0, 0), (18, .i2l, 1, 0, 0, 0), (19, .lconst 0, 1, 0, 0, 0), (20, .iload_n 1, 1, 0, 0, 0)] (pc' := 21) (lc' := [(0, (2, 3, 0)), (1, (0, 0, x1)), (2, (0, 0, x2))]) (st' := [(0, 0, x1), (1, 0, 0), (1, 0, x2)]) (M' := M1) (C' := True) (by decide +kernel) rfl trivial ?_
    refine ax_cSi (G1 := gX3_highest) (d1 := d + 0) (i := 434) (n := 1) (as := [(0, 0, x1)]) (st := [(1, 0, 0), (1, 0, x2)]) (by decide +kernel) calX3_highest (by omega) rfl wt_1427 wt_1428 (Nat.le_of_ble_eq_true rfl) rfl (c_X3_highest d x1 M1) (fun hc4 => ?_)
    refine ax_lump ax_layM ok_kX3 [(24, .i2l, 1, 0, 0, 0)] (pc' := 25) (lc' := [(0, (2, 3, 0)), (1, (0, 0, x1)), (2, (0, 0, x2))]) (st' := [(1, 0, (f_X3_highest x1 M1)), (1, 0, 0), (1, 0, x2)]) (M' := M1) (C' := True) (by decide +kernel) rfl trivial ?_
    refine ax_cSi (G1 := gX3_in) (d1 := d + 0) (i := 25) (n := 3) (as := [(1, 0, x2), (1, 0, 0), (1, 0, (f_X3_highest x1 M1))]) (st := []) (by decide +kernel) calX3_in (by omega) rfl wt_875 wt_876 (Nat.le_of_ble_eq_true rfl) rfl (c_X3_in d x2 0 (f_X3_highest x1 M1) M1) (fun hc5 => ?_)
    refine ax_zeq (off := 12) (tgt := 40) (by decide +kernel) (by decide) (fun h6 => ?_) (fun h6 => ?_)
    · refine ax_lump ax_layM ok_kX3 [(40, .iconst (-1), 1, 0, 0, 0)] (pc' := 41) (lc' := [(0, (2, 3, 0)), (1, (0, 0, x1)), (2, (0, 0, x2))]) (st' := [(0, 0, (-1))]) (M' := M1) (C' := True) (by decide +kernel) rfl trivial ?_
      exact ax_iret (by decide +kernel) rfl ⟨rfl, rfl, (show ((-1) : Int) ≤ (-1) from by omega), (show (-1) ≤ (12 : Int) from by omega)⟩
    · have hgh6 := g_X3_in h6
      refine ax_fact (i := 0) (c := 3) (f := 32) (hi := 12) (s := 0) (by simp) rfl rfl rfl (fun hf7 => ?_)
      have hf7 : 0 ≤ (M1 0 32) ∧ (M1 0 32) ≤ 12 := hf7
      refine ax_lump ax_layM ok_kX3 [(31, .aload_n 0, 1, 0, 0, 0), (32, .getfield 437, 3, 3, 32, 0), (35, .bipush 12, 2, 0, 0, 0)] (pc' := 37) (lc' := [(0, (2, 3, 0)), (1, (0, 0, x1)), (2, (0, 0, x2))]) (st' := [(0, 0, 12), (0, 0, (M1 0 32))]) (M' := M1) (C' := True) (by decide +kernel) rfl trivial ?_
      refine ax_jne (off := 5) (tgt := 42) (by decide +kernel) (by decide) (fun h8 => ?_) (fun h8 => ?_)
      · refine ax_lump ax_layM ok_kX3 [(42, .aload_n 0, 1, 0, 0, 0), (43, .getfield 168, 3, 3, 33, 0), (46, .aload_n 0, 1, 0, 0, 0), (47, .getfield 437, 3, 3, 32, 0), (50, .iload_n 1, 1, 0, 0, 0), (51, .iastore, 1, 0, 0, 0)] (pc' := 52) (lc' := [(0, (2, 3, 0)), (1, (0, 0, x1)), (2, (0, 0, x2))]) (st' := []) (M' := (ax_up M1 17 (M1 0 32).toNat x1)) (C' := (True ∧ (0 ≤ (M1 0 32) ∧ (M1 0 32) < ((12 : Nat) : Int)))) (by decide +kernel) rfl ⟨trivial, by omega⟩ ?_
        refine ax_bdMe (fun M9 hM_M9 => ?_)
        have hk_k10 : (M9 0 32) = (M1 0 32) := by rw [hM_M9]; exact ax_up_o1 (by omega)
        refine ax_lump ax_layM ok_kX3 [(52, .aload_n 0, 1, 0, 0, 0), (53, .getfield 171, 3, 3, 34, 0), (56, .aload_n 0, 1, 0, 0, 0), (57, .getfield 437, 3, 3, 32, 0), (60, .iload_n 2, 1, 0, 0, 0), (61, .iastore, 1, 0, 0, 0)] (pc' := 62) (lc' := [(0, (2, 3, 0)), (1, (0, 0, x1)), (2, (0, 0, x2))]) (st' := []) (M' := (ax_up M9 18 (M9 0 32).toNat x2)) (C' := (True ∧ (0 ≤ (M9 0 32) ∧ (M9 0 32) < ((12 : Nat) : Int)))) (by decide +kernel) rfl ⟨trivial, by omega⟩ ?_
        refine ax_bdMe (fun M11 hM_M11 => ?_)
        have hk_k12 : (M11 0 32) = (M9 0 32) := by rw [hM_M11]; exact ax_up_o1 (by omega)
        refine ax_lump ax_layM ok_kX3 [(62, .aload_n 0, 1, 0, 0, 0), (63, .dup, 1, 0, 0, 0), (64, .getfield 437, 3, 3, 32, 0), (67, .iconst 1, 1, 0, 0, 0), (68, .iadd, 1, 1, 0, 0), (69, .putfield 437, 3, 3, 32, 0)] (pc' := 72) (lc' := [(0, (2, 3, 0)), (1, (0, 0, x1)), (2, (0, 0, x2))]) (st' := []) (M' := (ax_up M11 0 32 ((M11 0 32) + 1))) (C' := ((True ∧ ax_r32 ((M11 0 32) + 1)) ∧ (0 ≤ ((M11 0 32) + 1) ∧ ((M11 0 32) + 1) < ((13 : Nat) : Int)))) (by decide +kernel) rfl ⟨⟨trivial, ⟨by omega, by omega⟩⟩, by omega⟩ ?_
        refine ax_bdMe (fun M13 hM_M13 => ?_)
        have hk_k14 : (M13 0 32) = ((M11 0 32) + 1) := by rw [hM_M13]; exact ax_up_s
        refine ax_lump ax_layM ok_kX3 [(72, .aload_n 0, 1, 0, 0, 0), (73, .getfield 437, 3, 3, 32, 0)] (pc' := 76) (lc' := [(0, (2, 3, 0)), (1, (0, 0, x1)), (2, (0, 0, x2))]) (st' := [(0, 0, (M13 0 32))]) (M' := M13) (C' := True) (by decide +kernel) rfl trivial ?_
        exact ax_iret (by decide +kernel) rfl ⟨rfl, rfl, (show ((-1) : Int) ≤ (M13 0 32) from by omega), (show (M13 0 32) ≤ (12 : Int) from by omega)⟩
      · refine ax_lump ax_layM ok_kX3 [(40, .iconst (-1), 1, 0, 0, 0)] (pc' := 41) (lc' := [(0, (2, 3, 0)), (1, (0, 0, x1)), (2, (0, 0, x2))]) (st' := [(0, 0, (-1))]) (M' := M1) (C' := True) (by decide +kernel) rfl trivial ?_
        exact ax_iret (by decide +kernel) rfl ⟨rfl, rfl, (show ((-1) : Int) ≤ (-1) from by omega), (show (-1) ≤ (12 : Int) from by omega)⟩
def f_X3_denies  (M : ax_M) : Int × ax_M := ax_bd (ax_up M 0 0 0) (fun M1 => ax_bd (M1 0 32) (fun y3 => ax_bd (ax_up M1 0 32 0) (fun M4 => (y3, M4))))
set_option maxRecDepth 100000 in
set_option maxHeartbeats 4000000 in
theorem c_X3_denies (d : Nat)  (M : ax_M)  : ax_Met ax_LM gX3_denies (d + 0) [(2, 3, 0)] M ((ax_qm 0 12) (f_X3_denies  M)) := by
  refine ax_body (by decide) (fun X => Nat.le_of_ble_eq_true rfl) (fun hok => ?_)
  show ax_W ax_LM gX3_denies (d + 0) 0 [(0, (2, 3, 0))] [] M _
  unfold f_X3_denies
  refine ax_lump ax_layM ok_kX3 [(0, .aload_n 0, 1, 0, 0, 0), (1, .iconst 0, 1, 0, 0, 0), (2, .putfield 3, 3, 3, 0, 0)] (pc' := 5) (lc' := [(0, (2, 3, 0))]) (st' := []) (M' := (ax_up M 0 0 0)) (C' := (True ∧ (0 ≤ 0 ∧ 0 < ((2 : Nat) : Int)))) (by decide +kernel) rfl ⟨trivial, by omega⟩ ?_
  refine ax_bdMe (fun M1 hM_M1 => ?_)
  refine ax_fact (i := 0) (c := 3) (f := 32) (hi := 12) (s := 0) (by simp) rfl rfl rfl (fun hf2 => ?_)
  have hf2 : 0 ≤ (M1 0 32) ∧ (M1 0 32) ≤ 12 := hf2
  refine ax_lump ax_layM ok_kX3 [(5, .aload_n 0, 1, 0, 0, 0), (6, .getfield 437, 3, 3, 32, 0), (9, .istore_n 1, 1, 0, 0, 0)] (pc' := 10) (lc' := [(1, (0, 0, (M1 0 32))), (0, (2, 3, 0))]) (st' := []) (M' := M1) (C' := True) (by decide +kernel) rfl trivial ?_
  refine ax_bdI (lo := 0) (hi := 12) (e := (M1 0 32)) (fun y3 => [(1, (0, 0, y3)), (0, (2, 3, 0))]) (fun y3 => []) (by omega) (fun y3 h_y3 => ?_)
  refine ax_lump ax_layM ok_kX3 [(10, .aload_n 0, 1, 0, 0, 0), (11, .iconst 0, 1, 0, 0, 0), (12, .putfield 437, 3, 3, 32, 0)] (pc' := 15) (lc' := [(1, (0, 0, y3)), (0, (2, 3, 0))]) (st' := []) (M' := (ax_up M1 0 32 0)) (C' := (True ∧ (0 ≤ 0 ∧ 0 < ((13 : Nat) : Int)))) (by decide +kernel) rfl ⟨trivial, by omega⟩ ?_
  refine ax_bdMe (fun M4 hM_M4 => ?_)
  have hk_k5 : (M4 0 32) = 0 := by rw [hM_M4]; exact ax_up_s
  refine ax_lump ax_layM ok_kX3 [(15, .iload_n 1, 1, 0, 0, 0)] (pc' := 16) (lc' := [(1, (0, 0, y3)), (0, (2, 3, 0))]) (st' := [(0, 0, y3)]) (M' := M4) (C' := True) (by decide +kernel) rfl trivial ?_
  exact ax_iret (by decide +kernel) rfl ⟨rfl, rfl, (show (0 : Int) ≤ y3 from by omega), (show y3 ≤ (12 : Int) from by omega)⟩
def f_X3_hasFolder_B5 (w1 : Int) (w2 : Int) (M : ax_M) (i : Nat) (v3 : Int) (kc : Int → Int) (kx : Int → Int) : Int := (if v3 ≠ 0 then kc 1 else (if (f_X3_isWritten 7 ((4 * w1) + (i : Int)) M) = 0 then kc 0 else (if (ax_div (f_X3_pageAt 7 ((4 * w1) + (i : Int)) M) 4) ≠ w2 then kc 0 else kc 1)))
def f_X3_hasFolder_L5 (w1 : Int) (w2 : Int) (M : ax_M) : Nat → Nat → Int → (Int → Int) → Int
  | 0, i, v3, kx => kx v3
  | n + 1, i, v3, kx => f_X3_hasFolder_B5 w1 w2 M i v3 (fun u3 => f_X3_hasFolder_L5 w1 w2 M n (i + 1) u3 kx) kx
set_option maxRecDepth 100000 in
set_option maxHeartbeats 4000000 in
theorem wb_X3_hasFolder_B5 (d : Nat) (w1 : Int) (w2 : Int) (M : ax_M) (i : Nat) (v3 : Int) (kc : Int → Int) (kx : Int → Int) (hw_w1 : 0 ≤ w1 ∧ w1 ≤ 15) (hi : 0 ≤ i ∧ i < 4) (hv3 : 0 ≤ v3 ∧ v3 ≤ 1) (hkc : ∀ (u3 : Int), 0 ≤ u3 ∧ u3 ≤ 1 → ax_W ax_LM gX3_hasFolder (d + 1) 5 [(0, (2, 3, 0)), (1, (0, 0, w1)), (2, (0, 0, w2)), (3, (0, 0, u3)), (4, (0, 0, ((i : Int) + 1)))] [] M ((ax_qi 0 1 M) (kc u3))) (hkx : ∀ (x3 : Int), ((0 ≤ x3 ∧ x3 ≤ 1)) → ax_W ax_LM gX3_hasFolder (d + 1) 62 [(3, (0, 0, x3))] [] M ((ax_qi 0 1 M) (kx x3))) : ax_W ax_LM gX3_hasFolder (d + 1) 11 [(0, (2, 3, 0)), (1, (0, 0, w1)), (2, (0, 0, w2)), (3, (0, 0, v3)), (4, (0, 0, (i : Int)))] [] M ((ax_qi 0 1 M) (f_X3_hasFolder_B5 w1 w2 M i v3 kc kx)) := by
  unfold f_X3_hasFolder_B5
  refine ax_lump ax_layM ok_kX3 [(11, .iload_n 3, 1, 0, 0, 0)] (pc' := 12) (lc' := [(0, (2, 3, 0)), (1, (0, 0, w1)), (2, (0, 0, w2)), (3, (0, 0, v3)), (4, (0, 0, (i : Int)))]) (st' := [(0, 0, v3)]) (M' := M) (C' := True) (by decide +kernel) rfl trivial ?_
  refine ax_zne (off := 38) (tgt := 50) (by decide +kernel) (by decide) (fun h1 => ?_) (fun h1 => ?_)
  · refine ax_lump ax_layM ok_kX3 [(50, .iconst 1, 1, 0, 0, 0), (51, .goto 4, 3, 55, 0, 0), (55, .istore_n 3, 1, 0, 0, 0), (56, .iinc 4 1, 3, 1, 0, 0), (59, .goto (-54), 3, 5, 0, 0)] (pc' := 5) (lc' := [(4, (0, 0, ((i : Int) + 1))), (3, (0, 0, 1)), (0, (2, 3, 0)), (1, (0, 0, w1)), (2, (0, 0, w2))]) (st' := []) (M' := M) (C' := (True ∧ ax_r32 ((i : Int) + 1))) (by decide +kernel) rfl ⟨trivial, ⟨by omega, by omega⟩⟩ ?_
    refine ax_pk [2,3,4,1,0] (lc' := [(0, (2, 3, 0)), (1, (0, 0, w1)), (2, (0, 0, w2)), (3, (0, 0, 1)), (4, (0, 0, ((i : Int) + 1)))]) rfl ?_
    exact hkc 1 (by omega)
  · refine ax_lump ax_layM ok_kX3 [(15, .aload_n 0, 1, 0, 0, 0), (16, .getfield 138, 3, 3, 14, 0), (19, .iconst 4, 1, 0, 0, 0), (20, .iload_n 1, 1, 0, 0, 0), (21, .imul, 1, 1, 0, 0), (22, .iload 4, 2, 0, 0, 0), (24, .iadd, 1, 1, 0, 0)] (pc' := 25) (lc' := [(0, (2, 3, 0)), (1, (0, 0, w1)), (2, (0, 0, w2)), (3, (0, 0, v3)), (4, (0, 0, (i : Int)))]) (st' := [(0, 0, ((4 * w1) + (i : Int))), (3, 274, 7)]) (M' := M) (C' := ((True ∧ ax_r32 (4 * w1)) ∧ ax_r32 ((4 * w1) + (i : Int)))) (by decide +kernel) rfl ⟨⟨trivial, ⟨by omega, by omega⟩⟩, ⟨by omega, by omega⟩⟩ ?_
    refine ax_cSi (G1 := gX3_isWritten) (d1 := d + 0) (i := 195) (n := 2) (as := [(3, 274, 7), (0, 0, ((4 * w1) + (i : Int)))]) (st := []) (by decide +kernel) calX3_isWritten (by omega) rfl wt_1098 wt_1099 (Nat.le_of_ble_eq_true rfl) rfl (c_X3_isWritten d 7 ((4 * w1) + (i : Int)) M (by omega)) (fun hc2 => ?_)
    refine ax_zeq (off := 26) (tgt := 54) (by decide +kernel) (by decide) (fun h3 => ?_) (fun h3 => ?_)
    · refine ax_lump ax_layM ok_kX3 [(54, .iconst 0, 1, 0, 0, 0), (55, .istore_n 3, 1, 0, 0, 0), (56, .iinc 4 1, 3, 1, 0, 0), (59, .goto (-54), 3, 5, 0, 0)] (pc' := 5) (lc' := [(4, (0, 0, ((i : Int) + 1))), (3, (0, 0, 0)), (0, (2, 3, 0)), (1, (0, 0, w1)), (2, (0, 0, w2))]) (st' := []) (M' := M) (C' := (True ∧ ax_r32 ((i : Int) + 1))) (by decide +kernel) rfl ⟨trivial, ⟨by omega, by omega⟩⟩ ?_
      refine ax_pk [2,3,4,1,0] (lc' := [(0, (2, 3, 0)), (1, (0, 0, w1)), (2, (0, 0, w2)), (3, (0, 0, 0)), (4, (0, 0, ((i : Int) + 1)))]) rfl ?_
      exact hkc 0 (by omega)
    · refine ax_lump ax_layM ok_kX3 [(31, .aload_n 0, 1, 0, 0, 0), (32, .getfield 138, 3, 3, 14, 0), (35, .iconst 4, 1, 0, 0, 0), (36, .iload_n 1, 1, 0, 0, 0), (37, .imul, 1, 1, 0, 0), (38, .iload 4, 2, 0, 0, 0), (40, .iadd, 1, 1, 0, 0)] (pc' := 41) (lc' := [(0, (2, 3, 0)), (1, (0, 0, w1)), (2, (0, 0, w2)), (3, (0, 0, v3)), (4, (0, 0, (i : Int)))]) (st' := [(0, 0, ((4 * w1) + (i : Int))), (3, 274, 7)]) (M' := M) (C' := ((True ∧ ax_r32 (4 * w1)) ∧ ax_r32 ((4 * w1) + (i : Int)))) (by decide +kernel) rfl ⟨⟨trivial, ⟨by omega, by omega⟩⟩, ⟨by omega, by omega⟩⟩ ?_
      refine ax_cSi (G1 := gX3_pageAt) (d1 := d + 0) (i := 188) (n := 2) (as := [(3, 274, 7), (0, 0, ((4 * w1) + (i : Int)))]) (st := []) (by decide +kernel) calX3_pageAt (by omega) rfl wt_1104 wt_1105 (Nat.le_of_ble_eq_true rfl) rfl (c_X3_pageAt d 7 ((4 * w1) + (i : Int)) M (by omega)) (fun hc4 => ?_)
      refine ax_lump ax_layM ok_kX3 [(44, .iconst 4, 1, 0, 0, 0), (45, .idiv, 1, 0, 0, 0), (46, .iload_n 2, 1, 0, 0, 0)] (pc' := 47) (lc' := [(0, (2, 3, 0)), (1, (0, 0, w1)), (2, (0, 0, w2)), (3, (0, 0, v3)), (4, (0, 0, (i : Int)))]) (st' := [(0, 0, w2), (0, 0, (ax_div (f_X3_pageAt 7 ((4 * w1) + (i : Int)) M) 4))]) (M' := M) (C' := (True ∧ 4 ≠ 0)) (by decide +kernel) rfl ⟨trivial, by omega⟩ ?_
      refine ax_jne (off := 7) (tgt := 54) (by decide +kernel) (by decide) (fun h5 => ?_) (fun h5 => ?_)
      · refine ax_lump ax_layM ok_kX3 [(54, .iconst 0, 1, 0, 0, 0), (55, .istore_n 3, 1, 0, 0, 0), (56, .iinc 4 1, 3, 1, 0, 0), (59, .goto (-54), 3, 5, 0, 0)] (pc' := 5) (lc' := [(4, (0, 0, ((i : Int) + 1))), (3, (0, 0, 0)), (0, (2, 3, 0)), (1, (0, 0, w1)), (2, (0, 0, w2))]) (st' := []) (M' := M) (C' := (True ∧ ax_r32 ((i : Int) + 1))) (by decide +kernel) rfl ⟨trivial, ⟨by omega, by omega⟩⟩ ?_
        refine ax_pk [2,3,4,1,0] (lc' := [(0, (2, 3, 0)), (1, (0, 0, w1)), (2, (0, 0, w2)), (3, (0, 0, 0)), (4, (0, 0, ((i : Int) + 1)))]) rfl ?_
        exact hkc 0 (by omega)
      · refine ax_lump ax_layM ok_kX3 [(50, .iconst 1, 1, 0, 0, 0), (51, .goto 4, 3, 55, 0, 0), (55, .istore_n 3, 1, 0, 0, 0), (56, .iinc 4 1, 3, 1, 0, 0), (59, .goto (-54), 3, 5, 0, 0)] (pc' := 5) (lc' := [(4, (0, 0, ((i : Int) + 1))), (3, (0, 0, 1)), (0, (2, 3, 0)), (1, (0, 0, w1)), (2, (0, 0, w2))]) (st' := []) (M' := M) (C' := (True ∧ ax_r32 ((i : Int) + 1))) (by decide +kernel) rfl ⟨trivial, ⟨by omega, by omega⟩⟩ ?_
        refine ax_pk [2,3,4,1,0] (lc' := [(0, (2, 3, 0)), (1, (0, 0, w1)), (2, (0, 0, w2)), (3, (0, 0, 1)), (4, (0, 0, ((i : Int) + 1)))]) rfl ?_
        exact hkc 1 (by omega)
set_option maxRecDepth 100000 in
set_option maxHeartbeats 4000000 in
theorem w_X3_hasFolder_L5 (d : Nat) (w1 : Int) (w2 : Int) (M : ax_M) (kx : Int → Int) (hw_w1 : 0 ≤ w1 ∧ w1 ≤ 15) (hkx : ∀ (x3 : Int), ((0 ≤ x3 ∧ x3 ≤ 1)) → ax_W ax_LM gX3_hasFolder (d + 1) 62 [(3, (0, 0, x3))] [] M ((ax_qi 0 1 M) (kx x3))) : ∀ (n : Nat) (i : Nat) (v3 : Int), 0 ≤ i ∧ i + n = 4 → 0 ≤ v3 ∧ v3 ≤ 1 → ax_W ax_LM gX3_hasFolder (d + 1) 5 [(0, (2, 3, 0)), (1, (0, 0, w1)), (2, (0, 0, w2)), (3, (0, 0, v3)), (4, (0, 0, (i : Int)))] [] M ((ax_qi 0 1 M) (f_X3_hasFolder_L5 w1 w2 M n i v3 kx)) := by
  intro n
  induction n with
  | zero =>
    intro i v3 hin hv3
    refine ax_lump ax_layM ok_kX3 [(5, .iload 4, 2, 0, 0, 0), (7, .iconst 4, 1, 0, 0, 0)] (pc' := 8) (lc' := [(0, (2, 3, 0)), (1, (0, 0, w1)), (2, (0, 0, w2)), (3, (0, 0, v3)), (4, (0, 0, (i : Int)))]) (st' := [(0, 0, 4), (0, 0, (i : Int))]) (M' := M) (C' := True) (by decide +kernel) rfl trivial ?_
    refine ax_icmp_ge (off := 54) (tgt := 62) (by decide +kernel) (by decide) (fun h => ?_) (fun h => ?_)
    · refine ax_pk [3] (lc' := [(3, (0, 0, v3))]) rfl ?_
      exact hkx v3 (by omega)
    · exfalso; omega
  | succ n ih =>
    intro i v3 hin hv3
    refine ax_lump ax_layM ok_kX3 [(5, .iload 4, 2, 0, 0, 0), (7, .iconst 4, 1, 0, 0, 0)] (pc' := 8) (lc' := [(0, (2, 3, 0)), (1, (0, 0, w1)), (2, (0, 0, w2)), (3, (0, 0, v3)), (4, (0, 0, (i : Int)))]) (st' := [(0, 0, 4), (0, 0, (i : Int))]) (M' := M) (C' := True) (by decide +kernel) rfl trivial ?_
    refine ax_icmp_ge (off := 54) (tgt := 62) (by decide +kernel) (by decide) (fun h => ?_) (fun h => ?_)
    · exfalso; omega
    · exact wb_X3_hasFolder_B5 d w1 w2 M i v3 _ kx hw_w1 (by omega) hv3 (fun u3 hu3 => ih (i + 1) u3 (by omega) hu3) hkx
def f_X3_hasFolder (x1 : Int) (x2 : Int) (M : ax_M) : Int := f_X3_hasFolder_L5 x1 x2 M 4 0 0 (fun z6 => z6)
set_option maxRecDepth 100000 in
set_option maxHeartbeats 4000000 in
theorem c_X3_hasFolder (d : Nat) (x1 : Int) (x2 : Int) (M : ax_M) (hp0 : 0 ≤ x1 ∧ x1 ≤ 15) : ax_Met ax_LM gX3_hasFolder (d + 1) [(2, 3, 0), (0, 0, x1), (0, 0, x2)] M ((ax_qi 0 1 M) (f_X3_hasFolder x1 x2 M)) := by
  refine ax_body (by decide) (fun X => Nat.le_of_ble_eq_true rfl) (fun hok => ?_)
  have hr_x1 : (-2147483648) ≤ x1 ∧ x1 ≤ 2147483647 := hok (0, 0, x1) (by simp)
  have hr_x2 : (-2147483648) ≤ x2 ∧ x2 ≤ 2147483647 := hok (0, 0, x2) (by simp)
  show ax_W ax_LM gX3_hasFolder (d + 1) 0 [(0, (2, 3, 0)), (1, (0, 0, x1)), (2, (0, 0, x2))] [] M _
  unfold f_X3_hasFolder
  refine ax_lump ax_layM ok_kX3 [(0, .iconst 0, 1, 0, 0, 0), (1, .istore_n 3, 1, 0, 0, 0), (2, .iconst 0, 1, 0, 0, 0), (3, .istore 4, 2, 0, 0, 0)] (pc' := 5) (lc' := [(4, (0, 0, 0)), (3, (0, 0, 0)), (0, (2, 3, 0)), (1, (0, 0, x1)), (2, (0, 0, x2))]) (st' := []) (M' := M) (C' := True) (by decide +kernel) rfl trivial ?_
  refine ax_pk [2,3,4,1,0] (lc' := [(0, (2, 3, 0)), (1, (0, 0, x1)), (2, (0, 0, x2)), (3, (0, 0, 0)), (4, (0, 0, 0))]) rfl ?_
  refine w_X3_hasFolder_L5 d x1 x2 M _ (by omega) (fun z6 hx_6 => ?_) 4 0 0 (by omega) (by omega)
  refine ax_lump ax_layM ok_kX3 [(62, .iload_n 3, 1, 0, 0, 0)] (pc' := 63) (lc' := [(3, (0, 0, z6))]) (st' := [(0, 0, z6)]) (M' := M) (C' := True) (by decide +kernel) rfl trivial ?_
  exact ax_zret (by decide +kernel) rfl (by omega) ⟨rfl, rfl, (show (0 : Int) ≤ z6 from by omega), (show z6 ≤ (1 : Int) from by omega)⟩
def f_X3_writtenIn_B4 (w1 : Int) (M : ax_M) (i : Nat) (v2 : Int) (kc : Int → Int) (kx : Int → Int) : Int := kc (v2 + (f_X3_flag (f_X3_isWritten 7 ((4 * w1) + (i : Int)) M) M))
def f_X3_writtenIn_L4 (w1 : Int) (M : ax_M) : Nat → Nat → Int → (Int → Int) → Int
  | 0, i, v2, kx => kx v2
  | n + 1, i, v2, kx => f_X3_writtenIn_B4 w1 M i v2 (fun u2 => f_X3_writtenIn_L4 w1 M n (i + 1) u2 kx) kx
set_option maxRecDepth 100000 in
set_option maxHeartbeats 4000000 in
theorem wb_X3_writtenIn_B4 (d : Nat) (w1 : Int) (M : ax_M) (i : Nat) (v2 : Int) (kc : Int → Int) (kx : Int → Int) (hw_w1 : 0 ≤ w1 ∧ w1 ≤ 15) (hi : 0 ≤ i ∧ i < 4) (hv2 : 0 ≤ v2 ∧ v2 ≤ 0 + 1 * ((i : Int) - 0)) (hkc : ∀ (u2 : Int), 0 ≤ u2 ∧ u2 ≤ 0 + 1 * (((i : Int) + 1) - 0) → ax_W ax_LM gX3_writtenIn (d + 1) 4 [(0, (2, 3, 0)), (1, (0, 0, w1)), (2, (0, 0, u2)), (3, (0, 0, ((i : Int) + 1)))] [] M ((ax_qi 0 4 M) (kc u2))) (hkx : ∀ (x2 : Int), ((0 ≤ x2 ∧ x2 ≤ 4)) → ax_W ax_LM gX3_writtenIn (d + 1) 33 [(2, (0, 0, x2))] [] M ((ax_qi 0 4 M) (kx x2))) : ax_W ax_LM gX3_writtenIn (d + 1) 9 [(0, (2, 3, 0)), (1, (0, 0, w1)), (2, (0, 0, v2)), (3, (0, 0, (i : Int)))] [] M ((ax_qi 0 4 M) (f_X3_writtenIn_B4 w1 M i v2 kc kx)) := by
  unfold f_X3_writtenIn_B4
  refine ax_lump ax_layM ok_kX3 [(9, .iload_n 2, 1, 0, 0, 0), (10, .aload_n 0, 1, 0, 0, 0), (11, .getfield 138, 3, 3, 14, 0), (14, .iconst 4, 1, 0, 0, 0), (15, .iload_n 1, 1, 0, 0, 0), (16, .imul, 1, 1, 0, 0), (17, .iload_n 3, 1, 0, 0, 0), (18, .iadd, 1, 1, 0, 0)] (pc' := 19) (lc' := [(0, (2, 3, 0)), (1, (0, 0, w1)), (2, (0, 0, v2)), (3, (0, 0, (i : Int)))]) (st' := [(0, 0, ((4 * w1) + (i : Int))), (3, 274, 7), (0, 0, v2)]) (M' := M) (C' := ((True ∧ ax_r32 (4 * w1)) ∧ ax_r32 ((4 * w1) + (i : Int)))) (by decide +kernel) rfl ⟨⟨trivial, ⟨by omega, by omega⟩⟩, ⟨by omega, by omega⟩⟩ ?_
  refine ax_cSi (G1 := gX3_isWritten) (d1 := d + 0) (i := 195) (n := 2) (as := [(3, 274, 7), (0, 0, ((4 * w1) + (i : Int)))]) (st := [(0, 0, v2)]) (by decide +kernel) calX3_isWritten (by omega) rfl wt_1098 wt_1099 (Nat.le_of_ble_eq_true rfl) rfl (c_X3_isWritten d 7 ((4 * w1) + (i : Int)) M (by omega)) (fun hc1 => ?_)
  refine ax_cSi (G1 := gX3_flag) (d1 := d + 0) (i := 44) (n := 1) (as := [(0, 0, (f_X3_isWritten 7 ((4 * w1) + (i : Int)) M))]) (st := [(0, 0, v2)]) (by decide +kernel) calX3_flag (by omega) rfl wt_904 wt_905 (Nat.le_of_ble_eq_true rfl) rfl (c_X3_flag d (f_X3_isWritten 7 ((4 * w1) + (i : Int)) M) M (by omega)) (fun hc2 => ?_)
  refine ax_lump ax_layM ok_kX3 [(25, .iadd, 1, 1, 0, 0), (26, .istore_n 2, 1, 0, 0, 0), (27, .iinc 3 1, 3, 1, 0, 0), (30, .goto (-26), 3, 4, 0, 0)] (pc' := 4) (lc' := [(3, (0, 0, ((i : Int) + 1))), (2, (0, 0, (v2 + (f_X3_flag (f_X3_isWritten 7 ((4 * w1) + (i : Int)) M) M)))), (0, (2, 3, 0)), (1, (0, 0, w1))]) (st' := []) (M' := M) (C' := ((True ∧ ax_r32 (v2 + (f_X3_flag (f_X3_isWritten 7 ((4 * w1) + (i : Int)) M) M))) ∧ ax_r32 ((i : Int) + 1))) (by decide +kernel) rfl ⟨⟨trivial, ⟨by omega, by omega⟩⟩, ⟨by omega, by omega⟩⟩ ?_
  refine ax_pk [2,3,1,0] (lc' := [(0, (2, 3, 0)), (1, (0, 0, w1)), (2, (0, 0, (v2 + (f_X3_flag (f_X3_isWritten 7 ((4 * w1) + (i : Int)) M) M)))), (3, (0, 0, ((i : Int) + 1)))]) rfl ?_
  exact hkc (v2 + (f_X3_flag (f_X3_isWritten 7 ((4 * w1) + (i : Int)) M) M)) (by omega)
set_option maxRecDepth 100000 in
set_option maxHeartbeats 4000000 in
theorem w_X3_writtenIn_L4 (d : Nat) (w1 : Int) (M : ax_M) (kx : Int → Int) (hw_w1 : 0 ≤ w1 ∧ w1 ≤ 15) (hkx : ∀ (x2 : Int), ((0 ≤ x2 ∧ x2 ≤ 4)) → ax_W ax_LM gX3_writtenIn (d + 1) 33 [(2, (0, 0, x2))] [] M ((ax_qi 0 4 M) (kx x2))) : ∀ (n : Nat) (i : Nat) (v2 : Int), 0 ≤ i ∧ i + n = 4 → 0 ≤ v2 ∧ v2 ≤ 0 + 1 * ((i : Int) - 0) → ax_W ax_LM gX3_writtenIn (d + 1) 4 [(0, (2, 3, 0)), (1, (0, 0, w1)), (2, (0, 0, v2)), (3, (0, 0, (i : Int)))] [] M ((ax_qi 0 4 M) (f_X3_writtenIn_L4 w1 M n i v2 kx)) := by
  intro n
  induction n with
  | zero =>
    intro i v2 hin hv2
    refine ax_lump ax_layM ok_kX3 [(4, .iload_n 3, 1, 0, 0, 0), (5, .iconst 4, 1, 0, 0, 0)] (pc' := 6) (lc' := [(0, (2, 3, 0)), (1, (0, 0, w1)), (2, (0, 0, v2)), (3, (0, 0, (i : Int)))]) (st' := [(0, 0, 4), (0, 0, (i : Int))]) (M' := M) (C' := True) (by decide +kernel) rfl trivial ?_
    refine ax_icmp_ge (off := 27) (tgt := 33) (by decide +kernel) (by decide) (fun h => ?_) (fun h => ?_)
    · refine ax_pk [2] (lc' := [(2, (0, 0, v2))]) rfl ?_
      exact hkx v2 (by omega)
    · exfalso; omega
  | succ n ih =>
    intro i v2 hin hv2
    refine ax_lump ax_layM ok_kX3 [(4, .iload_n 3, 1, 0, 0, 0), (5, .iconst 4, 1, 0, 0, 0)] (pc' := 6) (lc' := [(0, (2, 3, 0)), (1, (0, 0, w1)), (2, (0, 0, v2)), (3, (0, 0, (i : Int)))]) (st' := [(0, 0, 4), (0, 0, (i : Int))]) (M' := M) (C' := True) (by decide +kernel) rfl trivial ?_
    refine ax_icmp_ge (off := 27) (tgt := 33) (by decide +kernel) (by decide) (fun h => ?_) (fun h => ?_)
    · exfalso; omega
    · exact wb_X3_writtenIn_B4 d w1 M i v2 _ kx hw_w1 (by omega) hv2 (fun u2 hu2 => ih (i + 1) u2 (by omega) (by omega)) hkx
def f_X3_writtenIn (x1 : Int) (M : ax_M) : Int := f_X3_writtenIn_L4 x1 M 4 0 0 (fun z3 => z3)
set_option maxRecDepth 100000 in
set_option maxHeartbeats 4000000 in
theorem c_X3_writtenIn (d : Nat) (x1 : Int) (M : ax_M) (hp0 : 0 ≤ x1 ∧ x1 ≤ 15) : ax_Met ax_LM gX3_writtenIn (d + 1) [(2, 3, 0), (0, 0, x1)] M ((ax_qi 0 4 M) (f_X3_writtenIn x1 M)) := by
  refine ax_body (by decide) (fun X => Nat.le_of_ble_eq_true rfl) (fun hok => ?_)
  have hr_x1 : (-2147483648) ≤ x1 ∧ x1 ≤ 2147483647 := hok (0, 0, x1) (by simp)
  show ax_W ax_LM gX3_writtenIn (d + 1) 0 [(0, (2, 3, 0)), (1, (0, 0, x1))] [] M _
  unfold f_X3_writtenIn
  refine ax_lump ax_layM ok_kX3 [(0, .iconst 0, 1, 0, 0, 0), (1, .istore_n 2, 1, 0, 0, 0), (2, .iconst 0, 1, 0, 0, 0), (3, .istore_n 3, 1, 0, 0, 0)] (pc' := 4) (lc' := [(3, (0, 0, 0)), (2, (0, 0, 0)), (0, (2, 3, 0)), (1, (0, 0, x1))]) (st' := []) (M' := M) (C' := True) (by decide +kernel) rfl trivial ?_
  refine ax_pk [2,3,1,0] (lc' := [(0, (2, 3, 0)), (1, (0, 0, x1)), (2, (0, 0, 0)), (3, (0, 0, 0))]) rfl ?_
  refine w_X3_writtenIn_L4 d x1 M _ (by omega) (fun z3 hx_3 => ?_) 4 0 0 (by omega) (by omega)
  refine ax_lump ax_layM ok_kX3 [(33, .iload_n 2, 1, 0, 0, 0)] (pc' := 34) (lc' := [(2, (0, 0, z3))]) (st' := [(0, 0, z3)]) (M' := M) (C' := True) (by decide +kernel) rfl trivial ?_
  exact ax_iret (by decide +kernel) rfl ⟨rfl, rfl, (show (0 : Int) ≤ z3 from by omega), (show z3 ≤ (4 : Int) from by omega)⟩
def f_X3_isSo (x1 : Int) (x2 : Int) (x3 : Int) (M : ax_M) : Int := (if x2 = 0 then (if (M 7 (192 + x1).toNat) ≠ x3 then 0 else 1) else (if x2 = 1 then (if (M 7 (224 + x1).toNat) < x3 then 0 else 1) else (if x2 = 2 then (if (f_X3_writtenIn x1 M) < x3 then 0 else 1) else (f_X3_hasFolder x1 x3 M))))
set_option maxRecDepth 100000 in
set_option maxHeartbeats 4000000 in
theorem c_X3_isSo (d : Nat) (x1 : Int) (x2 : Int) (x3 : Int) (M : ax_M) (hp0 : 0 ≤ x1 ∧ x1 ≤ 15) : ax_Met ax_LM gX3_isSo (d + 2) [(2, 3, 0), (0, 0, x1), (0, 0, x2), (0, 0, x3)] M ((ax_qi 0 1 M) (f_X3_isSo x1 x2 x3 M)) := by
  refine ax_body (by decide) (fun X => Nat.le_of_ble_eq_true rfl) (fun hok => ?_)
  have hr_x1 : (-2147483648) ≤ x1 ∧ x1 ≤ 2147483647 := hok (0, 0, x1) (by simp)
  have hr_x2 : (-2147483648) ≤ x2 ∧ x2 ≤ 2147483647 := hok (0, 0, x2) (by simp)
  have hr_x3 : (-2147483648) ≤ x3 ∧ x3 ≤ 2147483647 := hok (0, 0, x3) (by simp)
  show ax_W ax_LM gX3_isSo (d + 2) 0 [(0, (2, 3, 0)), (1, (0, 0, x1)), (2, (0, 0, x2)), (3, (0, 0, x3))] [] M _
  unfold f_X3_isSo
  refine ax_lump ax_layM ok_kX3 [(0, .iload_n 2, 1, 0, 0, 0)] (pc' := 1) (lc' := [(0, (2, 3, 0)), (1, (0, 0, x1)), (2, (0, 0, x2)), (3, (0, 0, x3))]) (st' := [(0, 0, x2)]) (M' := M) (C' := True) (by decide +kernel) rfl trivial ?_
  refine ax_ite (fun h1 => ?_) (fun h1 => ?_)
  · refine ax_swIn (dflt := 82) (lo := 0) (hi := 2) (off := 27) (offs := #[27, 47, 67]) (len := 27) (tgt := 28) (by decide +kernel) (by omega) (by omega) (by rw [h1]; rfl) (by decide) ?_
    refine ax_lump ax_layM ok_kX3 [(28, .aload_n 0, 1, 0, 0, 0), (29, .getfield 138, 3, 3, 14, 0), (32, .sipush 192, 3, 0, 0, 0), (35, .iload_n 1, 1, 0, 0, 0), (36, .iadd, 1, 1, 0, 0), (37, .iaload, 1, 0, 0, 0), (38, .iload_n 3, 1, 0, 0, 0)] (pc' := 39) (lc' := [(0, (2, 3, 0)), (1, (0, 0, x1)), (2, (0, 0, x2)), (3, (0, 0, x3))]) (st' := [(0, 0, x3), (0, 0, (M 7 (192 + x1).toNat))]) (M' := M) (C' := ((True ∧ ax_r32 (192 + x1)) ∧ (0 ≤ (192 + x1) ∧ (192 + x1) < ((274 : Nat) : Int)))) (by decide +kernel) rfl ⟨⟨trivial, ⟨by omega, by omega⟩⟩, by omega⟩ ?_
    refine ax_jne (off := 7) (tgt := 46) (by decide +kernel) (by decide) (fun h2 => ?_) (fun h2 => ?_)
    · refine ax_lump ax_layM ok_kX3 [(46, .iconst 0, 1, 0, 0, 0)] (pc' := 47) (lc' := [(0, (2, 3, 0)), (1, (0, 0, x1)), (2, (0, 0, x2)), (3, (0, 0, x3))]) (st' := [(0, 0, 0)]) (M' := M) (C' := True) (by decide +kernel) rfl trivial ?_
      exact ax_zret (by decide +kernel) rfl (by omega) ⟨rfl, rfl, (show (0 : Int) ≤ 0 from by omega), (show 0 ≤ (1 : Int) from by omega)⟩
    · refine ax_lump ax_layM ok_kX3 [(42, .iconst 1, 1, 0, 0, 0), (43, .goto 4, 3, 47, 0, 0)] (pc' := 47) (lc' := [(0, (2, 3, 0)), (1, (0, 0, x1)), (2, (0, 0, x2)), (3, (0, 0, x3))]) (st' := [(0, 0, 1)]) (M' := M) (C' := True) (by decide +kernel) rfl trivial ?_
      exact ax_zret (by decide +kernel) rfl (by omega) ⟨rfl, rfl, (show (0 : Int) ≤ 1 from by omega), (show 1 ≤ (1 : Int) from by omega)⟩
  · refine ax_ite (fun h3 => ?_) (fun h3 => ?_)
    · refine ax_swIn (dflt := 82) (lo := 0) (hi := 2) (off := 47) (offs := #[27, 47, 67]) (len := 27) (tgt := 48) (by decide +kernel) (by omega) (by omega) (by rw [h3]; rfl) (by decide) ?_
      refine ax_lump ax_layM ok_kX3 [(48, .aload_n 0, 1, 0, 0, 0), (49, .getfield 138, 3, 3, 14, 0), (52, .sipush 224, 3, 0, 0, 0), (55, .iload_n 1, 1, 0, 0, 0), (56, .iadd, 1, 1, 0, 0), (57, .iaload, 1, 0, 0, 0), (58, .iload_n 3, 1, 0, 0, 0)] (pc' := 59) (lc' := [(0, (2, 3, 0)), (1, (0, 0, x1)), (2, (0, 0, x2)), (3, (0, 0, x3))]) (st' := [(0, 0, x3), (0, 0, (M 7 (224 + x1).toNat))]) (M' := M) (C' := ((True ∧ ax_r32 (224 + x1)) ∧ (0 ≤ (224 + x1) ∧ (224 + x1) < ((274 : Nat) : Int)))) (by decide +kernel) rfl ⟨⟨trivial, ⟨by omega, by omega⟩⟩, by omega⟩ ?_
      refine ax_jlt (off := 7) (tgt := 66) (by decide +kernel) (by decide) (fun h4 => ?_) (fun h4 => ?_)
      · refine ax_lump ax_layM ok_kX3 [(66, .iconst 0, 1, 0, 0, 0)] (pc' := 67) (lc' := [(0, (2, 3, 0)), (1, (0, 0, x1)), (2, (0, 0, x2)), (3, (0, 0, x3))]) (st' := [(0, 0, 0)]) (M' := M) (C' := True) (by decide +kernel) rfl trivial ?_
        exact ax_zret (by decide +kernel) rfl (by omega) ⟨rfl, rfl, (show (0 : Int) ≤ 0 from by omega), (show 0 ≤ (1 : Int) from by omega)⟩
      · refine ax_lump ax_layM ok_kX3 [(62, .iconst 1, 1, 0, 0, 0), (63, .goto 4, 3, 67, 0, 0)] (pc' := 67) (lc' := [(0, (2, 3, 0)), (1, (0, 0, x1)), (2, (0, 0, x2)), (3, (0, 0, x3))]) (st' := [(0, 0, 1)]) (M' := M) (C' := True) (by decide +kernel) rfl trivial ?_
        exact ax_zret (by decide +kernel) rfl (by omega) ⟨rfl, rfl, (show (0 : Int) ≤ 1 from by omega), (show 1 ≤ (1 : Int) from by omega)⟩
    · refine ax_ite (fun h5 => ?_) (fun h5 => ?_)
      · refine ax_swIn (dflt := 82) (lo := 0) (hi := 2) (off := 67) (offs := #[27, 47, 67]) (len := 27) (tgt := 68) (by decide +kernel) (by omega) (by omega) (by rw [h5]; rfl) (by decide) ?_
        refine ax_lump ax_layM ok_kX3 [(68, .aload_n 0, 1, 0, 0, 0), (69, .iload_n 1, 1, 0, 0, 0)] (pc' := 70) (lc' := [(0, (2, 3, 0)), (1, (0, 0, x1)), (2, (0, 0, x2)), (3, (0, 0, x3))]) (st' := [(0, 0, x1), (2, 3, 0)]) (M' := M) (C' := True) (by decide +kernel) rfl trivial ?_
        refine ax_cVi (G1 := gX3_writtenIn) (d1 := d + 1) (i := 440) (n := 1) (as := [(0, 0, x1)]) (st := []) (c := 3) (a := 0) (by decide +kernel) ax_cls3 calX3_writtenIn (by omega) rfl wt_1446 wt_1448 ws_115 (Nat.le_of_ble_eq_true rfl) rfl (c_X3_writtenIn d x1 M (by omega)) (fun hc6 => ?_)
        refine ax_lump ax_layM ok_kX3 [(73, .iload_n 3, 1, 0, 0, 0)] (pc' := 74) (lc' := [(0, (2, 3, 0)), (1, (0, 0, x1)), (2, (0, 0, x2)), (3, (0, 0, x3))]) (st' := [(0, 0, x3), (0, 0, (f_X3_writtenIn x1 M))]) (M' := M) (C' := True) (by decide +kernel) rfl trivial ?_
        refine ax_jlt (off := 7) (tgt := 81) (by decide +kernel) (by decide) (fun h7 => ?_) (fun h7 => ?_)
        · refine ax_lump ax_layM ok_kX3 [(81, .iconst 0, 1, 0, 0, 0)] (pc' := 82) (lc' := [(0, (2, 3, 0)), (1, (0, 0, x1)), (2, (0, 0, x2)), (3, (0, 0, x3))]) (st' := [(0, 0, 0)]) (M' := M) (C' := True) (by decide +kernel) rfl trivial ?_
          exact ax_zret (by decide +kernel) rfl (by omega) ⟨rfl, rfl, (show (0 : Int) ≤ 0 from by omega), (show 0 ≤ (1 : Int) from by omega)⟩
        · refine ax_lump ax_layM ok_kX3 [(77, .iconst 1, 1, 0, 0, 0), (78, .goto 4, 3, 82, 0, 0)] (pc' := 82) (lc' := [(0, (2, 3, 0)), (1, (0, 0, x1)), (2, (0, 0, x2)), (3, (0, 0, x3))]) (st' := [(0, 0, 1)]) (M' := M) (C' := True) (by decide +kernel) rfl trivial ?_
          exact ax_zret (by decide +kernel) rfl (by omega) ⟨rfl, rfl, (show (0 : Int) ≤ 1 from by omega), (show 1 ≤ (1 : Int) from by omega)⟩
      · refine ax_swOut (dflt := 82) (lo := 0) (hi := 2) (offs := #[27, 47, 67]) (len := 27) (tgt := 83) (by decide +kernel) (by omega) (by decide) ?_
        refine ax_lump ax_layM ok_kX3 [(83, .aload_n 0, 1, 0, 0, 0), (84, .iload_n 1, 1, 0, 0, 0), (85, .iload_n 3, 1, 0, 0, 0)] (pc' := 86) (lc' := [(0, (2, 3, 0)), (1, (0, 0, x1)), (2, (0, 0, x2)), (3, (0, 0, x3))]) (st' := [(0, 0, x3), (0, 0, x1), (2, 3, 0)]) (M' := M) (C' := True) (by decide +kernel) rfl trivial ?_
        refine ax_cVi (G1 := gX3_hasFolder) (d1 := d + 1) (i := 443) (n := 2) (as := [(0, 0, x1), (0, 0, x3)]) (st := []) (c := 3) (a := 0) (by decide +kernel) ax_cls3 calX3_hasFolder (by omega) rfl wt_1450 wt_1452 ws_116 (Nat.le_of_ble_eq_true rfl) rfl (c_X3_hasFolder d x1 x3 M (by omega)) (fun hc8 => ?_)
        exact ax_zret (by decide +kernel) rfl (by omega) ⟨rfl, rfl, (show (0 : Int) ≤ (f_X3_hasFolder x1 x3 M) from by omega), (show (f_X3_hasFolder x1 x3 M) ≤ (1 : Int) from by omega)⟩
def f_X3_fitting_B15 (w1 : Int) (w2 : Int) (M : ax_M) (i : Int) (v3 : Int) (kc : Int → Int) (kx : Int → Int) : Int := (if v3 = 0 then kc 0 else (if (f_X3_isSo w2 (M 17 i.toNat) (M 18 i.toNat) M) = 0 then kc 0 else kc 1))
def f_X3_fitting_L15 (w1 : Int) (w2 : Int) (M : ax_M) : Nat → Int → Int → (Int → Int) → Int
  | 0, i, v3, kx => kx v3
  | n + 1, i, v3, kx => f_X3_fitting_B15 w1 w2 M i v3 (fun u3 => f_X3_fitting_L15 w1 w2 M n (i + 1) u3 kx) kx
set_option maxRecDepth 100000 in
set_option maxHeartbeats 4000000 in
theorem wb_X3_fitting_B15 (d : Nat) (w1 : Int) (w2 : Int) (M : ax_M) (i : Int) (v3 : Int) (kc : Int → Int) (kx : Int → Int) (hw_w2 : 0 ≤ w2 ∧ w2 ≤ 15) (hi : 0 ≤ i ∧ i < (M 0 32)) (hv3 : 0 ≤ v3 ∧ v3 ≤ 1) (hkc : ∀ (u3 : Int), 0 ≤ u3 ∧ u3 ≤ 1 → ax_W ax_LM gX3_fitting (d + 3) 15 [(0, (2, 3, 0)), (1, (0, 0, w1)), (2, (0, 0, w2)), (3, (0, 0, u3)), (4, (0, 0, (i + 1)))] [] M ((ax_qi (-2147483648) 2147483647 M) (kc u3))) (hkx : ∀ (x3 : Int), ((0 ≤ x3 ∧ x3 ≤ 1)) → ax_W ax_LM gX3_fitting (d + 3) 62 [(0, (2, 3, 0)), (1, (0, 0, w1)), (2, (0, 0, w2)), (3, (0, 0, x3))] [] M ((ax_qi (-2147483648) 2147483647 M) (kx x3))) : ax_W ax_LM gX3_fitting (d + 3) 24 [(0, (2, 3, 0)), (1, (0, 0, w1)), (2, (0, 0, w2)), (3, (0, 0, v3)), (4, (0, 0, i))] [] M ((ax_qi (-2147483648) 2147483647 M) (f_X3_fitting_B15 w1 w2 M i v3 kc kx)) := by
  unfold f_X3_fitting_B15
  refine ax_fact (i := 0) (c := 3) (f := 32) (hi := 12) (s := 0) (by simp) rfl rfl rfl (fun hf4 => ?_)
  have hf4 : 0 ≤ (M 0 32) ∧ (M 0 32) ≤ 12 := hf4
  refine ax_lump ax_layM ok_kX3 [(24, .iload_n 3, 1, 0, 0, 0)] (pc' := 25) (lc' := [(0, (2, 3, 0)), (1, (0, 0, w1)), (2, (0, 0, w2)), (3, (0, 0, v3)), (4, (0, 0, i))]) (st' := [(0, 0, v3)]) (M' := M) (C' := True) (by decide +kernel) rfl trivial ?_
  refine ax_zeq (off := 29) (tgt := 54) (by decide +kernel) (by decide) (fun h1 => ?_) (fun h1 => ?_)
  · refine ax_lump ax_layM ok_kX3 [(54, .iconst 0, 1, 0, 0, 0), (55, .istore_n 3, 1, 0, 0, 0), (56, .iinc 4 1, 3, 1, 0, 0), (59, .goto (-44), 3, 15, 0, 0)] (pc' := 15) (lc' := [(4, (0, 0, (i + 1))), (3, (0, 0, 0)), (0, (2, 3, 0)), (1, (0, 0, w1)), (2, (0, 0, w2))]) (st' := []) (M' := M) (C' := (True ∧ ax_r32 (i + 1))) (by decide +kernel) rfl ⟨trivial, ⟨by omega, by omega⟩⟩ ?_
    refine ax_pk [2,3,4,1,0] (lc' := [(0, (2, 3, 0)), (1, (0, 0, w1)), (2, (0, 0, w2)), (3, (0, 0, 0)), (4, (0, 0, (i + 1)))]) rfl ?_
    exact hkc 0 (by omega)
  · refine ax_lump ax_layM ok_kX3 [(28, .aload_n 0, 1, 0, 0, 0), (29, .iload_n 2, 1, 0, 0, 0), (30, .aload_n 0, 1, 0, 0, 0), (31, .getfield 168, 3, 3, 33, 0), (34, .iload 4, 2, 0, 0, 0), (36, .iaload, 1, 0, 0, 0), (37, .aload_n 0, 1, 0, 0, 0), (38, .getfield 171, 3, 3, 34, 0), (41, .iload 4, 2, 0, 0, 0), (43, .iaload, 1, 0, 0, 0)] (pc' := 44) (lc' := [(0, (2, 3, 0)), (1, (0, 0, w1)), (2, (0, 0, w2)), (3, (0, 0, v3)), (4, (0, 0, i))]) (st' := [(0, 0, (M 18 i.toNat)), (0, 0, (M 17 i.toNat)), (0, 0, w2), (2, 3, 0)]) (M' := M) (C' := ((True ∧ (0 ≤ i ∧ i < ((12 : Nat) : Int))) ∧ (0 ≤ i ∧ i < ((12 : Nat) : Int)))) (by decide +kernel) rfl ⟨⟨trivial, by omega⟩, by omega⟩ ?_
    refine ax_cVi (G1 := gX3_isSo) (d1 := d + 2) (i := 446) (n := 3) (as := [(0, 0, w2), (0, 0, (M 17 i.toNat)), (0, 0, (M 18 i.toNat))]) (st := []) (c := 3) (a := 0) (by decide +kernel) ax_cls3 calX3_isSo (by omega) rfl wt_1442 wt_1444 ws_114 (Nat.le_of_ble_eq_true rfl) rfl (c_X3_isSo d w2 (M 17 i.toNat) (M 18 i.toNat) M (by omega)) (fun hc2 => ?_)
    refine ax_zeq (off := 7) (tgt := 54) (by decide +kernel) (by decide) (fun h3 => ?_) (fun h3 => ?_)
    · refine ax_lump ax_layM ok_kX3 [(54, .iconst 0, 1, 0, 0, 0), (55, .istore_n 3, 1, 0, 0, 0), (56, .iinc 4 1, 3, 1, 0, 0), (59, .goto (-44), 3, 15, 0, 0)] (pc' := 15) (lc' := [(4, (0, 0, (i + 1))), (3, (0, 0, 0)), (0, (2, 3, 0)), (1, (0, 0, w1)), (2, (0, 0, w2))]) (st' := []) (M' := M) (C' := (True ∧ ax_r32 (i + 1))) (by decide +kernel) rfl ⟨trivial, ⟨by omega, by omega⟩⟩ ?_
      refine ax_pk [2,3,4,1,0] (lc' := [(0, (2, 3, 0)), (1, (0, 0, w1)), (2, (0, 0, w2)), (3, (0, 0, 0)), (4, (0, 0, (i + 1)))]) rfl ?_
      exact hkc 0 (by omega)
    · refine ax_lump ax_layM ok_kX3 [(50, .iconst 1, 1, 0, 0, 0), (51, .goto 4, 3, 55, 0, 0), (55, .istore_n 3, 1, 0, 0, 0), (56, .iinc 4 1, 3, 1, 0, 0), (59, .goto (-44), 3, 15, 0, 0)] (pc' := 15) (lc' := [(4, (0, 0, (i + 1))), (3, (0, 0, 1)), (0, (2, 3, 0)), (1, (0, 0, w1)), (2, (0, 0, w2))]) (st' := []) (M' := M) (C' := (True ∧ ax_r32 (i + 1))) (by decide +kernel) rfl ⟨trivial, ⟨by omega, by omega⟩⟩ ?_
      refine ax_pk [2,3,4,1,0] (lc' := [(0, (2, 3, 0)), (1, (0, 0, w1)), (2, (0, 0, w2)), (3, (0, 0, 1)), (4, (0, 0, (i + 1)))]) rfl ?_
      exact hkc 1 (by omega)
set_option maxRecDepth 100000 in
set_option maxHeartbeats 4000000 in
theorem w_X3_fitting_L15 (d : Nat) (w1 : Int) (w2 : Int) (M : ax_M) (kx : Int → Int) (hw_w2 : 0 ≤ w2 ∧ w2 ≤ 15) (hkx : ∀ (x3 : Int), ((0 ≤ x3 ∧ x3 ≤ 1)) → ax_W ax_LM gX3_fitting (d + 3) 62 [(0, (2, 3, 0)), (1, (0, 0, w1)), (2, (0, 0, w2)), (3, (0, 0, x3))] [] M ((ax_qi (-2147483648) 2147483647 M) (kx x3))) : ∀ (n : Nat) (i : Int) (v3 : Int), 0 ≤ i ∧ n = ((M 0 32) - i).toNat → 0 ≤ v3 ∧ v3 ≤ 1 → ax_W ax_LM gX3_fitting (d + 3) 15 [(0, (2, 3, 0)), (1, (0, 0, w1)), (2, (0, 0, w2)), (3, (0, 0, v3)), (4, (0, 0, i))] [] M ((ax_qi (-2147483648) 2147483647 M) (f_X3_fitting_L15 w1 w2 M n i v3 kx)) := by
  intro n
  induction n with
  | zero =>
    intro i v3 hin hv3
    refine ax_fact (i := 0) (c := 3) (f := 32) (hi := 12) (s := 0) (by simp) rfl rfl rfl (fun hf5 => ?_)
    have hf5 : 0 ≤ (M 0 32) ∧ (M 0 32) ≤ 12 := hf5
    refine ax_lump ax_layM ok_kX3 [(15, .iload 4, 2, 0, 0, 0), (17, .aload_n 0, 1, 0, 0, 0), (18, .getfield 437, 3, 3, 32, 0)] (pc' := 21) (lc' := [(0, (2, 3, 0)), (1, (0, 0, w1)), (2, (0, 0, w2)), (3, (0, 0, v3)), (4, (0, 0, i))]) (st' := [(0, 0, (M 0 32)), (0, 0, i)]) (M' := M) (C' := True) (by decide +kernel) rfl trivial ?_
    refine ax_icmp_ge (off := 41) (tgt := 62) (by decide +kernel) (by decide) (fun h => ?_) (fun h => ?_)
    · refine ax_pk [0,1,2,3] (lc' := [(0, (2, 3, 0)), (1, (0, 0, w1)), (2, (0, 0, w2)), (3, (0, 0, v3))]) rfl ?_
      exact hkx v3 (by omega)
    · exfalso; omega
  | succ n ih =>
    intro i v3 hin hv3
    refine ax_fact (i := 0) (c := 3) (f := 32) (hi := 12) (s := 0) (by simp) rfl rfl rfl (fun hf5 => ?_)
    have hf5 : 0 ≤ (M 0 32) ∧ (M 0 32) ≤ 12 := hf5
    refine ax_lump ax_layM ok_kX3 [(15, .iload 4, 2, 0, 0, 0), (17, .aload_n 0, 1, 0, 0, 0), (18, .getfield 437, 3, 3, 32, 0)] (pc' := 21) (lc' := [(0, (2, 3, 0)), (1, (0, 0, w1)), (2, (0, 0, w2)), (3, (0, 0, v3)), (4, (0, 0, i))]) (st' := [(0, 0, (M 0 32)), (0, 0, i)]) (M' := M) (C' := True) (by decide +kernel) rfl trivial ?_
    refine ax_icmp_ge (off := 41) (tgt := 62) (by decide +kernel) (by decide) (fun h => ?_) (fun h => ?_)
    · exfalso; omega
    · exact wb_X3_fitting_B15 d w1 w2 M i v3 _ kx hw_w2 (by omega) hv3 (fun u3 hu3 => ih (i + 1) u3 (by omega) hu3) hkx
def f_X3_fitting_B4  (M : ax_M) (i : Nat) (v1 : Int) (kc : Int → Int) (kx : Int → Int) : Int := f_X3_fitting_L15 v1 (i : Int) M ((M 0 32) - 0).toNat 0 1 (fun z6 => (if z6 = 0 then ax_bd (ax_or v1 0) (fun y8 => kc y8) else ax_bd (ax_or v1 (ax_shl 1 (i : Int))) (fun y9 => kc y9)))
def f_X3_fitting_L4  (M : ax_M) : Nat → Nat → Int → (Int → Int) → Int
  | 0, i, v1, kx => kx v1
  | n + 1, i, v1, kx => f_X3_fitting_B4  M i v1 (fun u1 => f_X3_fitting_L4  M n (i + 1) u1 kx) kx
set_option maxRecDepth 100000 in
set_option maxHeartbeats 4000000 in
theorem wb_X3_fitting_B4 (d : Nat)  (M : ax_M) (i : Nat) (v1 : Int) (kc : Int → Int) (kx : Int → Int)  (hi : 0 ≤ i ∧ i < 16)  (hkc : ∀ (u1 : Int), ax_W ax_LM gX3_fitting (d + 3) 4 [(0, (2, 3, 0)), (1, (0, 0, u1)), (2, (0, 0, ((i : Int) + 1)))] [] M ((ax_qi (-2147483648) 2147483647 M) (kc u1))) (hkx : ∀ (x1 : Int), (True) → ax_W ax_LM gX3_fitting (d + 3) 82 [(1, (0, 0, x1))] [] M ((ax_qi (-2147483648) 2147483647 M) (kx x1))) : ax_W ax_LM gX3_fitting (d + 3) 10 [(0, (2, 3, 0)), (1, (0, 0, v1)), (2, (0, 0, (i : Int)))] [] M ((ax_qi (-2147483648) 2147483647 M) (f_X3_fitting_B4  M i v1 kc kx)) := by
  unfold f_X3_fitting_B4
  refine ax_lump ax_layM ok_kX3 [(10, .iconst 1, 1, 0, 0, 0), (11, .istore_n 3, 1, 0, 0, 0), (12, .iconst 0, 1, 0, 0, 0), (13, .istore 4, 2, 0, 0, 0)] (pc' := 15) (lc' := [(4, (0, 0, 0)), (3, (0, 0, 1)), (0, (2, 3, 0)), (1, (0, 0, v1)), (2, (0, 0, (i : Int)))]) (st' := []) (M' := M) (C' := True) (by decide +kernel) rfl trivial ?_
  refine ax_pk [2,3,4,1,0] (lc' := [(0, (2, 3, 0)), (1, (0, 0, v1)), (2, (0, 0, (i : Int))), (3, (0, 0, 1)), (4, (0, 0, 0))]) rfl ?_
  refine ax_fact (i := 0) (c := 3) (f := 32) (hi := 12) (s := 0) (by simp) rfl rfl rfl (fun hf10 => ?_)
  have hf10 : 0 ≤ (M 0 32) ∧ (M 0 32) ≤ 12 := hf10
  refine w_X3_fitting_L15 d v1 (i : Int) M _ (by omega) (fun z6 hx_6 => ?_) ((M 0 32) - 0).toNat 0 1 (by omega) (by omega)
  refine ax_lump ax_layM ok_kX3 [(62, .iload_n 1, 1, 0, 0, 0), (63, .iload_n 3, 1, 0, 0, 0)] (pc' := 64) (lc' := [(0, (2, 3, 0)), (1, (0, 0, v1)), (2, (0, 0, (i : Int))), (3, (0, 0, z6))]) (st' := [(0, 0, z6), (0, 0, v1)]) (M' := M) (C' := True) (by decide +kernel) rfl trivial ?_
  refine ax_zeq (off := 9) (tgt := 73) (by decide +kernel) (by decide) (fun h7 => ?_) (fun h7 => ?_)
  · refine ax_lump ax_layM ok_kX3 [(73, .iconst 0, 1, 0, 0, 0), (74, .ior, 1, 0, 0, 0), (75, .istore_n 1, 1, 0, 0, 0)] (pc' := 76) (lc' := [(1, (0, 0, (ax_or v1 0))), (0, (2, 3, 0)), (2, (0, 0, (i : Int))), (3, (0, 0, z6))]) (st' := []) (M' := M) (C' := True) (by decide +kernel) rfl trivial ?_
    refine ax_bdI0 (e := (ax_or v1 0)) (fun y8 => [(1, (0, 0, y8)), (0, (2, 3, 0)), (2, (0, 0, (i : Int))), (3, (0, 0, z6))]) (fun y8 => []) (fun y8 => ?_)
    refine ax_lump ax_layM ok_kX3 [(76, .iinc 2 1, 3, 1, 0, 0), (79, .goto (-75), 3, 4, 0, 0)] (pc' := 4) (lc' := [(2, (0, 0, ((i : Int) + 1))), (1, (0, 0, y8)), (0, (2, 3, 0)), (3, (0, 0, z6))]) (st' := []) (M' := M) (C' := (True ∧ ax_r32 ((i : Int) + 1))) (by decide +kernel) rfl ⟨trivial, ⟨by omega, by omega⟩⟩ ?_
    refine ax_pk [2,1,0] (lc' := [(0, (2, 3, 0)), (1, (0, 0, y8)), (2, (0, 0, ((i : Int) + 1)))]) rfl ?_
    exact hkc y8 
  · refine ax_lump ax_layM ok_kX3 [(67, .iconst 1, 1, 0, 0, 0), (68, .iload_n 2, 1, 0, 0, 0), (69, .ishl, 1, 0, 0, 0), (70, .goto 4, 3, 74, 0, 0), (74, .ior, 1, 0, 0, 0), (75, .istore_n 1, 1, 0, 0, 0)] (pc' := 76) (lc' := [(1, (0, 0, (ax_or v1 (ax_shl 1 (i : Int))))), (0, (2, 3, 0)), (2, (0, 0, (i : Int))), (3, (0, 0, z6))]) (st' := []) (M' := M) (C' := True) (by decide +kernel) rfl trivial ?_
    refine ax_bdI0 (e := (ax_or v1 (ax_shl 1 (i : Int)))) (fun y9 => [(1, (0, 0, y9)), (0, (2, 3, 0)), (2, (0, 0, (i : Int))), (3, (0, 0, z6))]) (fun y9 => []) (fun y9 => ?_)
    refine ax_lump ax_layM ok_kX3 [(76, .iinc 2 1, 3, 1, 0, 0), (79, .goto (-75), 3, 4, 0, 0)] (pc' := 4) (lc' := [(2, (0, 0, ((i : Int) + 1))), (1, (0, 0, y9)), (0, (2, 3, 0)), (3, (0, 0, z6))]) (st' := []) (M' := M) (C' := (True ∧ ax_r32 ((i : Int) + 1))) (by decide +kernel) rfl ⟨trivial, ⟨by omega, by omega⟩⟩ ?_
    refine ax_pk [2,1,0] (lc' := [(0, (2, 3, 0)), (1, (0, 0, y9)), (2, (0, 0, ((i : Int) + 1)))]) rfl ?_
    exact hkc y9 
set_option maxRecDepth 100000 in
set_option maxHeartbeats 4000000 in
theorem w_X3_fitting_L4 (d : Nat)  (M : ax_M) (kx : Int → Int)  (hkx : ∀ (x1 : Int), (True) → ax_W ax_LM gX3_fitting (d + 3) 82 [(1, (0, 0, x1))] [] M ((ax_qi (-2147483648) 2147483647 M) (kx x1))) : ∀ (n : Nat) (i : Nat) (v1 : Int), 0 ≤ i ∧ i + n = 16 → ax_W ax_LM gX3_fitting (d + 3) 4 [(0, (2, 3, 0)), (1, (0, 0, v1)), (2, (0, 0, (i : Int)))] [] M ((ax_qi (-2147483648) 2147483647 M) (f_X3_fitting_L4  M n i v1 kx)) := by
  intro n
  induction n with
  | zero =>
    intro i v1 hin
    refine ax_lump ax_layM ok_kX3 [(4, .iload_n 2, 1, 0, 0, 0), (5, .bipush 16, 2, 0, 0, 0)] (pc' := 7) (lc' := [(0, (2, 3, 0)), (1, (0, 0, v1)), (2, (0, 0, (i : Int)))]) (st' := [(0, 0, 16), (0, 0, (i : Int))]) (M' := M) (C' := True) (by decide +kernel) rfl trivial ?_
    refine ax_icmp_ge (off := 75) (tgt := 82) (by decide +kernel) (by decide) (fun h => ?_) (fun h => ?_)
    · refine ax_pk [1] (lc' := [(1, (0, 0, v1))]) rfl ?_
      exact hkx v1 trivial
    · exfalso; omega
  | succ n ih =>
    intro i v1 hin
    refine ax_lump ax_layM ok_kX3 [(4, .iload_n 2, 1, 0, 0, 0), (5, .bipush 16, 2, 0, 0, 0)] (pc' := 7) (lc' := [(0, (2, 3, 0)), (1, (0, 0, v1)), (2, (0, 0, (i : Int)))]) (st' := [(0, 0, 16), (0, 0, (i : Int))]) (M' := M) (C' := True) (by decide +kernel) rfl trivial ?_
    refine ax_icmp_ge (off := 75) (tgt := 82) (by decide +kernel) (by decide) (fun h => ?_) (fun h => ?_)
    · exfalso; omega
    · exact wb_X3_fitting_B4 d  M i v1 _ kx  (by omega)  (fun u1 => ih (i + 1) u1 (by omega) ) hkx
def f_X3_fitting  (M : ax_M) : Int := f_X3_fitting_L4  M 16 0 0 (fun z11 => z11)
set_option maxRecDepth 100000 in
set_option maxHeartbeats 4000000 in
theorem c_X3_fitting (d : Nat)  (M : ax_M)  : ax_Met ax_LM gX3_fitting (d + 3) [(2, 3, 0)] M ((ax_qi (-2147483648) 2147483647 M) (f_X3_fitting  M)) := by
  refine ax_body (by decide) (fun X => Nat.le_of_ble_eq_true rfl) (fun hok => ?_)
  show ax_W ax_LM gX3_fitting (d + 3) 0 [(0, (2, 3, 0))] [] M _
  unfold f_X3_fitting
  refine ax_lump ax_layM ok_kX3 [(0, .iconst 0, 1, 0, 0, 0), (1, .istore_n 1, 1, 0, 0, 0), (2, .iconst 0, 1, 0, 0, 0), (3, .istore_n 2, 1, 0, 0, 0)] (pc' := 4) (lc' := [(2, (0, 0, 0)), (1, (0, 0, 0)), (0, (2, 3, 0))]) (st' := []) (M' := M) (C' := True) (by decide +kernel) rfl trivial ?_
  refine ax_pk [2,1,0] (lc' := [(0, (2, 3, 0)), (1, (0, 0, 0)), (2, (0, 0, 0))]) rfl ?_
  refine w_X3_fitting_L4 d  M _  (fun z11 hx_11 => ?_) 16 0 0 (by omega) 
  refine ax_lump ax_layM ok_kX3 [(82, .iload_n 1, 1, 0, 0, 0)] (pc' := 83) (lc' := [(1, (0, 0, z11))]) (st' := [(0, 0, z11)]) (M' := M) (C' := True) (by decide +kernel) rfl trivial ?_
  refine ax_rngS (fun hr => ?_)
  exact ax_iret (by decide +kernel) rfl ⟨rfl, rfl, hr.1, hr.2⟩
def f_X3_draws (x1 : Int) (M : ax_M) : Int × ax_M := ax_bd (ax_up M 0 35 (ax_wr ((ax_wr ((M 0 35) * 1103515245)) + 12345))) (fun M1 => ((ax_rem (ax_ushr (M1 0 35) 16) x1), M1))
set_option maxRecDepth 100000 in
set_option maxHeartbeats 4000000 in
theorem c_X3_draws (d : Nat) (x1 : Int) (M : ax_M) (hp0 : 1 ≤ x1 ∧ x1 ≤ 100) : ax_Met ax_LM gX3_draws (d + 0) [(2, 3, 0), (0, 0, x1)] M ((ax_qm (-2147483648) 2147483647) (f_X3_draws x1 M)) := by
  refine ax_body (by decide) (fun X => Nat.le_of_ble_eq_true rfl) (fun hok => ?_)
  have hr_x1 : (-2147483648) ≤ x1 ∧ x1 ≤ 2147483647 := hok (0, 0, x1) (by simp)
  show ax_W ax_LM gX3_draws (d + 0) 0 [(0, (2, 3, 0)), (1, (0, 0, x1))] [] M _
  unfold f_X3_draws
  refine ax_lump ax_layM ok_kX3 [(0, .aload_n 0, 1, 0, 0, 0), (1, .aload_n 0, 1, 0, 0, 0), (2, .getfield 454, 3, 3, 35, 0), (5, .ldc_w 457, 3, 0, 0, 1103515245), (8, .imul, 1, 0, 0, 0), (9, .sipush 12345, 3, 0, 0, 0), (12, .iadd, 1, 0, 0, 0), (13, .putfield 454, 3, 3, 35, 0)] (pc' := 16) (lc' := [(0, (2, 3, 0)), (1, (0, 0, x1))]) (st' := []) (M' := (ax_up M 0 35 (ax_wr ((ax_wr ((M 0 35) * 1103515245)) + 12345)))) (C' := True) (by decide +kernel) rfl trivial ?_
  refine ax_bdMe (fun M1 hM_M1 => ?_)
  refine ax_lump ax_layM ok_kX3 [(16, .aload_n 0, 1, 0, 0, 0), (17, .getfield 454, 3, 3, 35, 0), (20, .bipush 16, 2, 0, 0, 0), (22, .iushr, 1, 0, 0, 0), (23, .iload_n 1, 1, 0, 0, 0), (24, .irem, 1, 0, 0, 0)] (pc' := 25) (lc' := [(0, (2, 3, 0)), (1, (0, 0, x1))]) (st' := [(0, 0, (ax_rem (ax_ushr (M1 0 35) 16) x1))]) (M' := M1) (C' := (True ∧ x1 ≠ 0)) (by decide +kernel) rfl ⟨trivial, by omega⟩ ?_
  refine ax_rngS (fun hr => ?_)
  exact ax_iret (by decide +kernel) rfl ⟨rfl, rfl, hr.1, hr.2⟩
