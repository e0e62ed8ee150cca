def f_X3_readsRule  (M : ax_M) : Prop × Int × ax_M := ax_bd (f_X3_begins 40 M) (fun y1 => ax_bd (ax_up y1.2 0 11 0) (fun M2 => (if y1.1 = 0 then (True, ((f_X3_faultOf y1.1 40 1 M2), M2)) else ax_rc (f_X3_rank 0 M2) (fun y5 => (if y5.1 = 0 then (True, ((f_X3_faultOf y1.1 40 0 y5.2), y5.2)) else (True, ((f_X3_faultOf y1.1 40 1 y5.2), y5.2)))))))
set_option maxRecDepth 100000 in
set_option maxHeartbeats 4000000 in
theorem c_X3_readsRule (d : Nat)  (M : ax_M)  (hX : (f_X3_readsRule  M).1) : ax_Met ax_LM gX3_readsRule (d + 211) [(2, 3, 0)] M ((ax_qm (-2147483648) 2147483647) (f_X3_readsRule  M).2) := by
  refine ax_body (by decide) (fun X => Nat.le_of_ble_eq_true rfl) (fun hok => ?_)
  show ax_W ax_LM gX3_readsRule (d + 211) 0 [(0, (2, 3, 0))] [] M _
  unfold f_X3_readsRule at hX ⊢
  refine ax_lump ax_layM ok_kX3 [(0, .aload_n 0, 1, 0, 0, 0), (1, .bipush 40, 2, 0, 0, 0)] (pc' := 3) (lc' := [(0, (2, 3, 0))]) (st' := [(0, 0, 40), (2, 3, 0)]) (M' := M) (C' := True) (by decide +kernel) rfl trivial ?_
  refine ax_cVm_s hX (G1 := gX3_begins) (d1 := d + 1) (i := 102) (n := 1) (as := [(0, 0, 40)]) (st := []) (c := 3) (a := 0) (by decide +kernel) ax_cls3 calX3_begins (by omega) rfl wt_887 wt_889 ws_70 (Nat.le_of_ble_eq_true rfl) rfl (c_X3_begins d 40 M (by omega)) (fun y1 h_y1 hX => ?_)
  refine ax_lump ax_layM ok_kX3 [(6, .istore_n 1, 1, 0, 0, 0), (7, .aload_n 0, 1, 0, 0, 0), (8, .iconst 0, 1, 0, 0, 0), (9, .putfield 73, 3, 3, 11, 0)] (pc' := 12) (lc' := [(1, (0, 0, y1.1)), (0, (2, 3, 0))]) (st' := []) (M' := (ax_up y1.2 0 11 0)) (C' := (True ∧ (0 ≤ 0 ∧ 0 < ((81 : Nat) : Int)))) (by decide +kernel) rfl ⟨trivial, by omega⟩ ?_
  refine ax_bdMe_s hX (fun M2 hM_M2 hX => ?_)
  refine ax_lump ax_layM ok_kX3 [(12, .iload_n 1, 1, 0, 0, 0)] (pc' := 13) (lc' := [(1, (0, 0, y1.1)), (0, (2, 3, 0))]) (st' := [(0, 0, y1.1)]) (M' := M2) (C' := True) (by decide +kernel) rfl trivial ?_
  refine ax_zeq_s hX (off := 11) (tgt := 24) (by decide +kernel) (by decide) (fun h3 hX => ?_) (fun h3 hX => ?_)
  · refine ax_lump ax_layM ok_kX3 [(24, .iconst 1, 1, 0, 0, 0), (25, .goto 4, 3, 29, 0, 0), (29, .istore_n 2, 1, 0, 0, 0), (30, .aload_n 0, 1, 0, 0, 0), (31, .iload_n 1, 1, 0, 0, 0), (32, .bipush 40, 2, 0, 0, 0), (34, .iload_n 2, 1, 0, 0, 0)] (pc' := 35) (lc' := [(2, (0, 0, 1)), (1, (0, 0, y1.1)), (0, (2, 3, 0))]) (st' := [(0, 0, 1), (0, 0, 40), (0, 0, y1.1), (2, 3, 0)]) (M' := M2) (C' := True) (by decide +kernel) rfl trivial ?_
    refine ax_cVi (G1 := gX3_faultOf) (d1 := d + 0) (i := 105) (n := 3) (as := [(0, 0, y1.1), (0, 0, 40), (0, 0, 1)]) (st := []) (c := 3) (a := 0) (by decide +kernel) ax_cls3 calX3_faultOf (by omega) rfl wt_950 wt_952 ws_78 (Nat.le_of_ble_eq_true rfl) rfl (c_X3_faultOf d y1.1 40 1 M2 (by omega)) (fun hc4 => ?_)
    refine ax_rngS (fun hr => ?_)
    exact ax_iret (by decide +kernel) rfl ⟨rfl, rfl, hr.1, hr.2⟩
  · refine ax_lump ax_layM ok_kX3 [(16, .aload_n 0, 1, 0, 0, 0), (17, .iconst 0, 1, 0, 0, 0)] (pc' := 18) (lc' := [(1, (0, 0, y1.1)), (0, (2, 3, 0))]) (st' := [(0, 0, 0), (2, 3, 0)]) (M' := M2) (C' := True) (by decide +kernel) rfl trivial ?_
    refine ax_cVm_r hX (G1 := gX3_readsRank) (d1 := d + 210) (i := 93) (n := 1) (as := [(0, 0, 0)]) (st := []) (c := 3) (a := 0) (by decide +kernel) ax_cls3 calX3_readsRank (by omega) rfl wt_892 wt_894 ws_71 (Nat.le_of_ble_eq_true rfl) rfl (fun hY => c_X3_rank d 0 M2 (by omega) hY) (fun y5 h_y5 hX => ?_)
    refine ax_zeq_s hX (off := 7) (tgt := 28) (by decide +kernel) (by decide) (fun h6 hX => ?_) (fun h6 hX => ?_)
    · refine ax_lump ax_layM ok_kX3 [(28, .iconst 0, 1, 0, 0, 0), (29, .istore_n 2, 1, 0, 0, 0), (30, .aload_n 0, 1, 0, 0, 0), (31, .iload_n 1, 1, 0, 0, 0), (32, .bipush 40, 2, 0, 0, 0), (34, .iload_n 2, 1, 0, 0, 0)] (pc' := 35) (lc' := [(2, (0, 0, 0)), (1, (0, 0, y1.1)), (0, (2, 3, 0))]) (st' := [(0, 0, 0), (0, 0, 40), (0, 0, y1.1), (2, 3, 0)]) (M' := y5.2) (C' := True) (by decide +kernel) rfl trivial ?_
      refine ax_cVi (G1 := gX3_faultOf) (d1 := d + 0) (i := 105) (n := 3) (as := [(0, 0, y1.1), (0, 0, 40), (0, 0, 0)]) (st := []) (c := 3) (a := 0) (by decide +kernel) ax_cls3 calX3_faultOf (by omega) rfl wt_950 wt_952 ws_78 (Nat.le_of_ble_eq_true rfl) rfl (c_X3_faultOf d y1.1 40 0 y5.2 (by omega)) (fun hc7 => ?_)
      refine ax_rngS (fun hr => ?_)
      exact ax_iret (by decide +kernel) rfl ⟨rfl, rfl, hr.1, hr.2⟩
    · refine ax_lump ax_layM ok_kX3 [(24, .iconst 1, 1, 0, 0, 0), (25, .goto 4, 3, 29, 0, 0), (29, .istore_n 2, 1, 0, 0, 0), (30, .aload_n 0, 1, 0, 0, 0), (31, .iload_n 1, 1, 0, 0, 0), (32, .bipush 40, 2, 0, 0, 0), (34, .iload_n 2, 1, 0, 0, 0)] (pc' := 35) (lc' := [(2, (0, 0, 1)), (1, (0, 0, y1.1)), (0, (2, 3, 0))]) (st' := [(0, 0, 1), (0, 0, 40), (0, 0, y1.1), (2, 3, 0)]) (M' := y5.2) (C' := True) (by decide +kernel) rfl trivial ?_
      refine ax_cVi (G1 := gX3_faultOf) (d1 := d + 0) (i := 105) (n := 3) (as := [(0, 0, y1.1), (0, 0, 40), (0, 0, 1)]) (st := []) (c := 3) (a := 0) (by decide +kernel) ax_cls3 calX3_faultOf (by omega) rfl wt_950 wt_952 ws_78 (Nat.le_of_ble_eq_true rfl) rfl (c_X3_faultOf d y1.1 40 1 y5.2 (by omega)) (fun hc8 => ?_)
      refine ax_rngS (fun hr => ?_)
      exact ax_iret (by decide +kernel) rfl ⟨rfl, rfl, hr.1, hr.2⟩
def f_X3_rule  (M : ax_M) : Prop × Int × ax_M := ax_bd (ax_up M 0 0 0) (fun M1 => ax_rc (f_X3_readsRule M1) (fun y2 => (if y2.1 ≠ 0 then (True, (y2.1, y2.2)) else ax_bd (f_X3_laysCode 4 (y2.2 0 11) y2.2) (fun M5 => (True, (y2.1, M5))))))
set_option maxRecDepth 100000 in
set_option maxHeartbeats 4000000 in
theorem c_X3_rule (d : Nat)  (M : ax_M)  (hX : (f_X3_rule  M).1) : ax_Met ax_LM gX3_rule (d + 212) [(2, 3, 0)] M ((ax_qm (-2147483648) 2147483647) (f_X3_rule  M).2) := by
  refine ax_body (by decide) (fun X => Nat.le_of_ble_eq_true rfl) (fun hok => ?_)
  show ax_W ax_LM gX3_rule (d + 212) 0 [(0, (2, 3, 0))] [] M _
  unfold f_X3_rule at hX ⊢
  refine ax_lump ax_layM ok_kX3 [(0, .aload_n 0, 1, 0, 0, 0), (1, .iconst 0, 1, 0, 0, 0), (2, .putfield 3, 3, 3, 0, 0)] (pc' := 5) (lc' := [(0, (2, 3, 0))]) (st' := []) (M' := (ax_up M 0 0 0)) (C' := (True ∧ (0 ≤ 0 ∧ 0 < ((2 : Nat) : Int)))) (by decide +kernel) rfl ⟨trivial, by omega⟩ ?_
  refine ax_bdMe_s hX (fun M1 hM_M1 hX => ?_)
  refine ax_lump ax_layM ok_kX3 [(5, .aload_n 0, 1, 0, 0, 0)] (pc' := 6) (lc' := [(0, (2, 3, 0))]) (st' := [(2, 3, 0)]) (M' := M1) (C' := True) (by decide +kernel) rfl trivial ?_
  refine ax_cVm_r hX (G1 := gX3_readsRule) (d1 := d + 211) (i := 115) (n := 0) (as := []) (st := []) (c := 3) (a := 0) (by decide +kernel) ax_cls3 calX3_readsRule (by omega) rfl wt_882 wt_884 ws_69 (Nat.le_of_ble_eq_true rfl) rfl (fun hY => c_X3_readsRule d  M1 hY) (fun y2 h_y2 hX => ?_)
  refine ax_lump ax_layM ok_kX3 [(9, .istore_n 1, 1, 0, 0, 0), (10, .iload_n 1, 1, 0, 0, 0)] (pc' := 11) (lc' := [(1, (0, 0, y2.1)), (0, (2, 3, 0))]) (st' := [(0, 0, y2.1)]) (M' := y2.2) (C' := True) (by decide +kernel) rfl trivial ?_
  refine ax_zne_s hX (off := 15) (tgt := 26) (by decide +kernel) (by decide) (fun h3 hX => ?_) (fun h3 hX => ?_)
  · refine ax_lump ax_layM ok_kX3 [(26, .iload_n 1, 1, 0, 0, 0)] (pc' := 27) (lc' := [(1, (0, 0, y2.1)), (0, (2, 3, 0))]) (st' := [(0, 0, y2.1)]) (M' := y2.2) (C' := True) (by decide +kernel) rfl trivial ?_
    refine ax_rngS (fun hr => ?_)
    exact ax_iret (by decide +kernel) rfl ⟨rfl, rfl, hr.1, hr.2⟩
  · refine ax_fact (i := 0) (c := 3) (f := 11) (hi := 80) (s := 0) (by simp) rfl rfl rfl (fun hf4 => ?_)
    have hf4 : 0 ≤ (y2.2 0 11) ∧ (y2.2 0 11) ≤ 80 := hf4
    refine ax_lump ax_layM ok_kX3 [(14, .aload_n 0, 1, 0, 0, 0), (15, .aload_n 0, 1, 0, 0, 0), (16, .getfield 70, 3, 3, 9, 0), (19, .aload_n 0, 1, 0, 0, 0), (20, .getfield 73, 3, 3, 11, 0)] (pc' := 23) (lc' := [(1, (0, 0, y2.1)), (0, (2, 3, 0))]) (st' := [(0, 0, (y2.2 0 11)), (3, 80, 4), (2, 3, 0)]) (M' := y2.2) (C' := True) (by decide +kernel) rfl trivial ?_
    refine ax_cVv_s hX (G1 := gX3_laysCode) (d1 := d + 0) (i := 118) (n := 2) (as := [(3, 80, 4), (0, 0, (y2.2 0 11))]) (st := []) (c := 3) (a := 0) (by decide +kernel) ax_cls3 calX3_laysCode (by omega) rfl wt_954 wt_956 ws_79 (Nat.le_of_ble_eq_true rfl) rfl (c_X3_laysCode d 4 (y2.2 0 11) y2.2 (by omega)) (fun M5 hX => ?_)
    refine ax_lump ax_layM ok_kX3 [(26, .iload_n 1, 1, 0, 0, 0)] (pc' := 27) (lc' := [(1, (0, 0, y2.1)), (0, (2, 3, 0))]) (st' := [(0, 0, y2.1)]) (M' := M5) (C' := True) (by decide +kernel) rfl trivial ?_
    refine ax_rngS (fun hr => ?_)
    exact ax_iret (by decide +kernel) rfl ⟨rfl, rfl, hr.1, hr.2⟩
def f_X3_law_B61 (w1 : Int) (w3 : Int) (w4 : Int) (w5 : Int) (v6 : Int) (M : ax_M) (kc : Int → ax_M → Prop × Int × ax_M) (kx : ax_M → Prop × Int × ax_M) : Prop × Int × ax_M := (if (M 0 10) ≤ v6 then kx M else ax_rq ((0 ≤ v6 ∧ v6 < ((80 : Nat) : Int))) (ax_rq ((0 ≤ v6 ∧ v6 < ((80 : Nat) : Int))) (ax_bd (ax_up M 19 v6.toNat (M 3 v6.toNat)) (fun M14 => kc (v6 + 1) M14))))
def f_X3_law_L61 (w1 : Int) (w3 : Int) (w4 : Int) (w5 : Int) : Nat → Int → ax_M → (ax_M → Prop × Int × ax_M) → Prop × Int × ax_M
  | 0, _, _, _ => (False, (0, fun _ _ => 0))
  | n + 1, v6, M, kx => f_X3_law_B61 w1 w3 w4 w5 v6 M (fun u6 M9 => f_X3_law_L61 w1 w3 w4 w5 n  u6 M9 kx) kx
set_option maxRecDepth 100000 in
set_option maxHeartbeats 4000000 in
theorem wb_X3_law_B61 (d : Nat) (w1 : Int) (w3 : Int) (w4 : Int) (w5 : Int) (v6 : Int) (M : ax_M) (kc : Int → ax_M → Prop × Int × ax_M) (kx : ax_M → Prop × Int × ax_M) (hw_w5 : 0 ≤ w5 ∧ w5 ≤ 80)   (hkc : ∀ (u6 : Int) (M9 : ax_M), (kc u6 M9).1 → ax_W ax_LM gX3_law (d + 212) 61 [(0, (2, 3, 0)), (1, (0, 0, w1)), (3, (0, 0, w3)), (4, (0, 0, w4)), (5, (0, 0, w5)), (6, (0, 0, u6))] [] M9 ((ax_qm (-2147483648) 2147483647) (kc u6 M9).2)) (hkx : ∀ (M9 : ax_M), (True) → (kx M9).1 → ax_W ax_LM gX3_law (d + 212) 90 [(0, (2, 3, 0)), (1, (0, 0, w1)), (3, (0, 0, w3)), (4, (0, 0, w4)), (5, (0, 0, w5))] [] M9 ((ax_qm (-2147483648) 2147483647) (kx M9).2)) (hX : (f_X3_law_B61 w1 w3 w4 w5 v6 M kc kx).1) : ax_W ax_LM gX3_law (d + 212) 61 [(0, (2, 3, 0)), (1, (0, 0, w1)), (3, (0, 0, w3)), (4, (0, 0, w4)), (5, (0, 0, w5)), (6, (0, 0, v6))] [] M ((ax_qm (-2147483648) 2147483647) (f_X3_law_B61 w1 w3 w4 w5 v6 M kc kx).2) := by
  unfold f_X3_law_B61 at hX ⊢
  refine ax_fact (i := 0) (c := 3) (f := 10) (hi := 80) (s := 0) (by simp) rfl rfl rfl (fun hf10 => ?_)
  have hf10 : 0 ≤ (M 0 10) ∧ (M 0 10) ≤ 80 := hf10
  refine ax_lump ax_layM ok_kX3 [(61, .iload 6, 2, 0, 0, 0), (63, .aload_n 0, 1, 0, 0, 0), (64, .getfield 109, 3, 3, 10, 0)] (pc' := 67) (lc' := [(0, (2, 3, 0)), (1, (0, 0, w1)), (3, (0, 0, w3)), (4, (0, 0, w4)), (5, (0, 0, w5)), (6, (0, 0, v6))]) (st' := [(0, 0, (M 0 10)), (0, 0, v6)]) (M' := M) (C' := True) (by decide +kernel) rfl trivial ?_
  refine ax_jge_s hX (off := 23) (tgt := 90) (by decide +kernel) (by decide) (fun h11 hX => ?_) (fun h11 hX => ?_)
  · refine ax_pk [0,1,2,3,4] (lc' := [(0, (2, 3, 0)), (1, (0, 0, w1)), (3, (0, 0, w3)), (4, (0, 0, w4)), (5, (0, 0, w5))]) rfl ?_
    exact hkx M trivial hX
  · refine ax_rq_s hX (fun hS12 hX => ?_)
    refine ax_rq_s hX (fun hS13 hX => ?_)
    refine ax_lump ax_layM ok_kX3 [(70, .aload_n 0, 1, 0, 0, 0), (71, .getfield 174, 3, 3, 36, 0), (74, .iload 6, 2, 0, 0, 0), (76, .aload_n 0, 1, 0, 0, 0), (77, .getfield 112, 3, 3, 8, 0), (80, .iload 6, 2, 0, 0, 0), (82, .iaload, 1, 0, 0, 0), (83, .iastore, 1, 0, 0, 0)] (pc' := 84) (lc' := [(0, (2, 3, 0)), (1, (0, 0, w1)), (3, (0, 0, w3)), (4, (0, 0, w4)), (5, (0, 0, w5)), (6, (0, 0, v6))]) (st' := []) (M' := (ax_up M 19 v6.toNat (M 3 v6.toNat))) (C' := ((True ∧ (0 ≤ v6 ∧ v6 < ((80 : Nat) : Int))) ∧ (0 ≤ v6 ∧ v6 < ((80 : Nat) : Int)))) (by decide +kernel) rfl ⟨⟨trivial, hS12⟩, hS13⟩ ?_
    refine ax_bdMe_s hX (fun M14 hM_M14 hX => ?_)
    have hk_k15 : (M14 0 10) = (M 0 10) := by rw [hM_M14]; exact ax_up_o1 (by omega)
    refine ax_rngL (i := 6) (u := 0) (n := v6) (by simp) (fun hq16 => ?_)
    have hq16 : (-2147483648) ≤ v6 ∧ v6 ≤ 2147483647 := hq16
    refine ax_lump ax_layM ok_kX3 [(84, .iinc 6 1, 3, 1, 0, 0), (87, .goto (-26), 3, 61, 0, 0)] (pc' := 61) (lc' := [(6, (0, 0, (v6 + 1))), (0, (2, 3, 0)), (1, (0, 0, w1)), (3, (0, 0, w3)), (4, (0, 0, w4)), (5, (0, 0, w5))]) (st' := []) (M' := M14) (C' := (True ∧ ax_r32 (v6 + 1))) (by decide +kernel) rfl ⟨trivial, ⟨by omega, by omega⟩⟩ ?_
    refine ax_pk [1,2,3,4,5,0] (lc' := [(0, (2, 3, 0)), (1, (0, 0, w1)), (3, (0, 0, w3)), (4, (0, 0, w4)), (5, (0, 0, w5)), (6, (0, 0, (v6 + 1)))]) rfl ?_
    exact hkc (v6 + 1) M14  hX
set_option maxRecDepth 100000 in
set_option maxHeartbeats 4000000 in
theorem w_X3_law_L61 (d : Nat) (w1 : Int) (w3 : Int) (w4 : Int) (w5 : Int) (kx : ax_M → Prop × Int × ax_M) (hw_w5 : 0 ≤ w5 ∧ w5 ≤ 80) (hkx : ∀ (M9 : ax_M), (True) → (kx M9).1 → ax_W ax_LM gX3_law (d + 212) 90 [(0, (2, 3, 0)), (1, (0, 0, w1)), (3, (0, 0, w3)), (4, (0, 0, w4)), (5, (0, 0, w5))] [] M9 ((ax_qm (-2147483648) 2147483647) (kx M9).2)) : ∀ (n : Nat) (v6 : Int) (M : ax_M), (f_X3_law_L61 w1 w3 w4 w5 n v6 M kx).1 → ax_W ax_LM gX3_law (d + 212) 61 [(0, (2, 3, 0)), (1, (0, 0, w1)), (3, (0, 0, w3)), (4, (0, 0, w4)), (5, (0, 0, w5)), (6, (0, 0, v6))] [] M ((ax_qm (-2147483648) 2147483647) (f_X3_law_L61 w1 w3 w4 w5 n v6 M kx).2) := by
  intro n
  induction n with
  | zero =>
    intro v6 M hX
    exact False.elim hX
  | succ n ih =>
    intro v6 M hX
    exact wb_X3_law_B61 d w1 w3 w4 w5 v6 M _ kx hw_w5   (fun u6 M9 hX => ih u6 M9   hX) hkx hX
def f_X3_law (x1 : Int) (M : ax_M) : Prop × Int × ax_M := ax_bd (ax_up M 0 0 0) (fun M1 => ax_rc (f_X3_readsRule M1) (fun y2 => (if 0 ≤ y2.1 then ax_rc (f_X3_drawnWrites x1 40 y2.2) (fun M4 => ax_bd (f_X3_spreadOf 8 M4) (fun y6 => ax_bd (ax_wr ((M4 8 265) - (M4 0 26))) (fun y7 => ax_bd (M4 0 10) (fun y9 => f_X3_law_L61 x1 y6 y7 y9 100  0 M4 (fun M17 => ax_bd (f_X3_laysCode 4 (M17 0 11) M17) (fun M19 => ax_rc (f_X3_drawnWrites x1 40 M19) (fun M20 => ax_bd (f_X3_laysCode 19 y9 M20) (fun M21 => ax_bd (f_X3_spreadOf 8 M21) (fun y23 => ax_bd (ax_up M21 0 1 0) (fun M24 => ax_rc (f_X3_enters y23 M24) (fun M25 => ax_rc (f_X3_enters y6 M25) (fun M26 => ax_rc (f_X3_enters (ax_wr ((M26 8 265) - (M26 0 26))) M26) (fun M27 => ax_rc (f_X3_enters y7 M27) (fun M28 => (True, ((ax_wr (y23 - y6)), M28)))))))))))))))) else (True, ((ax_wr ((y2.1 + 1) - 10000)), y2.2)))))
set_option maxRecDepth 100000 in
set_option maxHeartbeats 4000000 in
theorem c_X3_law (d : Nat) (x1 : Int) (M : ax_M)  (hX : (f_X3_law x1 M).1) : ax_Met ax_LM gX3_law (d + 212) [(2, 3, 0), (0, 0, x1)] M ((ax_qm (-2147483648) 2147483647) (f_X3_law x1 M).2) := by
  refine ax_body (by decide) (fun X => Nat.le_of_ble_eq_true rfl) (fun hok => ?_)
  have hr_x1 : (-2147483648) ≤ x1 ∧ x1 ≤ 2147483647 := hok (0, 0, x1) (by simp)
  show ax_W ax_LM gX3_law (d + 212) 0 [(0, (2, 3, 0)), (1, (0, 0, x1))] [] M _
  unfold f_X3_law at hX ⊢
  refine ax_lump ax_layM ok_kX3 [(0, .aload_n 0, 1, 0, 0, 0), (1, .iconst 0, 1, 0, 0, 0), (2, .putfield 3, 3, 3, 0, 0)] (pc' := 5) (lc' := [(0, (2, 3, 0)), (1, (0, 0, x1))]) (st' := []) (M' := (ax_up M 0 0 0)) (C' := (True ∧ (0 ≤ 0 ∧ 0 < ((2 : Nat) : Int)))) (by decide +kernel) rfl ⟨trivial, by omega⟩ ?_
  refine ax_bdMe_s hX (fun M1 hM_M1 hX => ?_)
  refine ax_lump ax_layM ok_kX3 [(5, .aload_n 0, 1, 0, 0, 0)] (pc' := 6) (lc' := [(0, (2, 3, 0)), (1, (0, 0, x1))]) (st' := [(2, 3, 0)]) (M' := M1) (C' := True) (by decide +kernel) rfl trivial ?_
  refine ax_cVm_r hX (G1 := gX3_readsRule) (d1 := d + 211) (i := 115) (n := 0) (as := []) (st := []) (c := 3) (a := 0) (by decide +kernel) ax_cls3 calX3_readsRule (by omega) rfl wt_882 wt_884 ws_69 (Nat.le_of_ble_eq_true rfl) rfl (fun hY => c_X3_readsRule d  M1 hY) (fun y2 h_y2 hX => ?_)
  refine ax_lump ax_layM ok_kX3 [(9, .istore_n 2, 1, 0, 0, 0), (10, .iload_n 2, 1, 0, 0, 0)] (pc' := 11) (lc' := [(2, (0, 0, y2.1)), (0, (2, 3, 0)), (1, (0, 0, x1))]) (st' := [(0, 0, y2.1)]) (M' := y2.2) (C' := True) (by decide +kernel) rfl trivial ?_
  refine ax_zge_s hX (off := 11) (tgt := 22) (by decide +kernel) (by decide) (fun h3 hX => ?_) (fun h3 hX => ?_)
  · refine ax_lump ax_layM ok_kX3 [(22, .aload_n 0, 1, 0, 0, 0), (23, .iload_n 1, 1, 0, 0, 0), (24, .bipush 40, 2, 0, 0, 0)] (pc' := 26) (lc' := [(2, (0, 0, y2.1)), (0, (2, 3, 0)), (1, (0, 0, x1))]) (st' := [(0, 0, 40), (0, 0, x1), (2, 3, 0)]) (M' := y2.2) (C' := True) (by decide +kernel) rfl trivial ?_
    refine ax_cVv_r hX (G1 := gX3_drawnWrites) (d1 := d + 9) (i := 461) (n := 2) (as := [(0, 0, x1), (0, 0, 40)]) (st := []) (c := 3) (a := 0) (by decide +kernel) ax_cls3 calX3_drawnWrites (by omega) rfl wt_1463 wt_1465 ws_117 (Nat.le_of_ble_eq_true rfl) rfl (fun hY => c_X3_drawnWrites d x1 40 y2.2 (by omega) hY) (fun M4 hX => ?_)
    refine ax_lump ax_layM ok_kX3 [(29, .aload_n 0, 1, 0, 0, 0), (30, .getfield 141, 3, 3, 15, 0)] (pc' := 33) (lc' := [(2, (0, 0, y2.1)), (0, (2, 3, 0)), (1, (0, 0, x1))]) (st' := [(3, 274, 8)]) (M' := M4) (C' := True) (by decide +kernel) rfl trivial ?_
    refine ax_cSi (G1 := gX3_spreadOf) (d1 := d + 1) (i := 424) (n := 1) (as := [(3, 274, 8)]) (st := []) (by decide +kernel) calX3_spreadOf (by omega) rfl wt_1388 wt_1389 (Nat.le_of_ble_eq_true rfl) rfl (c_X3_spreadOf d 8 M4) (fun hc5 => ?_)
    refine ax_lump ax_layM ok_kX3 [(36, .istore_n 3, 1, 0, 0, 0)] (pc' := 37) (lc' := [(3, (0, 0, (f_X3_spreadOf 8 M4))), (2, (0, 0, y2.1)), (0, (2, 3, 0)), (1, (0, 0, x1))]) (st' := []) (M' := M4) (C' := True) (by decide +kernel) rfl trivial ?_
    refine ax_bdI0_s hX (e := (f_X3_spreadOf 8 M4)) (fun y6 => [(3, (0, 0, y6)), (2, (0, 0, y2.1)), (0, (2, 3, 0)), (1, (0, 0, x1))]) (fun y6 => []) (fun y6 hX => ?_)
    refine ax_lump ax_layM ok_kX3 [(37, .aload_n 0, 1, 0, 0, 0), (38, .getfield 141, 3, 3, 15, 0), (41, .sipush 265, 3, 0, 0, 0), (44, .iaload, 1, 0, 0, 0), (45, .aload_n 0, 1, 0, 0, 0), (46, .getfield 339, 3, 3, 26, 0), (49, .isub, 1, 0, 0, 0), (50, .istore 4, 2, 0, 0, 0)] (pc' := 52) (lc' := [(4, (0, 0, (ax_wr ((M4 8 265) - (M4 0 26))))), (3, (0, 0, y6)), (2, (0, 0, y2.1)), (0, (2, 3, 0)), (1, (0, 0, x1))]) (st' := []) (M' := M4) (C' := (True ∧ (0 ≤ 265 ∧ 265 < ((274 : Nat) : Int)))) (by decide +kernel) rfl ⟨trivial, by omega⟩ ?_
    refine ax_bdI0_s hX (e := (ax_wr ((M4 8 265) - (M4 0 26)))) (fun y7 => [(4, (0, 0, y7)), (3, (0, 0, y6)), (2, (0, 0, y2.1)), (0, (2, 3, 0)), (1, (0, 0, x1))]) (fun y7 => []) (fun y7 hX => ?_)
    refine ax_fact (i := 0) (c := 3) (f := 10) (hi := 80) (s := 0) (by simp) rfl rfl rfl (fun hf8 => ?_)
    have hf8 : 0 ≤ (M4 0 10) ∧ (M4 0 10) ≤ 80 := hf8
    refine ax_lump ax_layM ok_kX3 [(52, .aload_n 0, 1, 0, 0, 0), (53, .getfield 109, 3, 3, 10, 0), (56, .istore 5, 2, 0, 0, 0)] (pc' := 58) (lc' := [(5, (0, 0, (M4 0 10))), (4, (0, 0, y7)), (3, (0, 0, y6)), (2, (0, 0, y2.1)), (0, (2, 3, 0)), (1, (0, 0, x1))]) (st' := []) (M' := M4) (C' := True) (by decide +kernel) rfl trivial ?_
    refine ax_bdI_s hX (lo := 0) (hi := 80) (e := (M4 0 10)) (fun y9 => [(5, (0, 0, y9)), (4, (0, 0, y7)), (3, (0, 0, y6)), (2, (0, 0, y2.1)), (0, (2, 3, 0)), (1, (0, 0, x1))]) (fun y9 => []) (by omega) (fun y9 h_y9 hX => ?_)
    refine ax_lump ax_layM ok_kX3 [(58, .iconst 0, 1, 0, 0, 0), (59, .istore 6, 2, 0, 0, 0)] (pc' := 61) (lc' := [(6, (0, 0, 0)), (5, (0, 0, y9)), (4, (0, 0, y7)), (3, (0, 0, y6)), (2, (0, 0, y2.1)), (0, (2, 3, 0)), (1, (0, 0, x1))]) (st' := []) (M' := M4) (C' := True) (by decide +kernel) rfl trivial ?_
    refine ax_pk [5,6,3,2,1,0] (lc' := [(0, (2, 3, 0)), (1, (0, 0, x1)), (3, (0, 0, y6)), (4, (0, 0, y7)), (5, (0, 0, y9)), (6, (0, 0, 0))]) rfl ?_
    refine w_X3_law_L61 d x1 y6 y7 y9 _ (by omega) (fun M17 hx_17 hX => ?_) 100  0 M4   hX
    refine ax_fact (i := 0) (c := 3) (f := 11) (hi := 80) (s := 0) (by simp) rfl rfl rfl (fun hf18 => ?_)
    have hf18 : 0 ≤ (M17 0 11) ∧ (M17 0 11) ≤ 80 := hf18
    refine ax_lump ax_layM ok_kX3 [(90, .aload_n 0, 1, 0, 0, 0), (91, .aload_n 0, 1, 0, 0, 0), (92, .getfield 70, 3, 3, 9, 0), (95, .aload_n 0, 1, 0, 0, 0), (96, .getfield 73, 3, 3, 11, 0)] (pc' := 99) (lc' := [(0, (2, 3, 0)), (1, (0, 0, x1)), (3, (0, 0, y6)), (4, (0, 0, y7)), (5, (0, 0, y9))]) (st' := [(0, 0, (M17 0 11)), (3, 80, 4), (2, 3, 0)]) (M' := M17) (C' := True) (by decide +kernel) rfl trivial ?_
    refine ax_cVv_s hX (G1 := gX3_laysCode) (d1 := d + 0) (i := 118) (n := 2) (as := [(3, 80, 4), (0, 0, (M17 0 11))]) (st := []) (c := 3) (a := 0) (by decide +kernel) ax_cls3 calX3_laysCode (by omega) rfl wt_954 wt_956 ws_79 (Nat.le_of_ble_eq_true rfl) rfl (c_X3_laysCode d 4 (M17 0 11) M17 (by omega)) (fun M19 hX => ?_)
    refine ax_lump ax_layM ok_kX3 [(102, .aload_n 0, 1, 0, 0, 0), (103, .iload_n 1, 1, 0, 0, 0), (104, .bipush 40, 2, 0, 0, 0)] (pc' := 106) (lc' := [(0, (2, 3, 0)), (1, (0, 0, x1)), (3, (0, 0, y6)), (4, (0, 0, y7)), (5, (0, 0, y9))]) (st' := [(0, 0, 40), (0, 0, x1), (2, 3, 0)]) (M' := M19) (C' := True) (by decide +kernel) rfl trivial ?_
    refine ax_cVv_r hX (G1 := gX3_drawnWrites) (d1 := d + 9) (i := 461) (n := 2) (as := [(0, 0, x1), (0, 0, 40)]) (st := []) (c := 3) (a := 0) (by decide +kernel) ax_cls3 calX3_drawnWrites (by omega) rfl wt_1463 wt_1465 ws_117 (Nat.le_of_ble_eq_true rfl) rfl (fun hY => c_X3_drawnWrites d x1 40 M19 (by omega) hY) (fun M20 hX => ?_)
    refine ax_lump ax_layM ok_kX3 [(109, .aload_n 0, 1, 0, 0, 0), (110, .aload_n 0, 1, 0, 0, 0), (111, .getfield 174, 3, 3, 36, 0), (114, .iload 5, 2, 0, 0, 0)] (pc' := 116) (lc' := [(0, (2, 3, 0)), (1, (0, 0, x1)), (3, (0, 0, y6)), (4, (0, 0, y7)), (5, (0, 0, y9))]) (st' := [(0, 0, y9), (3, 80, 19), (2, 3, 0)]) (M' := M20) (C' := True) (by decide +kernel) rfl trivial ?_
    refine ax_cVv_s hX (G1 := gX3_laysCode) (d1 := d + 0) (i := 118) (n := 2) (as := [(3, 80, 19), (0, 0, y9)]) (st := []) (c := 3) (a := 0) (by decide +kernel) ax_cls3 calX3_laysCode (by omega) rfl wt_954 wt_956 ws_79 (Nat.le_of_ble_eq_true rfl) rfl (c_X3_laysCode d 19 y9 M20 (by omega)) (fun M21 hX => ?_)
    refine ax_lump ax_layM ok_kX3 [(119, .aload_n 0, 1, 0, 0, 0), (120, .getfield 141, 3, 3, 15, 0)] (pc' := 123) (lc' := [(0, (2, 3, 0)), (1, (0, 0, x1)), (3, (0, 0, y6)), (4, (0, 0, y7)), (5, (0, 0, y9))]) (st' := [(3, 274, 8)]) (M' := M21) (C' := True) (by decide +kernel) rfl trivial ?_
    refine ax_cSi (G1 := gX3_spreadOf) (d1 := d + 1) (i := 424) (n := 1) (as := [(3, 274, 8)]) (st := []) (by decide +kernel) calX3_spreadOf (by omega) rfl wt_1388 wt_1389 (Nat.le_of_ble_eq_true rfl) rfl (c_X3_spreadOf d 8 M21) (fun hc22 => ?_)
    refine ax_lump ax_layM ok_kX3 [(126, .istore 6, 2, 0, 0, 0)] (pc' := 128) (lc' := [(6, (0, 0, (f_X3_spreadOf 8 M21))), (0, (2, 3, 0)), (1, (0, 0, x1)), (3, (0, 0, y6)), (4, (0, 0, y7)), (5, (0, 0, y9))]) (st' := []) (M' := M21) (C' := True) (by decide +kernel) rfl trivial ?_
    refine ax_bdI0_s hX (e := (f_X3_spreadOf 8 M21)) (fun y23 => [(6, (0, 0, y23)), (0, (2, 3, 0)), (1, (0, 0, x1)), (3, (0, 0, y6)), (4, (0, 0, y7)), (5, (0, 0, y9))]) (fun y23 => []) (fun y23 hX => ?_)
    refine ax_lump ax_layM ok_kX3 [(128, .aload_n 0, 1, 0, 0, 0), (129, .iconst 0, 1, 0, 0, 0), (130, .putfield 15, 3, 3, 1, 0)] (pc' := 133) (lc' := [(6, (0, 0, y23)), (0, (2, 3, 0)), (1, (0, 0, x1)), (3, (0, 0, y6)), (4, (0, 0, y7)), (5, (0, 0, y9))]) (st' := []) (M' := (ax_up M21 0 1 0)) (C' := (True ∧ (0 ≤ 0 ∧ 0 < ((25 : Nat) : Int)))) (by decide +kernel) rfl ⟨trivial, by omega⟩ ?_
    refine ax_bdMe_s hX (fun M24 hM_M24 hX => ?_)
    refine ax_lump ax_layM ok_kX3 [(133, .aload_n 0, 1, 0, 0, 0), (134, .iload 6, 2, 0, 0, 0), (136, .i2l, 1, 0, 0, 0)] (pc' := 137) (lc' := [(6, (0, 0, y23)), (0, (2, 3, 0)), (1, (0, 0, x1)), (3, (0, 0, y6)), (4, (0, 0, y7)), (5, (0, 0, y9))]) (st' := [(1, 0, y23), (2, 3, 0)]) (M' := M24) (C' := True) (by decide +kernel) rfl trivial ?_
    refine ax_cVv_r hX (G1 := gX3_enters) (d1 := d + 0) (i := 345) (n := 1) (as := [(1, 0, y23)]) (st := []) (c := 3) (a := 0) (by decide +kernel) ax_cls3 calX3_enters (by omega) rfl wt_1256 wt_1258 ws_98 (Nat.le_of_ble_eq_true rfl) rfl (fun hY => c_X3_enters d y23 M24 hY) (fun M25 hX => ?_)
    refine ax_lump ax_layM ok_kX3 [(140, .aload_n 0, 1, 0, 0, 0), (141, .iload_n 3, 1, 0, 0, 0), (142, .i2l, 1, 0, 0, 0)] (pc' := 143) (lc' := [(6, (0, 0, y23)), (0, (2, 3, 0)), (1, (0, 0, x1)), (3, (0, 0, y6)), (4, (0, 0, y7)), (5, (0, 0, y9))]) (st' := [(1, 0, y6), (2, 3, 0)]) (M' := M25) (C' := True) (by decide +kernel) rfl trivial ?_
    refine ax_cVv_r hX (G1 := gX3_enters) (d1 := d + 0) (i := 345) (n := 1) (as := [(1, 0, y6)]) (st := []) (c := 3) (a := 0) (by decide +kernel) ax_cls3 calX3_enters (by omega) rfl wt_1256 wt_1258 ws_98 (Nat.le_of_ble_eq_true rfl) rfl (fun hY => c_X3_enters d y6 M25 hY) (fun M26 hX => ?_)
    refine ax_lump ax_layM ok_kX3 [(146, .aload_n 0, 1, 0, 0, 0), (147, .aload_n 0, 1, 0, 0, 0), (148, .getfield 141, 3, 3, 15, 0), (151, .sipush 265, 3, 0, 0, 0), (154, .iaload, 1, 0, 0, 0), (155, .aload_n 0, 1, 0, 0, 0), (156, .getfield 339, 3, 3, 26, 0), (159, .isub, 1, 0, 0, 0), (160, .i2l, 1, 0, 0, 0)] (pc' := 161) (lc' := [(6, (0, 0, y23)), (0, (2, 3, 0)), (1, (0, 0, x1)), (3, (0, 0, y6)), (4, (0, 0, y7)), (5, (0, 0, y9))]) (st' := [(1, 0, (ax_wr ((M26 8 265) - (M26 0 26)))), (2, 3, 0)]) (M' := M26) (C' := (True ∧ (0 ≤ 265 ∧ 265 < ((274 : Nat) : Int)))) (by decide +kernel) rfl ⟨trivial, by omega⟩ ?_
    refine ax_cVv_r hX (G1 := gX3_enters) (d1 := d + 0) (i := 345) (n := 1) (as := [(1, 0, (ax_wr ((M26 8 265) - (M26 0 26))))]) (st := []) (c := 3) (a := 0) (by decide +kernel) ax_cls3 calX3_enters (by omega) rfl wt_1256 wt_1258 ws_98 (Nat.le_of_ble_eq_true rfl) rfl (fun hY => c_X3_enters d (ax_wr ((M26 8 265) - (M26 0 26))) M26 hY) (fun M27 hX => ?_)
    refine ax_lump ax_layM ok_kX3 [(164, .aload_n 0, 1, 0, 0, 0), (165, .iload 4, 2, 0, 0, 0), (167, .i2l, 1, 0, 0, 0)] (pc' := 168) (lc' := [(6, (0, 0, y23)), (0, (2, 3, 0)), (1, (0, 0, x1)), (3, (0, 0, y6)), (4, (0, 0, y7)), (5, (0, 0, y9))]) (st' := [(1, 0, y7), (2, 3, 0)]) (M' := M27) (C' := True) (by decide +kernel) rfl trivial ?_
    refine ax_cVv_r hX (G1 := gX3_enters) (d1 := d + 0) (i := 345) (n := 1) (as := [(1, 0, y7)]) (st := []) (c := 3) (a := 0) (by decide +kernel) ax_cls3 calX3_enters (by omega) rfl wt_1256 wt_1258 ws_98 (Nat.le_of_ble_eq_true rfl) rfl (fun hY => c_X3_enters d y7 M27 hY) (fun M28 hX => ?_)
    refine ax_lump ax_layM ok_kX3 [(171, .iload 6, 2, 0, 0, 0), (173, .iload_n 3, 1, 0, 0, 0), (174, .isub, 1, 0, 0, 0)] (pc' := 175) (lc' := [(6, (0, 0, y23)), (0, (2, 3, 0)), (1, (0, 0, x1)), (3, (0, 0, y6)), (4, (0, 0, y7)), (5, (0, 0, y9))]) (st' := [(0, 0, (ax_wr (y23 - y6)))]) (M' := M28) (C' := True) (by decide +kernel) rfl trivial ?_
    refine ax_rngS (fun hr => ?_)
    exact ax_iret (by decide +kernel) rfl ⟨rfl, rfl, hr.1, hr.2⟩
  · refine ax_rngL (i := 2) (u := 0) (n := y2.1) (by simp) (fun hq29 => ?_)
    have hq29 : (-2147483648) ≤ y2.1 ∧ y2.1 ≤ 2147483647 := hq29
    refine ax_lump ax_layM ok_kX3 [(14, .iload_n 2, 1, 0, 0, 0), (15, .iconst 1, 1, 0, 0, 0), (16, .iadd, 1, 1, 0, 0), (17, .sipush 10000, 3, 0, 0, 0), (20, .isub, 1, 0, 0, 0)] (pc' := 21) (lc' := [(2, (0, 0, y2.1)), (0, (2, 3, 0)), (1, (0, 0, x1))]) (st' := [(0, 0, (ax_wr ((y2.1 + 1) - 10000)))]) (M' := y2.2) (C' := (True ∧ ax_r32 (y2.1 + 1))) (by decide +kernel) rfl ⟨trivial, ⟨by omega, by omega⟩⟩ ?_
    refine ax_rngS (fun hr => ?_)
    exact ax_iret (by decide +kernel) rfl ⟨rfl, rfl, hr.1, hr.2⟩
