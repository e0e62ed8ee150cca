def f_X3_levelsOne_B52 (a1 : Nat) (w2 : Int) (w3 : Int) (w4 : Int) (i : Nat)  (M : ax_M) (kc : ax_M → Prop × Int × ax_M) (kx : ax_M → Prop × Int × ax_M) : Prop × Int × ax_M := (if (f_X3_isWritten a1 ((4 * w2) + (i : Int)) M) = 0 then kc M else ax_rq ((0 ≤ ((4 * w3) + (i : Int)) ∧ ((4 * w3) + (i : Int)) ≤ 63)) (ax_bd (f_X3_copiesLeaf a1 ((4 * w2) + (i : Int)) ((4 * w3) + (i : Int)) M) (fun M12 => kc M12)))
def f_X3_levelsOne_L52 (a1 : Nat) (w2 : Int) (w3 : Int) (w4 : Int) : Nat → Nat → ax_M → (ax_M → Prop × Int × ax_M) → Prop × Int × ax_M
  | 0, i, M, kx => kx M
  | n + 1, i, M, kx => f_X3_levelsOne_B52 a1 w2 w3 w4 i  M (fun M9 => f_X3_levelsOne_L52 a1 w2 w3 w4 n (i + 1) M9 kx) kx
set_option maxRecDepth 100000 in
set_option maxHeartbeats 4000000 in
theorem wb_X3_levelsOne_B52 (d : Nat) (a1 : Nat) (w2 : Int) (w3 : Int) (w4 : Int) (i : Nat)  (M : ax_M) (kc : ax_M → Prop × Int × ax_M) (kx : ax_M → Prop × Int × ax_M) (hw_w2 : 0 ≤ w2 ∧ w2 ≤ 15) (hw_w3 : (-1) ≤ w3 ∧ w3 ≤ 15) (hi : 0 ≤ i ∧ i < 4)  (hkc : ∀ (M9 : ax_M), (kc M9).1 → ax_W ax_LM gX3_levelsOne (d + 3) 52 [(0, (2, 3, 0)), (1, (3, 274, (a1 : Int))), (2, (0, 0, w2)), (3, (0, 0, w3)), (4, (0, 0, w4)), (5, (0, 0, ((i : Int) + 1)))] [] M9 ((ax_qm (-1) 15) (kc M9).2)) (hkx : ∀ (M9 : ax_M), (True) → (kx M9).1 → ax_W ax_LM gX3_levelsOne (d + 3) 94 [(0, (2, 3, 0)), (1, (3, 274, (a1 : Int))), (2, (0, 0, w2)), (3, (0, 0, w3)), (4, (0, 0, w4))] [] M9 ((ax_qm (-1) 15) (kx M9).2)) (hX : (f_X3_levelsOne_B52 a1 w2 w3 w4 i  M kc kx).1) : ax_W ax_LM gX3_levelsOne (d + 3) 58 [(0, (2, 3, 0)), (1, (3, 274, (a1 : Int))), (2, (0, 0, w2)), (3, (0, 0, w3)), (4, (0, 0, w4)), (5, (0, 0, (i : Int)))] [] M ((ax_qm (-1) 15) (f_X3_levelsOne_B52 a1 w2 w3 w4 i  M kc kx).2) := by
  unfold f_X3_levelsOne_B52 at hX ⊢
  refine ax_lump ax_layM ok_kX3 [(58, .aload_n 1, 1, 0, 0, 0), (59, .iconst 4, 1, 0, 0, 0), (60, .iload_n 2, 1, 0, 0, 0), (61, .imul, 1, 1, 0, 0), (62, .iload 5, 2, 0, 0, 0), (64, .iadd, 1, 1, 0, 0)] (pc' := 65) (lc' := [(0, (2, 3, 0)), (1, (3, 274, (a1 : Int))), (2, (0, 0, w2)), (3, (0, 0, w3)), (4, (0, 0, w4)), (5, (0, 0, (i : Int)))]) (st' := [(0, 0, ((4 * w2) + (i : Int))), (3, 274, (a1 : Int))]) (M' := M) (C' := ((True ∧ ax_r32 (4 * w2)) ∧ ax_r32 ((4 * w2) + (i : Int)))) (by decide +kernel) rfl ⟨⟨trivial, ⟨by omega, by omega⟩⟩, ⟨by omega, by omega⟩⟩ ?_
  refine ax_cSi (G1 := gX3_isWritten) (d1 := d + 0) (i := 195) (n := 2) (as := [(3, 274, (a1 : Int)), (0, 0, ((4 * w2) + (i : Int)))]) (st := []) (by decide +kernel) calX3_isWritten (by omega) rfl wt_1098 wt_1099 (Nat.le_of_ble_eq_true rfl) rfl (c_X3_isWritten d a1 ((4 * w2) + (i : Int)) M (by omega)) (fun hc9 => ?_)
  refine ax_zeq_s hX (off := 20) (tgt := 88) (by decide +kernel) (by decide) (fun h10 hX => ?_) (fun h10 hX => ?_)
  · refine ax_lump ax_layM ok_kX3 [(88, .iinc 5 1, 3, 1, 0, 0), (91, .goto (-39), 3, 52, 0, 0)] (pc' := 52) (lc' := [(5, (0, 0, ((i : Int) + 1))), (0, (2, 3, 0)), (1, (3, 274, (a1 : Int))), (2, (0, 0, w2)), (3, (0, 0, w3)), (4, (0, 0, w4))]) (st' := []) (M' := M) (C' := (True ∧ ax_r32 ((i : Int) + 1))) (by decide +kernel) rfl ⟨trivial, ⟨by omega, by omega⟩⟩ ?_
    refine ax_pk [1,2,3,4,5,0] (lc' := [(0, (2, 3, 0)), (1, (3, 274, (a1 : Int))), (2, (0, 0, w2)), (3, (0, 0, w3)), (4, (0, 0, w4)), (5, (0, 0, ((i : Int) + 1)))]) rfl ?_
    exact hkc M  hX
  · refine ax_rq_s hX (fun hS11 hX => ?_)
    refine ax_lump ax_layM ok_kX3 [(71, .aload_n 0, 1, 0, 0, 0), (72, .aload_n 1, 1, 0, 0, 0), (73, .iconst 4, 1, 0, 0, 0), (74, .iload_n 2, 1, 0, 0, 0), (75, .imul, 1, 1, 0, 0), (76, .iload 5, 2, 0, 0, 0), (78, .iadd, 1, 1, 0, 0), (79, .iconst 4, 1, 0, 0, 0), (80, .iload_n 3, 1, 0, 0, 0), (81, .imul, 1, 1, 0, 0), (82, .iload 5, 2, 0, 0, 0), (84, .iadd, 1, 1, 0, 0)] (pc' := 85) (lc' := [(0, (2, 3, 0)), (1, (3, 274, (a1 : Int))), (2, (0, 0, w2)), (3, (0, 0, w3)), (4, (0, 0, w4)), (5, (0, 0, (i : Int)))]) (st' := [(0, 0, ((4 * w3) + (i : Int))), (0, 0, ((4 * w2) + (i : Int))), (3, 274, (a1 : Int)), (2, 3, 0)]) (M' := M) (C' := ((((True ∧ ax_r32 (4 * w2)) ∧ ax_r32 ((4 * w2) + (i : Int))) ∧ ax_r32 (4 * w3)) ∧ ax_r32 ((4 * w3) + (i : Int)))) (by decide +kernel) rfl ⟨⟨⟨⟨trivial, ⟨by omega, by omega⟩⟩, ⟨by omega, by omega⟩⟩, ⟨by omega, by omega⟩⟩, ⟨by omega, by omega⟩⟩ ?_
    refine ax_cVv_s hX (G1 := gX3_copiesLeaf) (d1 := d + 2) (i := 224) (n := 3) (as := [(3, 274, (a1 : Int)), (0, 0, ((4 * w2) + (i : Int))), (0, 0, ((4 * w3) + (i : Int)))]) (st := []) (c := 3) (a := 0) (by decide +kernel) ax_cls3 calX3_copiesLeaf (by omega) rfl wt_1176 wt_1178 ws_88 (Nat.le_of_ble_eq_true rfl) rfl (c_X3_copiesLeaf d a1 ((4 * w2) + (i : Int)) ((4 * w3) + (i : Int)) M (by omega) (hS11)) (fun M12 hX => ?_)
    refine ax_lump ax_layM ok_kX3 [(88, .iinc 5 1, 3, 1, 0, 0), (91, .goto (-39), 3, 52, 0, 0)] (pc' := 52) (lc' := [(5, (0, 0, ((i : Int) + 1))), (0, (2, 3, 0)), (1, (3, 274, (a1 : Int))), (2, (0, 0, w2)), (3, (0, 0, w3)), (4, (0, 0, w4))]) (st' := []) (M' := M12) (C' := (True ∧ ax_r32 ((i : Int) + 1))) (by decide +kernel) rfl ⟨trivial, ⟨by omega, by omega⟩⟩ ?_
    refine ax_pk [1,2,3,4,5,0] (lc' := [(0, (2, 3, 0)), (1, (3, 274, (a1 : Int))), (2, (0, 0, w2)), (3, (0, 0, w3)), (4, (0, 0, w4)), (5, (0, 0, ((i : Int) + 1)))]) rfl ?_
    exact hkc M12  hX
set_option maxRecDepth 100000 in
set_option maxHeartbeats 4000000 in
theorem w_X3_levelsOne_L52 (d : Nat) (a1 : Nat) (w2 : Int) (w3 : Int) (w4 : Int) (kx : ax_M → Prop × Int × ax_M) (hw_w2 : 0 ≤ w2 ∧ w2 ≤ 15) (hw_w3 : (-1) ≤ w3 ∧ w3 ≤ 15) (hkx : ∀ (M9 : ax_M), (True) → (kx M9).1 → ax_W ax_LM gX3_levelsOne (d + 3) 94 [(0, (2, 3, 0)), (1, (3, 274, (a1 : Int))), (2, (0, 0, w2)), (3, (0, 0, w3)), (4, (0, 0, w4))] [] M9 ((ax_qm (-1) 15) (kx M9).2)) : ∀ (n : Nat) (i : Nat) (M : ax_M), 0 ≤ i ∧ i + n = 4 → (f_X3_levelsOne_L52 a1 w2 w3 w4 n i  M kx).1 → ax_W ax_LM gX3_levelsOne (d + 3) 52 [(0, (2, 3, 0)), (1, (3, 274, (a1 : Int))), (2, (0, 0, w2)), (3, (0, 0, w3)), (4, (0, 0, w4)), (5, (0, 0, (i : Int)))] [] M ((ax_qm (-1) 15) (f_X3_levelsOne_L52 a1 w2 w3 w4 n i  M kx).2) := by
  intro n
  induction n with
  | zero =>
    intro i M hin hX
    refine ax_lump ax_layM ok_kX3 [(52, .iload 5, 2, 0, 0, 0), (54, .iconst 4, 1, 0, 0, 0)] (pc' := 55) (lc' := [(0, (2, 3, 0)), (1, (3, 274, (a1 : Int))), (2, (0, 0, w2)), (3, (0, 0, w3)), (4, (0, 0, w4)), (5, (0, 0, (i : Int)))]) (st' := [(0, 0, 4), (0, 0, (i : Int))]) (M' := M) (C' := True) (by decide +kernel) rfl trivial ?_
    refine ax_icmp_ge (off := 39) (tgt := 94) (by decide +kernel) (by decide) (fun h => ?_) (fun h => ?_)
    · refine ax_pk [0,1,2,3,4] (lc' := [(0, (2, 3, 0)), (1, (3, 274, (a1 : Int))), (2, (0, 0, w2)), (3, (0, 0, w3)), (4, (0, 0, w4))]) rfl ?_
      exact hkx M trivial hX
    · exfalso; omega
  | succ n ih =>
    intro i M hin hX
    refine ax_lump ax_layM ok_kX3 [(52, .iload 5, 2, 0, 0, 0), (54, .iconst 4, 1, 0, 0, 0)] (pc' := 55) (lc' := [(0, (2, 3, 0)), (1, (3, 274, (a1 : Int))), (2, (0, 0, w2)), (3, (0, 0, w3)), (4, (0, 0, w4)), (5, (0, 0, (i : Int)))]) (st' := [(0, 0, 4), (0, 0, (i : Int))]) (M' := M) (C' := True) (by decide +kernel) rfl trivial ?_
    refine ax_icmp_ge (off := 39) (tgt := 94) (by decide +kernel) (by decide) (fun h => ?_) (fun h => ?_)
    · exfalso; omega
    · exact wb_X3_levelsOne_B52 d a1 w2 w3 w4 i  M _ kx hw_w2 hw_w3 (by omega)  (fun M9 hX => ih (i + 1)  M9 (by omega)  hX) hkx hX
def f_X3_levelsOne (a1 : Nat) (M : ax_M) : Prop × Int × ax_M := ax_bd (f_X3_toLevel a1 1 M) (fun y2 => ax_bd (f_X3_toLevel a1 0 M) (fun y4 => (if y2 < 0 then (True, ((-1), M)) else (if (M a1 (224 + y2).toNat) < (M a1 (224 + y4).toNat) then ax_bd (ax_up M 0 21 y2) (fun M7 => ax_bd (M7 a1 (208 + y2).toNat) (fun y8 => f_X3_levelsOne_L52 a1 y2 y4 y8 4 0  M7 (fun M13 => ax_bd (ax_up M13 a1 (192 + y4).toNat 1) (fun M14 => ax_bd (ax_up M14 a1 (208 + y4).toNat y8) (fun M15 => ax_bd (f_X3_wipes a1 y2 M15) (fun M16 => (True, (y4, M16)))))))) else (True, ((-1), M))))))
set_option maxRecDepth 100000 in
set_option maxHeartbeats 4000000 in
theorem c_X3_levelsOne (d : Nat) (a1 : Nat) (M : ax_M)  (hX : (f_X3_levelsOne a1 M).1) : ax_Met ax_LM gX3_levelsOne (d + 3) [(2, 3, 0), (3, 274, (a1 : Int))] M ((ax_qm (-1) 15) (f_X3_levelsOne a1 M).2) := by
  refine ax_body (by decide) (fun X => Nat.le_of_ble_eq_true rfl) (fun hok => ?_)
  show ax_W ax_LM gX3_levelsOne (d + 3) 0 [(0, (2, 3, 0)), (1, (3, 274, (a1 : Int)))] [] M _
  unfold f_X3_levelsOne at hX ⊢
  refine ax_lump ax_layM ok_kX3 [(0, .aload_n 1, 1, 0, 0, 0), (1, .iconst 1, 1, 0, 0, 0)] (pc' := 2) (lc' := [(0, (2, 3, 0)), (1, (3, 274, (a1 : Int)))]) (st' := [(0, 0, 1), (3, 274, (a1 : Int))]) (M' := M) (C' := True) (by decide +kernel) rfl trivial ?_
  refine ax_cSi (G1 := gX3_toLevel) (d1 := d + 0) (i := 258) (n := 2) (as := [(3, 274, (a1 : Int)), (0, 0, 1)]) (st := []) (by decide +kernel) calX3_toLevel (by omega) rfl wt_1253 wt_1254 (Nat.le_of_ble_eq_true rfl) rfl (c_X3_toLevel d a1 1 M) (fun hc1 => ?_)
  refine ax_lump ax_layM ok_kX3 [(5, .istore_n 2, 1, 0, 0, 0)] (pc' := 6) (lc' := [(2, (0, 0, (f_X3_toLevel a1 1 M))), (0, (2, 3, 0)), (1, (3, 274, (a1 : Int)))]) (st' := []) (M' := M) (C' := True) (by decide +kernel) rfl trivial ?_
  refine ax_bdI_s hX (lo := (-1)) (hi := 15) (e := (f_X3_toLevel a1 1 M)) (fun y2 => [(2, (0, 0, y2)), (0, (2, 3, 0)), (1, (3, 274, (a1 : Int)))]) (fun y2 => []) (by omega) (fun y2 h_y2 hX => ?_)
  refine ax_lump ax_layM ok_kX3 [(6, .aload_n 1, 1, 0, 0, 0), (7, .iconst 0, 1, 0, 0, 0)] (pc' := 8) (lc' := [(2, (0, 0, y2)), (0, (2, 3, 0)), (1, (3, 274, (a1 : Int)))]) (st' := [(0, 0, 0), (3, 274, (a1 : Int))]) (M' := M) (C' := True) (by decide +kernel) rfl trivial ?_
  refine ax_cSi (G1 := gX3_toLevel) (d1 := d + 0) (i := 258) (n := 2) (as := [(3, 274, (a1 : Int)), (0, 0, 0)]) (st := []) (by decide +kernel) calX3_toLevel (by omega) rfl wt_1253 wt_1254 (Nat.le_of_ble_eq_true rfl) rfl (c_X3_toLevel d a1 0 M) (fun hc3 => ?_)
  refine ax_lump ax_layM ok_kX3 [(11, .istore_n 3, 1, 0, 0, 0)] (pc' := 12) (lc' := [(3, (0, 0, (f_X3_toLevel a1 0 M))), (2, (0, 0, y2)), (0, (2, 3, 0)), (1, (3, 274, (a1 : Int)))]) (st' := []) (M' := M) (C' := True) (by decide +kernel) rfl trivial ?_
  refine ax_bdI_s hX (lo := (-1)) (hi := 15) (e := (f_X3_toLevel a1 0 M)) (fun y4 => [(3, (0, 0, y4)), (2, (0, 0, y2)), (0, (2, 3, 0)), (1, (3, 274, (a1 : Int)))]) (fun y4 => []) (by omega) (fun y4 h_y4 hX => ?_)
  refine ax_lump ax_layM ok_kX3 [(12, .iload_n 2, 1, 0, 0, 0)] (pc' := 13) (lc' := [(3, (0, 0, y4)), (2, (0, 0, y2)), (0, (2, 3, 0)), (1, (3, 274, (a1 : Int)))]) (st' := [(0, 0, y2)]) (M' := M) (C' := True) (by decide +kernel) rfl trivial ?_
  refine ax_zlt_s hX (off := 20) (tgt := 33) (by decide +kernel) (by decide) (fun h5 hX => ?_) (fun h5 hX => ?_)
  · refine ax_lump ax_layM ok_kX3 [(33, .iconst (-1), 1, 0, 0, 0)] (pc' := 34) (lc' := [(3, (0, 0, y4)), (2, (0, 0, y2)), (0, (2, 3, 0)), (1, (3, 274, (a1 : Int)))]) (st' := [(0, 0, (-1))]) (M' := M) (C' := True) (by decide +kernel) rfl trivial ?_
    exact ax_iret (by decide +kernel) rfl ⟨rfl, rfl, (show ((-1) : Int) ≤ (-1) from by omega), (show (-1) ≤ (15 : Int) from by omega)⟩
  · refine ax_lump ax_layM ok_kX3 [(16, .aload_n 1, 1, 0, 0, 0), (17, .sipush 224, 3, 0, 0, 0), (20, .iload_n 2, 1, 0, 0, 0), (21, .iadd, 1, 1, 0, 0), (22, .iaload, 1, 0, 0, 0), (23, .aload_n 1, 1, 0, 0, 0), (24, .sipush 224, 3, 0, 0, 0), (27, .iload_n 3, 1, 0, 0, 0), (28, .iadd, 1, 1, 0, 0), (29, .iaload, 1, 0, 0, 0)] (pc' := 30) (lc' := [(3, (0, 0, y4)), (2, (0, 0, y2)), (0, (2, 3, 0)), (1, (3, 274, (a1 : Int)))]) (st' := [(0, 0, (M a1 (224 + y4).toNat)), (0, 0, (M a1 (224 + y2).toNat))]) (M' := M) (C' := ((((True ∧ ax_r32 (224 + y2)) ∧ (0 ≤ (224 + y2) ∧ (224 + y2) < ((274 : Nat) : Int))) ∧ ax_r32 (224 + y4)) ∧ (0 ≤ (224 + y4) ∧ (224 + y4) < ((274 : Nat) : Int)))) (by decide +kernel) rfl ⟨⟨⟨⟨trivial, ⟨by omega, by omega⟩⟩, by omega⟩, ⟨by omega, by omega⟩⟩, by omega⟩ ?_
    refine ax_jlt_s hX (off := 5) (tgt := 35) (by decide +kernel) (by decide) (fun h6 hX => ?_) (fun h6 hX => ?_)
    · refine ax_lump ax_layM ok_kX3 [(35, .aload_n 0, 1, 0, 0, 0), (36, .iload_n 2, 1, 0, 0, 0), (37, .putfield 261, 3, 3, 21, 0)] (pc' := 40) (lc' := [(3, (0, 0, y4)), (2, (0, 0, y2)), (0, (2, 3, 0)), (1, (3, 274, (a1 : Int)))]) (st' := []) (M' := (ax_up M 0 21 y2)) (C' := (True ∧ (0 ≤ y2 ∧ y2 < ((16 : Nat) : Int)))) (by decide +kernel) rfl ⟨trivial, by omega⟩ ?_
      refine ax_bdMe_s hX (fun M7 hM_M7 hX => ?_)
      refine ax_lump ax_layM ok_kX3 [(40, .aload_n 1, 1, 0, 0, 0), (41, .sipush 208, 3, 0, 0, 0), (44, .iload_n 2, 1, 0, 0, 0), (45, .iadd, 1, 1, 0, 0), (46, .iaload, 1, 0, 0, 0), (47, .istore 4, 2, 0, 0, 0)] (pc' := 49) (lc' := [(4, (0, 0, (M7 a1 (208 + y2).toNat))), (3, (0, 0, y4)), (2, (0, 0, y2)), (0, (2, 3, 0)), (1, (3, 274, (a1 : Int)))]) (st' := []) (M' := M7) (C' := ((True ∧ ax_r32 (208 + y2)) ∧ (0 ≤ (208 + y2) ∧ (208 + y2) < ((274 : Nat) : Int)))) (by decide +kernel) rfl ⟨⟨trivial, ⟨by omega, by omega⟩⟩, by omega⟩ ?_
      refine ax_bdI0_s hX (e := (M7 a1 (208 + y2).toNat)) (fun y8 => [(4, (0, 0, y8)), (3, (0, 0, y4)), (2, (0, 0, y2)), (0, (2, 3, 0)), (1, (3, 274, (a1 : Int)))]) (fun y8 => []) (fun y8 hX => ?_)
      refine ax_lump ax_layM ok_kX3 [(49, .iconst 0, 1, 0, 0, 0), (50, .istore 5, 2, 0, 0, 0)] (pc' := 52) (lc' := [(5, (0, 0, 0)), (4, (0, 0, y8)), (3, (0, 0, y4)), (2, (0, 0, y2)), (0, (2, 3, 0)), (1, (3, 274, (a1 : Int)))]) (st' := []) (M' := M7) (C' := True) (by decide +kernel) rfl trivial ?_
      refine ax_pk [4,5,3,2,1,0] (lc' := [(0, (2, 3, 0)), (1, (3, 274, (a1 : Int))), (2, (0, 0, y2)), (3, (0, 0, y4)), (4, (0, 0, y8)), (5, (0, 0, 0))]) rfl ?_
      refine w_X3_levelsOne_L52 d a1 y2 y4 y8 _ (by omega) (by omega) (fun M13 hx_13 hX => ?_) 4 0  M7 (by omega)  hX
      refine ax_lump ax_layM ok_kX3 [(94, .aload_n 1, 1, 0, 0, 0), (95, .sipush 192, 3, 0, 0, 0), (98, .iload_n 3, 1, 0, 0, 0), (99, .iadd, 1, 1, 0, 0), (100, .iconst 1, 1, 0, 0, 0), (101, .iastore, 1, 0, 0, 0)] (pc' := 102) (lc' := [(0, (2, 3, 0)), (1, (3, 274, (a1 : Int))), (2, (0, 0, y2)), (3, (0, 0, y4)), (4, (0, 0, y8))]) (st' := []) (M' := (ax_up M13 a1 (192 + y4).toNat 1)) (C' := ((True ∧ ax_r32 (192 + y4)) ∧ (0 ≤ (192 + y4) ∧ (192 + y4) < ((274 : Nat) : Int)))) (by decide +kernel) rfl ⟨⟨trivial, ⟨by omega, by omega⟩⟩, by omega⟩ ?_
      refine ax_bdMe_s hX (fun M14 hM_M14 hX => ?_)
      refine ax_lump ax_layM ok_kX3 [(102, .aload_n 1, 1, 0, 0, 0), (103, .sipush 208, 3, 0, 0, 0), (106, .iload_n 3, 1, 0, 0, 0), (107, .iadd, 1, 1, 0, 0), (108, .iload 4, 2, 0, 0, 0), (110, .iastore, 1, 0, 0, 0)] (pc' := 111) (lc' := [(0, (2, 3, 0)), (1, (3, 274, (a1 : Int))), (2, (0, 0, y2)), (3, (0, 0, y4)), (4, (0, 0, y8))]) (st' := []) (M' := (ax_up M14 a1 (208 + y4).toNat y8)) (C' := ((True ∧ ax_r32 (208 + y4)) ∧ (0 ≤ (208 + y4) ∧ (208 + y4) < ((274 : Nat) : Int)))) (by decide +kernel) rfl ⟨⟨trivial, ⟨by omega, by omega⟩⟩, by omega⟩ ?_
      refine ax_bdMe_s hX (fun M15 hM_M15 hX => ?_)
      refine ax_lump ax_layM ok_kX3 [(111, .aload_n 0, 1, 0, 0, 0), (112, .aload_n 1, 1, 0, 0, 0), (113, .iload_n 2, 1, 0, 0, 0)] (pc' := 114) (lc' := [(0, (2, 3, 0)), (1, (3, 274, (a1 : Int))), (2, (0, 0, y2)), (3, (0, 0, y4)), (4, (0, 0, y8))]) (st' := [(0, 0, y2), (3, 274, (a1 : Int)), (2, 3, 0)]) (M' := M15) (C' := True) (by decide +kernel) rfl trivial ?_
      refine ax_cVv_s hX (G1 := gX3_wipes) (d1 := d + 2) (i := 239) (n := 2) (as := [(3, 274, (a1 : Int)), (0, 0, y2)]) (st := []) (c := 3) (a := 0) (by decide +kernel) ax_cls3 calX3_wipes (by omega) rfl wt_1192 wt_1194 ws_91 (Nat.le_of_ble_eq_true rfl) rfl (c_X3_wipes d a1 y2 M15 (by omega)) (fun M16 hX => ?_)
      refine ax_lump ax_layM ok_kX3 [(117, .iload_n 3, 1, 0, 0, 0)] (pc' := 118) (lc' := [(0, (2, 3, 0)), (1, (3, 274, (a1 : Int))), (2, (0, 0, y2)), (3, (0, 0, y4)), (4, (0, 0, y8))]) (st' := [(0, 0, y4)]) (M' := M16) (C' := True) (by decide +kernel) rfl trivial ?_
      exact ax_iret (by decide +kernel) rfl ⟨rfl, rfl, (show ((-1) : Int) ≤ y4 from by omega), (show y4 ≤ (15 : Int) from by omega)⟩
    · refine ax_lump ax_layM ok_kX3 [(33, .iconst (-1), 1, 0, 0, 0)] (pc' := 34) (lc' := [(3, (0, 0, y4)), (2, (0, 0, y2)), (0, (2, 3, 0)), (1, (3, 274, (a1 : Int)))]) (st' := [(0, 0, (-1))]) (M' := M) (C' := True) (by decide +kernel) rfl trivial ?_
      exact ax_iret (by decide +kernel) rfl ⟨rfl, rfl, (show ((-1) : Int) ≤ (-1) from by omega), (show (-1) ≤ (15 : Int) from by omega)⟩
def f_X3_mostWipes_B4 (a0 : Nat) (M : ax_M) (i : Nat) (v1 : Int) (kc : Int → Int) (kx : Int → Int) : Int := (if (M a0 (224 + (i : Int)).toNat) ≤ (M a0 (224 + v1).toNat) then kc v1 else kc (i : Int))
def f_X3_mostWipes_L4 (a0 : Nat) (M : ax_M) : Nat → Nat → Int → (Int → Int) → Int
  | 0, i, v1, kx => kx v1
  | n + 1, i, v1, kx => f_X3_mostWipes_B4 a0 M i v1 (fun u1 => f_X3_mostWipes_L4 a0 M n (i + 1) u1 kx) kx
set_option maxRecDepth 100000 in
set_option maxHeartbeats 4000000 in
theorem wb_X3_mostWipes_B4 (d : Nat) (a0 : Nat) (M : ax_M) (i : Nat) (v1 : Int) (kc : Int → Int) (kx : Int → Int)  (hi : 0 ≤ i ∧ i < 16) (hv1 : 0 ≤ v1 ∧ v1 ≤ 15) (hkc : ∀ (u1 : Int), 0 ≤ u1 ∧ u1 ≤ 15 → ax_W ax_LM gX3_mostWipes (d + 0) 4 [(0, (3, 274, (a0 : Int))), (1, (0, 0, u1)), (2, (0, 0, ((i : Int) + 1)))] [] M ((ax_qi 0 15 M) (kc u1))) (hkx : ∀ (x1 : Int), ((0 ≤ x1 ∧ x1 ≤ 15)) → ax_W ax_LM gX3_mostWipes (d + 0) 39 [(1, (0, 0, x1))] [] M ((ax_qi 0 15 M) (kx x1))) : ax_W ax_LM gX3_mostWipes (d + 0) 10 [(0, (3, 274, (a0 : Int))), (1, (0, 0, v1)), (2, (0, 0, (i : Int)))] [] M ((ax_qi 0 15 M) (f_X3_mostWipes_B4 a0 M i v1 kc kx)) := by
  unfold f_X3_mostWipes_B4
  refine ax_lump ax_layM ok_kX3 [(10, .aload_n 0, 1, 0, 0, 0), (11, .sipush 224, 3, 0, 0, 0), (14, .iload_n 2, 1, 0, 0, 0), (15, .iadd, 1, 1, 0, 0), (16, .iaload, 1, 0, 0, 0), (17, .aload_n 0, 1, 0, 0, 0), (18, .sipush 224, 3, 0, 0, 0), (21, .iload_n 1, 1, 0, 0, 0), (22, .iadd, 1, 1, 0, 0), (23, .iaload, 1, 0, 0, 0)] (pc' := 24) (lc' := [(0, (3, 274, (a0 : Int))), (1, (0, 0, v1)), (2, (0, 0, (i : Int)))]) (st' := [(0, 0, (M a0 (224 + v1).toNat)), (0, 0, (M a0 (224 + (i : Int)).toNat))]) (M' := M) (C' := ((((True ∧ ax_r32 (224 + (i : Int))) ∧ (0 ≤ (224 + (i : Int)) ∧ (224 + (i : Int)) < ((274 : Nat) : Int))) ∧ ax_r32 (224 + v1)) ∧ (0 ≤ (224 + v1) ∧ (224 + v1) < ((274 : Nat) : Int)))) (by decide +kernel) rfl ⟨⟨⟨⟨trivial, ⟨by omega, by omega⟩⟩, by omega⟩, ⟨by omega, by omega⟩⟩, by omega⟩ ?_
  refine ax_jle (off := 7) (tgt := 31) (by decide +kernel) (by decide) (fun h1 => ?_) (fun h1 => ?_)
  · refine ax_lump ax_layM ok_kX3 [(31, .iload_n 1, 1, 0, 0, 0), (32, .istore_n 1, 1, 0, 0, 0), (33, .iinc 2 1, 3, 1, 0, 0), (36, .goto (-32), 3, 4, 0, 0)] (pc' := 4) (lc' := [(2, (0, 0, ((i : Int) + 1))), (1, (0, 0, v1)), (0, (3, 274, (a0 : Int)))]) (st' := []) (M' := M) (C' := (True ∧ ax_r32 ((i : Int) + 1))) (by decide +kernel) rfl ⟨trivial, ⟨by omega, by omega⟩⟩ ?_
    refine ax_pk [2,1,0] (lc' := [(0, (3, 274, (a0 : Int))), (1, (0, 0, v1)), (2, (0, 0, ((i : Int) + 1)))]) rfl ?_
    exact hkc v1 (by omega)
  · refine ax_lump ax_layM ok_kX3 [(27, .iload_n 2, 1, 0, 0, 0), (28, .goto 4, 3, 32, 0, 0), (32, .istore_n 1, 1, 0, 0, 0), (33, .iinc 2 1, 3, 1, 0, 0), (36, .goto (-32), 3, 4, 0, 0)] (pc' := 4) (lc' := [(2, (0, 0, ((i : Int) + 1))), (1, (0, 0, (i : Int))), (0, (3, 274, (a0 : Int)))]) (st' := []) (M' := M) (C' := (True ∧ ax_r32 ((i : Int) + 1))) (by decide +kernel) rfl ⟨trivial, ⟨by omega, by omega⟩⟩ ?_
    refine ax_pk [2,1,0] (lc' := [(0, (3, 274, (a0 : Int))), (1, (0, 0, (i : Int))), (2, (0, 0, ((i : Int) + 1)))]) rfl ?_
    exact hkc (i : Int) (by omega)
set_option maxRecDepth 100000 in
set_option maxHeartbeats 4000000 in
theorem w_X3_mostWipes_L4 (d : Nat) (a0 : Nat) (M : ax_M) (kx : Int → Int)  (hkx : ∀ (x1 : Int), ((0 ≤ x1 ∧ x1 ≤ 15)) → ax_W ax_LM gX3_mostWipes (d + 0) 39 [(1, (0, 0, x1))] [] M ((ax_qi 0 15 M) (kx x1))) : ∀ (n : Nat) (i : Nat) (v1 : Int), 0 ≤ i ∧ i + n = 16 → 0 ≤ v1 ∧ v1 ≤ 15 → ax_W ax_LM gX3_mostWipes (d + 0) 4 [(0, (3, 274, (a0 : Int))), (1, (0, 0, v1)), (2, (0, 0, (i : Int)))] [] M ((ax_qi 0 15 M) (f_X3_mostWipes_L4 a0 M n i v1 kx)) := by
  intro n
  induction n with
  | zero =>
    intro i v1 hin hv1
    refine ax_lump ax_layM ok_kX3 [(4, .iload_n 2, 1, 0, 0, 0), (5, .bipush 16, 2, 0, 0, 0)] (pc' := 7) (lc' := [(0, (3, 274, (a0 : Int))), (1, (0, 0, v1)), (2, (0, 0, (i : Int)))]) (st' := [(0, 0, 16), (0, 0, (i : Int))]) (M' := M) (C' := True) (by decide +kernel) rfl trivial ?_
    refine ax_icmp_ge (off := 32) (tgt := 39) (by decide +kernel) (by decide) (fun h => ?_) (fun h => ?_)
    · refine ax_pk [1] (lc' := [(1, (0, 0, v1))]) rfl ?_
      exact hkx v1 (by omega)
    · exfalso; omega
  | succ n ih =>
    intro i v1 hin hv1
    refine ax_lump ax_layM ok_kX3 [(4, .iload_n 2, 1, 0, 0, 0), (5, .bipush 16, 2, 0, 0, 0)] (pc' := 7) (lc' := [(0, (3, 274, (a0 : Int))), (1, (0, 0, v1)), (2, (0, 0, (i : Int)))]) (st' := [(0, 0, 16), (0, 0, (i : Int))]) (M' := M) (C' := True) (by decide +kernel) rfl trivial ?_
    refine ax_icmp_ge (off := 32) (tgt := 39) (by decide +kernel) (by decide) (fun h => ?_) (fun h => ?_)
    · exfalso; omega
    · exact wb_X3_mostWipes_B4 d a0 M i v1 _ kx  (by omega) hv1 (fun u1 hu1 => ih (i + 1) u1 (by omega) hu1) hkx
def f_X3_mostWipes (a0 : Nat) (M : ax_M) : Int := f_X3_mostWipes_L4 a0 M 16 0 0 (fun z2 => z2)
set_option maxRecDepth 100000 in
set_option maxHeartbeats 4000000 in
theorem c_X3_mostWipes (d : Nat) (a0 : Nat) (M : ax_M)  : ax_Met ax_LM gX3_mostWipes (d + 0) [(3, 274, (a0 : Int))] M ((ax_qi 0 15 M) (f_X3_mostWipes a0 M)) := by
  refine ax_body (by decide) (fun X => Nat.le_of_ble_eq_true rfl) (fun hok => ?_)
  show ax_W ax_LM gX3_mostWipes (d + 0) 0 [(0, (3, 274, (a0 : Int)))] [] M _
  unfold f_X3_mostWipes
  refine ax_lump ax_layM ok_kX3 [(0, .iconst 0, 1, 0, 0, 0), (1, .istore_n 1, 1, 0, 0, 0), (2, .iconst 0, 1, 0, 0, 0), (3, .istore_n 2, 1, 0, 0, 0)] (pc' := 4) (lc' := [(2, (0, 0, 0)), (1, (0, 0, 0)), (0, (3, 274, (a0 : Int)))]) (st' := []) (M' := M) (C' := True) (by decide +kernel) rfl trivial ?_
  refine ax_pk [2,1,0] (lc' := [(0, (3, 274, (a0 : Int))), (1, (0, 0, 0)), (2, (0, 0, 0))]) rfl ?_
  refine w_X3_mostWipes_L4 d a0 M _  (fun z2 hx_2 => ?_) 16 0 0 (by omega) (by omega)
  refine ax_lump ax_layM ok_kX3 [(39, .iload_n 1, 1, 0, 0, 0)] (pc' := 40) (lc' := [(1, (0, 0, z2))]) (st' := [(0, 0, z2)]) (M' := M) (C' := True) (by decide +kernel) rfl trivial ?_
  exact ax_iret (by decide +kernel) rfl ⟨rfl, rfl, (show (0 : Int) ≤ z2 from by omega), (show z2 ≤ (15 : Int) from by omega)⟩
def f_X3_fewestWipes_B4 (a0 : Nat) (M : ax_M) (i : Nat) (v1 : Int) (kc : Int → Int) (kx : Int → Int) : Int := (if (M a0 (224 + v1).toNat) ≤ (M a0 (224 + (i : Int)).toNat) then kc v1 else kc (i : Int))
def f_X3_fewestWipes_L4 (a0 : Nat) (M : ax_M) : Nat → Nat → Int → (Int → Int) → Int
  | 0, i, v1, kx => kx v1
  | n + 1, i, v1, kx => f_X3_fewestWipes_B4 a0 M i v1 (fun u1 => f_X3_fewestWipes_L4 a0 M n (i + 1) u1 kx) kx
set_option maxRecDepth 100000 in
set_option maxHeartbeats 4000000 in
theorem wb_X3_fewestWipes_B4 (d : Nat) (a0 : Nat) (M : ax_M) (i : Nat) (v1 : Int) (kc : Int → Int) (kx : Int → Int)  (hi : 0 ≤ i ∧ i < 16) (hv1 : 0 ≤ v1 ∧ v1 ≤ 15) (hkc : ∀ (u1 : Int), 0 ≤ u1 ∧ u1 ≤ 15 → ax_W ax_LM gX3_fewestWipes (d + 0) 4 [(0, (3, 274, (a0 : Int))), (1, (0, 0, u1)), (2, (0, 0, ((i : Int) + 1)))] [] M ((ax_qi 0 15 M) (kc u1))) (hkx : ∀ (x1 : Int), ((0 ≤ x1 ∧ x1 ≤ 15)) → ax_W ax_LM gX3_fewestWipes (d + 0) 39 [(1, (0, 0, x1))] [] M ((ax_qi 0 15 M) (kx x1))) : ax_W ax_LM gX3_fewestWipes (d + 0) 10 [(0, (3, 274, (a0 : Int))), (1, (0, 0, v1)), (2, (0, 0, (i : Int)))] [] M ((ax_qi 0 15 M) (f_X3_fewestWipes_B4 a0 M i v1 kc kx)) := by
  unfold f_X3_fewestWipes_B4
  refine ax_lump ax_layM ok_kX3 [(10, .aload_n 0, 1, 0, 0, 0), (11, .sipush 224, 3, 0, 0, 0), (14, .iload_n 2, 1, 0, 0, 0), (15, .iadd, 1, 1, 0, 0), (16, .iaload, 1, 0, 0, 0), (17, .aload_n 0, 1, 0, 0, 0), (18, .sipush 224, 3, 0, 0, 0), (21, .iload_n 1, 1, 0, 0, 0), (22, .iadd, 1, 1, 0, 0), (23, .iaload, 1, 0, 0, 0)] (pc' := 24) (lc' := [(0, (3, 274, (a0 : Int))), (1, (0, 0, v1)), (2, (0, 0, (i : Int)))]) (st' := [(0, 0, (M a0 (224 + v1).toNat)), (0, 0, (M a0 (224 + (i : Int)).toNat))]) (M' := M) (C' := ((((True ∧ ax_r32 (224 + (i : Int))) ∧ (0 ≤ (224 + (i : Int)) ∧ (224 + (i : Int)) < ((274 : Nat) : Int))) ∧ ax_r32 (224 + v1)) ∧ (0 ≤ (224 + v1) ∧ (224 + v1) < ((274 : Nat) : Int)))) (by decide +kernel) rfl ⟨⟨⟨⟨trivial, ⟨by omega, by omega⟩⟩, by omega⟩, ⟨by omega, by omega⟩⟩, by omega⟩ ?_
  refine ax_jge (off := 7) (tgt := 31) (by decide +kernel) (by decide) (fun h1 => ?_) (fun h1 => ?_)
  · refine ax_lump ax_layM ok_kX3 [(31, .iload_n 1, 1, 0, 0, 0), (32, .istore_n 1, 1, 0, 0, 0), (33, .iinc 2 1, 3, 1, 0, 0), (36, .goto (-32), 3, 4, 0, 0)] (pc' := 4) (lc' := [(2, (0, 0, ((i : Int) + 1))), (1, (0, 0, v1)), (0, (3, 274, (a0 : Int)))]) (st' := []) (M' := M) (C' := (True ∧ ax_r32 ((i : Int) + 1))) (by decide +kernel) rfl ⟨trivial, ⟨by omega, by omega⟩⟩ ?_
    refine ax_pk [2,1,0] (lc' := [(0, (3, 274, (a0 : Int))), (1, (0, 0, v1)), (2, (0, 0, ((i : Int) + 1)))]) rfl ?_
    exact hkc v1 (by omega)
  · refine ax_lump ax_layM ok_kX3 [(27, .iload_n 2, 1, 0, 0, 0), (28, .goto 4, 3, 32, 0, 0), (32, .istore_n 1, 1, 0, 0, 0), (33, .iinc 2 1, 3, 1, 0, 0), (36, .goto (-32), 3, 4, 0, 0)] (pc' := 4) (lc' := [(2, (0, 0, ((i : Int) + 1))), (1, (0, 0, (i : Int))), (0, (3, 274, (a0 : Int)))]) (st' := []) (M' := M) (C' := (True ∧ ax_r32 ((i : Int) + 1))) (by decide +kernel) rfl ⟨trivial, ⟨by omega, by omega⟩⟩ ?_
    refine ax_pk [2,1,0] (lc' := [(0, (3, 274, (a0 : Int))), (1, (0, 0, (i : Int))), (2, (0, 0, ((i : Int) + 1)))]) rfl ?_
    exact hkc (i : Int) (by omega)
set_option maxRecDepth 100000 in
set_option maxHeartbeats 4000000 in
theorem w_X3_fewestWipes_L4 (d : Nat) (a0 : Nat) (M : ax_M) (kx : Int → Int)  (hkx : ∀ (x1 : Int), ((0 ≤ x1 ∧ x1 ≤ 15)) → ax_W ax_LM gX3_fewestWipes (d + 0) 39 [(1, (0, 0, x1))] [] M ((ax_qi 0 15 M) (kx x1))) : ∀ (n : Nat) (i : Nat) (v1 : Int), 0 ≤ i ∧ i + n = 16 → 0 ≤ v1 ∧ v1 ≤ 15 → ax_W ax_LM gX3_fewestWipes (d + 0) 4 [(0, (3, 274, (a0 : Int))), (1, (0, 0, v1)), (2, (0, 0, (i : Int)))] [] M ((ax_qi 0 15 M) (f_X3_fewestWipes_L4 a0 M n i v1 kx)) := by
  intro n
  induction n with
  | zero =>
    intro i v1 hin hv1
    refine ax_lump ax_layM ok_kX3 [(4, .iload_n 2, 1, 0, 0, 0), (5, .bipush 16, 2, 0, 0, 0)] (pc' := 7) (lc' := [(0, (3, 274, (a0 : Int))), (1, (0, 0, v1)), (2, (0, 0, (i : Int)))]) (st' := [(0, 0, 16), (0, 0, (i : Int))]) (M' := M) (C' := True) (by decide +kernel) rfl trivial ?_
    refine ax_icmp_ge (off := 32) (tgt := 39) (by decide +kernel) (by decide) (fun h => ?_) (fun h => ?_)
    · refine ax_pk [1] (lc' := [(1, (0, 0, v1))]) rfl ?_
      exact hkx v1 (by omega)
    · exfalso; omega
  | succ n ih =>
    intro i v1 hin hv1
    refine ax_lump ax_layM ok_kX3 [(4, .iload_n 2, 1, 0, 0, 0), (5, .bipush 16, 2, 0, 0, 0)] (pc' := 7) (lc' := [(0, (3, 274, (a0 : Int))), (1, (0, 0, v1)), (2, (0, 0, (i : Int)))]) (st' := [(0, 0, 16), (0, 0, (i : Int))]) (M' := M) (C' := True) (by decide +kernel) rfl trivial ?_
    refine ax_icmp_ge (off := 32) (tgt := 39) (by decide +kernel) (by decide) (fun h => ?_) (fun h => ?_)
    · exfalso; omega
    · exact wb_X3_fewestWipes_B4 d a0 M i v1 _ kx  (by omega) hv1 (fun u1 hu1 => ih (i + 1) u1 (by omega) hu1) hkx
def f_X3_fewestWipes (a0 : Nat) (M : ax_M) : Int := f_X3_fewestWipes_L4 a0 M 16 0 0 (fun z2 => z2)
set_option maxRecDepth 100000 in
set_option maxHeartbeats 4000000 in
theorem c_X3_fewestWipes (d : Nat) (a0 : Nat) (M : ax_M)  : ax_Met ax_LM gX3_fewestWipes (d + 0) [(3, 274, (a0 : Int))] M ((ax_qi 0 15 M) (f_X3_fewestWipes a0 M)) := by
  refine ax_body (by decide) (fun X => Nat.le_of_ble_eq_true rfl) (fun hok => ?_)
  show ax_W ax_LM gX3_fewestWipes (d + 0) 0 [(0, (3, 274, (a0 : Int)))] [] M _
  unfold f_X3_fewestWipes
  refine ax_lump ax_layM ok_kX3 [(0, .iconst 0, 1, 0, 0, 0), (1, .istore_n 1, 1, 0, 0, 0), (2, .iconst 0, 1, 0, 0, 0), (3, .istore_n 2, 1, 0, 0, 0)] (pc' := 4) (lc' := [(2, (0, 0, 0)), (1, (0, 0, 0)), (0, (3, 274, (a0 : Int)))]) (st' := []) (M' := M) (C' := True) (by decide +kernel) rfl trivial ?_
  refine ax_pk [2,1,0] (lc' := [(0, (3, 274, (a0 : Int))), (1, (0, 0, 0)), (2, (0, 0, 0))]) rfl ?_
  refine w_X3_fewestWipes_L4 d a0 M _  (fun z2 hx_2 => ?_) 16 0 0 (by omega) (by omega)
  refine ax_lump ax_layM ok_kX3 [(39, .iload_n 1, 1, 0, 0, 0)] (pc' := 40) (lc' := [(1, (0, 0, z2))]) (st' := [(0, 0, z2)]) (M' := M) (C' := True) (by decide +kernel) rfl trivial ?_
  exact ax_iret (by decide +kernel) rfl ⟨rfl, rfl, (show (0 : Int) ≤ z2 from by omega), (show z2 ≤ (15 : Int) from by omega)⟩
def f_X3_staleIn_B4 (a0 : Nat) (w1 : Int) (M : ax_M) (i : Nat) (v2 : Int) (kc : Int → Int) (kx : Int → Int) : Int := (if (f_X3_isWritten a0 ((4 * w1) + (i : Int)) M) = 0 then kc (v2 + (f_X3_flag 0 M)) else (if (f_X3_isLatest a0 ((4 * w1) + (i : Int)) M) ≠ 0 then kc (v2 + (f_X3_flag 0 M)) else kc (v2 + (f_X3_flag 1 M))))
def f_X3_staleIn_L4 (a0 : Nat) (w1 : Int) (M : ax_M) : Nat → Nat → Int → (Int → Int) → Int
  | 0, i, v2, kx => kx v2
  | n + 1, i, v2, kx => f_X3_staleIn_B4 a0 w1 M i v2 (fun u2 => f_X3_staleIn_L4 a0 w1 M n (i + 1) u2 kx) kx
set_option maxRecDepth 100000 in
set_option maxHeartbeats 4000000 in
theorem wb_X3_staleIn_B4 (d : Nat) (a0 : Nat) (w1 : Int) (M : ax_M) (i : Nat) (v2 : Int) (kc : Int → Int) (kx : Int → Int) (hw_w1 : 0 ≤ w1 ∧ w1 ≤ 15) (hi : 0 ≤ i ∧ i < 4) (hv2 : 0 ≤ v2 ∧ v2 ≤ 0 + 1 * ((i : Int) - 0)) (hkc : ∀ (u2 : Int), 0 ≤ u2 ∧ u2 ≤ 0 + 1 * (((i : Int) + 1) - 0) → ax_W ax_LM gX3_staleIn (d + 4) 4 [(0, (3, 274, (a0 : Int))), (1, (0, 0, w1)), (2, (0, 0, u2)), (3, (0, 0, ((i : Int) + 1)))] [] M ((ax_qi 0 4 M) (kc u2))) (hkx : ∀ (x2 : Int), ((0 ≤ x2 ∧ x2 ≤ 4)) → ax_W ax_LM gX3_staleIn (d + 4) 50 [(2, (0, 0, x2))] [] M ((ax_qi 0 4 M) (kx x2))) : ax_W ax_LM gX3_staleIn (d + 4) 9 [(0, (3, 274, (a0 : Int))), (1, (0, 0, w1)), (2, (0, 0, v2)), (3, (0, 0, (i : Int)))] [] M ((ax_qi 0 4 M) (f_X3_staleIn_B4 a0 w1 M i v2 kc kx)) := by
  unfold f_X3_staleIn_B4
  refine ax_lump ax_layM ok_kX3 [(9, .iload_n 2, 1, 0, 0, 0), (10, .aload_n 0, 1, 0, 0, 0), (11, .iconst 4, 1, 0, 0, 0), (12, .iload_n 1, 1, 0, 0, 0), (13, .imul, 1, 1, 0, 0), (14, .iload_n 3, 1, 0, 0, 0), (15, .iadd, 1, 1, 0, 0)] (pc' := 16) (lc' := [(0, (3, 274, (a0 : Int))), (1, (0, 0, w1)), (2, (0, 0, v2)), (3, (0, 0, (i : Int)))]) (st' := [(0, 0, ((4 * w1) + (i : Int))), (3, 274, (a0 : Int)), (0, 0, v2)]) (M' := M) (C' := ((True ∧ ax_r32 (4 * w1)) ∧ ax_r32 ((4 * w1) + (i : Int)))) (by decide +kernel) rfl ⟨⟨trivial, ⟨by omega, by omega⟩⟩, ⟨by omega, by omega⟩⟩ ?_
  refine ax_cSi (G1 := gX3_isWritten) (d1 := d + 0) (i := 195) (n := 2) (as := [(3, 274, (a0 : Int)), (0, 0, ((4 * w1) + (i : Int)))]) (st := [(0, 0, v2)]) (by decide +kernel) calX3_isWritten (by omega) rfl wt_1098 wt_1099 (Nat.le_of_ble_eq_true rfl) rfl (c_X3_isWritten d a0 ((4 * w1) + (i : Int)) M (by omega)) (fun hc1 => ?_)
  refine ax_zeq (off := 19) (tgt := 38) (by decide +kernel) (by decide) (fun h2 => ?_) (fun h2 => ?_)
  · refine ax_lump ax_layM ok_kX3 [(38, .iconst 0, 1, 0, 0, 0)] (pc' := 39) (lc' := [(0, (3, 274, (a0 : Int))), (1, (0, 0, w1)), (2, (0, 0, v2)), (3, (0, 0, (i : Int)))]) (st' := [(0, 0, 0), (0, 0, v2)]) (M' := M) (C' := True) (by decide +kernel) rfl trivial ?_
    refine ax_cSi (G1 := gX3_flag) (d1 := d + 0) (i := 44) (n := 1) (as := [(0, 0, 0)]) (st := [(0, 0, v2)]) (by decide +kernel) calX3_flag (by omega) rfl wt_904 wt_905 (Nat.le_of_ble_eq_true rfl) rfl (c_X3_flag d 0 M (by omega)) (fun hc3 => ?_)
    refine ax_lump ax_layM ok_kX3 [(42, .iadd, 1, 1, 0, 0), (43, .istore_n 2, 1, 0, 0, 0), (44, .iinc 3 1, 3, 1, 0, 0), (47, .goto (-43), 3, 4, 0, 0)] (pc' := 4) (lc' := [(3, (0, 0, ((i : Int) + 1))), (2, (0, 0, (v2 + (f_X3_flag 0 M)))), (0, (3, 274, (a0 : Int))), (1, (0, 0, w1))]) (st' := []) (M' := M) (C' := ((True ∧ ax_r32 (v2 + (f_X3_flag 0 M))) ∧ ax_r32 ((i : Int) + 1))) (by decide +kernel) rfl ⟨⟨trivial, ⟨by omega, by omega⟩⟩, ⟨by omega, by omega⟩⟩ ?_
    refine ax_pk [2,3,1,0] (lc' := [(0, (3, 274, (a0 : Int))), (1, (0, 0, w1)), (2, (0, 0, (v2 + (f_X3_flag 0 M)))), (3, (0, 0, ((i : Int) + 1)))]) rfl ?_
    exact hkc (v2 + (f_X3_flag 0 M)) (by omega)
  · refine ax_lump ax_layM ok_kX3 [(22, .aload_n 0, 1, 0, 0, 0), (23, .iconst 4, 1, 0, 0, 0), (24, .iload_n 1, 1, 0, 0, 0), (25, .imul, 1, 1, 0, 0), (26, .iload_n 3, 1, 0, 0, 0), (27, .iadd, 1, 1, 0, 0)] (pc' := 28) (lc' := [(0, (3, 274, (a0 : Int))), (1, (0, 0, w1)), (2, (0, 0, v2)), (3, (0, 0, (i : Int)))]) (st' := [(0, 0, ((4 * w1) + (i : Int))), (3, 274, (a0 : Int)), (0, 0, v2)]) (M' := M) (C' := ((True ∧ ax_r32 (4 * w1)) ∧ ax_r32 ((4 * w1) + (i : Int)))) (by decide +kernel) rfl ⟨⟨trivial, ⟨by omega, by omega⟩⟩, ⟨by omega, by omega⟩⟩ ?_
    refine ax_cSi (G1 := gX3_isLatest) (d1 := d + 3) (i := 245) (n := 2) (as := [(3, 274, (a0 : Int)), (0, 0, ((4 * w1) + (i : Int)))]) (st := [(0, 0, v2)]) (by decide +kernel) calX3_isLatest (by omega) rfl wt_1101 wt_1102 (Nat.le_of_ble_eq_true rfl) rfl (c_X3_isLatest d a0 ((4 * w1) + (i : Int)) M (by omega)) (fun hc4 => ?_)
    refine ax_zne (off := 7) (tgt := 38) (by decide +kernel) (by decide) (fun h5 => ?_) (fun h5 => ?_)
    · refine ax_lump ax_layM ok_kX3 [(38, .iconst 0, 1, 0, 0, 0)] (pc' := 39) (lc' := [(0, (3, 274, (a0 : Int))), (1, (0, 0, w1)), (2, (0, 0, v2)), (3, (0, 0, (i : Int)))]) (st' := [(0, 0, 0), (0, 0, v2)]) (M' := M) (C' := True) (by decide +kernel) rfl trivial ?_
      refine ax_cSi (G1 := gX3_flag) (d1 := d + 0) (i := 44) (n := 1) (as := [(0, 0, 0)]) (st := [(0, 0, v2)]) (by decide +kernel) calX3_flag (by omega) rfl wt_904 wt_905 (Nat.le_of_ble_eq_true rfl) rfl (c_X3_flag d 0 M (by omega)) (fun hc6 => ?_)
      refine ax_lump ax_layM ok_kX3 [(42, .iadd, 1, 1, 0, 0), (43, .istore_n 2, 1, 0, 0, 0), (44, .iinc 3 1, 3, 1, 0, 0), (47, .goto (-43), 3, 4, 0, 0)] (pc' := 4) (lc' := [(3, (0, 0, ((i : Int) + 1))), (2, (0, 0, (v2 + (f_X3_flag 0 M)))), (0, (3, 274, (a0 : Int))), (1, (0, 0, w1))]) (st' := []) (M' := M) (C' := ((True ∧ ax_r32 (v2 + (f_X3_flag 0 M))) ∧ ax_r32 ((i : Int) + 1))) (by decide +kernel) rfl ⟨⟨trivial, ⟨by omega, by omega⟩⟩, ⟨by omega, by omega⟩⟩ ?_
      refine ax_pk [2,3,1,0] (lc' := [(0, (3, 274, (a0 : Int))), (1, (0, 0, w1)), (2, (0, 0, (v2 + (f_X3_flag 0 M)))), (3, (0, 0, ((i : Int) + 1)))]) rfl ?_
      exact hkc (v2 + (f_X3_flag 0 M)) (by omega)
    · refine ax_lump ax_layM ok_kX3 [(34, .iconst 1, 1, 0, 0, 0), (35, .goto 4, 3, 39, 0, 0)] (pc' := 39) (lc' := [(0, (3, 274, (a0 : Int))), (1, (0, 0, w1)), (2, (0, 0, v2)), (3, (0, 0, (i : Int)))]) (st' := [(0, 0, 1), (0, 0, v2)]) (M' := M) (C' := True) (by decide +kernel) rfl trivial ?_
      refine ax_cSi (G1 := gX3_flag) (d1 := d + 0) (i := 44) (n := 1) (as := [(0, 0, 1)]) (st := [(0, 0, v2)]) (by decide +kernel) calX3_flag (by omega) rfl wt_904 wt_905 (Nat.le_of_ble_eq_true rfl) rfl (c_X3_flag d 1 M (by omega)) (fun hc7 => ?_)
      refine ax_lump ax_layM ok_kX3 [(42, .iadd, 1, 1, 0, 0), (43, .istore_n 2, 1, 0, 0, 0), (44, .iinc 3 1, 3, 1, 0, 0), (47, .goto (-43), 3, 4, 0, 0)] (pc' := 4) (lc' := [(3, (0, 0, ((i : Int) + 1))), (2, (0, 0, (v2 + (f_X3_flag 1 M)))), (0, (3, 274, (a0 : Int))), (1, (0, 0, w1))]) (st' := []) (M' := M) (C' := ((True ∧ ax_r32 (v2 + (f_X3_flag 1 M))) ∧ ax_r32 ((i : Int) + 1))) (by decide +kernel) rfl ⟨⟨trivial, ⟨by omega, by omega⟩⟩, ⟨by omega, by omega⟩⟩ ?_
      refine ax_pk [2,3,1,0] (lc' := [(0, (3, 274, (a0 : Int))), (1, (0, 0, w1)), (2, (0, 0, (v2 + (f_X3_flag 1 M)))), (3, (0, 0, ((i : Int) + 1)))]) rfl ?_
      exact hkc (v2 + (f_X3_flag 1 M)) (by omega)
set_option maxRecDepth 100000 in
set_option maxHeartbeats 4000000 in
theorem w_X3_staleIn_L4 (d : Nat) (a0 : Nat) (w1 : Int) (M : ax_M) (kx : Int → Int) (hw_w1 : 0 ≤ w1 ∧ w1 ≤ 15) (hkx : ∀ (x2 : Int), ((0 ≤ x2 ∧ x2 ≤ 4)) → ax_W ax_LM gX3_staleIn (d + 4) 50 [(2, (0, 0, x2))] [] M ((ax_qi 0 4 M) (kx x2))) : ∀ (n : Nat) (i : Nat) (v2 : Int), 0 ≤ i ∧ i + n = 4 → 0 ≤ v2 ∧ v2 ≤ 0 + 1 * ((i : Int) - 0) → ax_W ax_LM gX3_staleIn (d + 4) 4 [(0, (3, 274, (a0 : Int))), (1, (0, 0, w1)), (2, (0, 0, v2)), (3, (0, 0, (i : Int)))] [] M ((ax_qi 0 4 M) (f_X3_staleIn_L4 a0 w1 M n i v2 kx)) := by
  intro n
  induction n with
  | zero =>
    intro i v2 hin hv2
    refine ax_lump ax_layM ok_kX3 [(4, .iload_n 3, 1, 0, 0, 0), (5, .iconst 4, 1, 0, 0, 0)] (pc' := 6) (lc' := [(0, (3, 274, (a0 : Int))), (1, (0, 0, w1)), (2, (0, 0, v2)), (3, (0, 0, (i : Int)))]) (st' := [(0, 0, 4), (0, 0, (i : Int))]) (M' := M) (C' := True) (by decide +kernel) rfl trivial ?_
    refine ax_icmp_ge (off := 44) (tgt := 50) (by decide +kernel) (by decide) (fun h => ?_) (fun h => ?_)
    · refine ax_pk [2] (lc' := [(2, (0, 0, v2))]) rfl ?_
      exact hkx v2 (by omega)
    · exfalso; omega
  | succ n ih =>
    intro i v2 hin hv2
    refine ax_lump ax_layM ok_kX3 [(4, .iload_n 3, 1, 0, 0, 0), (5, .iconst 4, 1, 0, 0, 0)] (pc' := 6) (lc' := [(0, (3, 274, (a0 : Int))), (1, (0, 0, w1)), (2, (0, 0, v2)), (3, (0, 0, (i : Int)))]) (st' := [(0, 0, 4), (0, 0, (i : Int))]) (M' := M) (C' := True) (by decide +kernel) rfl trivial ?_
    refine ax_icmp_ge (off := 44) (tgt := 50) (by decide +kernel) (by decide) (fun h => ?_) (fun h => ?_)
    · exfalso; omega
    · exact wb_X3_staleIn_B4 d a0 w1 M i v2 _ kx hw_w1 (by omega) hv2 (fun u2 hu2 => ih (i + 1) u2 (by omega) (by omega)) hkx
def f_X3_staleIn (a0 : Nat) (x1 : Int) (M : ax_M) : Int := f_X3_staleIn_L4 a0 x1 M 4 0 0 (fun z8 => z8)
set_option maxRecDepth 100000 in
set_option maxHeartbeats 4000000 in
theorem c_X3_staleIn (d : Nat) (a0 : Nat) (x1 : Int) (M : ax_M) (hp1 : 0 ≤ x1 ∧ x1 ≤ 15) : ax_Met ax_LM gX3_staleIn (d + 4) [(3, 274, (a0 : Int)), (0, 0, x1)] M ((ax_qi 0 4 M) (f_X3_staleIn a0 x1 M)) := by
  refine ax_body (by decide) (fun X => Nat.le_of_ble_eq_true rfl) (fun hok => ?_)
  have hr_x1 : (-2147483648) ≤ x1 ∧ x1 ≤ 2147483647 := hok (0, 0, x1) (by simp)
  show ax_W ax_LM gX3_staleIn (d + 4) 0 [(0, (3, 274, (a0 : Int))), (1, (0, 0, x1))] [] M _
  unfold f_X3_staleIn
  refine ax_lump ax_layM ok_kX3 [(0, .iconst 0, 1, 0, 0, 0), (1, .istore_n 2, 1, 0, 0, 0), (2, .iconst 0, 1, 0, 0, 0), (3, .istore_n 3, 1, 0, 0, 0)] (pc' := 4) (lc' := [(3, (0, 0, 0)), (2, (0, 0, 0)), (0, (3, 274, (a0 : Int))), (1, (0, 0, x1))]) (st' := []) (M' := M) (C' := True) (by decide +kernel) rfl trivial ?_
  refine ax_pk [2,3,1,0] (lc' := [(0, (3, 274, (a0 : Int))), (1, (0, 0, x1)), (2, (0, 0, 0)), (3, (0, 0, 0))]) rfl ?_
  refine w_X3_staleIn_L4 d a0 x1 M _ (by omega) (fun z8 hx_8 => ?_) 4 0 0 (by omega) (by omega)
  refine ax_lump ax_layM ok_kX3 [(50, .iload_n 2, 1, 0, 0, 0)] (pc' := 51) (lc' := [(2, (0, 0, z8))]) (st' := [(0, 0, z8)]) (M' := M) (C' := True) (by decide +kernel) rfl trivial ?_
  exact ax_iret (by decide +kernel) rfl ⟨rfl, rfl, (show (0 : Int) ≤ z8 from by omega), (show z8 ≤ (4 : Int) from by omega)⟩
def f_X3_staleMany_B4 (a0 : Nat) (M : ax_M) (i : Nat) (v1 : Int) (kc : Int → Int) (kx : Int → Int) : Int := kc (v1 + (f_X3_staleIn a0 (i : Int) M))
def f_X3_staleMany_L4 (a0 : Nat) (M : ax_M) : Nat → Nat → Int → (Int → Int) → Int
  | 0, i, v1, kx => kx v1
  | n + 1, i, v1, kx => f_X3_staleMany_B4 a0 M i v1 (fun u1 => f_X3_staleMany_L4 a0 M n (i + 1) u1 kx) kx
set_option maxRecDepth 100000 in
set_option maxHeartbeats 4000000 in
theorem wb_X3_staleMany_B4 (d : Nat) (a0 : Nat) (M : ax_M) (i : Nat) (v1 : Int) (kc : Int → Int) (kx : Int → Int)  (hi : 0 ≤ i ∧ i < 16) (hv1 : 0 ≤ v1 ∧ v1 ≤ 0 + 4 * ((i : Int) - 0)) (hkc : ∀ (u1 : Int), 0 ≤ u1 ∧ u1 ≤ 0 + 4 * (((i : Int) + 1) - 0) → ax_W ax_LM gX3_staleMany (d + 5) 4 [(0, (3, 274, (a0 : Int))), (1, (0, 0, u1)), (2, (0, 0, ((i : Int) + 1)))] [] M ((ax_qi 0 64 M) (kc u1))) (hkx : ∀ (x1 : Int), ((0 ≤ x1 ∧ x1 ≤ 64)) → ax_W ax_LM gX3_staleMany (d + 5) 24 [(1, (0, 0, x1))] [] M ((ax_qi 0 64 M) (kx x1))) : ax_W ax_LM gX3_staleMany (d + 5) 10 [(0, (3, 274, (a0 : Int))), (1, (0, 0, v1)), (2, (0, 0, (i : Int)))] [] M ((ax_qi 0 64 M) (f_X3_staleMany_B4 a0 M i v1 kc kx)) := by
  unfold f_X3_staleMany_B4
  refine ax_lump ax_layM ok_kX3 [(10, .iload_n 1, 1, 0, 0, 0), (11, .aload_n 0, 1, 0, 0, 0), (12, .iload_n 2, 1, 0, 0, 0)] (pc' := 13) (lc' := [(0, (3, 274, (a0 : Int))), (1, (0, 0, v1)), (2, (0, 0, (i : Int)))]) (st' := [(0, 0, (i : Int)), (3, 274, (a0 : Int)), (0, 0, v1)]) (M' := M) (C' := True) (by decide +kernel) rfl trivial ?_
  refine ax_cSi (G1 := gX3_staleIn) (d1 := d + 4) (i := 264) (n := 2) (as := [(3, 274, (a0 : Int)), (0, 0, (i : Int))]) (st := [(0, 0, v1)]) (by decide +kernel) calX3_staleIn (by omega) rfl wt_1239 wt_1240 (Nat.le_of_ble_eq_true rfl) rfl (c_X3_staleIn d a0 (i : Int) M (by omega)) (fun hc1 => ?_)
  refine ax_lump ax_layM ok_kX3 [(16, .iadd, 1, 1, 0, 0), (17, .istore_n 1, 1, 0, 0, 0), (18, .iinc 2 1, 3, 1, 0, 0), (21, .goto (-17), 3, 4, 0, 0)] (pc' := 4) (lc' := [(2, (0, 0, ((i : Int) + 1))), (1, (0, 0, (v1 + (f_X3_staleIn a0 (i : Int) M)))), (0, (3, 274, (a0 : Int)))]) (st' := []) (M' := M) (C' := ((True ∧ ax_r32 (v1 + (f_X3_staleIn a0 (i : Int) M))) ∧ ax_r32 ((i : Int) + 1))) (by decide +kernel) rfl ⟨⟨trivial, ⟨by omega, by omega⟩⟩, ⟨by omega, by omega⟩⟩ ?_
  refine ax_pk [2,1,0] (lc' := [(0, (3, 274, (a0 : Int))), (1, (0, 0, (v1 + (f_X3_staleIn a0 (i : Int) M)))), (2, (0, 0, ((i : Int) + 1)))]) rfl ?_
  exact hkc (v1 + (f_X3_staleIn a0 (i : Int) M)) (by omega)
set_option maxRecDepth 100000 in
set_option maxHeartbeats 4000000 in
theorem w_X3_staleMany_L4 (d : Nat) (a0 : Nat) (M : ax_M) (kx : Int → Int)  (hkx : ∀ (x1 : Int), ((0 ≤ x1 ∧ x1 ≤ 64)) → ax_W ax_LM gX3_staleMany (d + 5) 24 [(1, (0, 0, x1))] [] M ((ax_qi 0 64 M) (kx x1))) : ∀ (n : Nat) (i : Nat) (v1 : Int), 0 ≤ i ∧ i + n = 16 → 0 ≤ v1 ∧ v1 ≤ 0 + 4 * ((i : Int) - 0) → ax_W ax_LM gX3_staleMany (d + 5) 4 [(0, (3, 274, (a0 : Int))), (1, (0, 0, v1)), (2, (0, 0, (i : Int)))] [] M ((ax_qi 0 64 M) (f_X3_staleMany_L4 a0 M n i v1 kx)) := by
  intro n
  induction n with
  | zero =>
    intro i v1 hin hv1
    refine ax_lump ax_layM ok_kX3 [(4, .iload_n 2, 1, 0, 0, 0), (5, .bipush 16, 2, 0, 0, 0)] (pc' := 7) (lc' := [(0, (3, 274, (a0 : Int))), (1, (0, 0, v1)), (2, (0, 0, (i : Int)))]) (st' := [(0, 0, 16), (0, 0, (i : Int))]) (M' := M) (C' := True) (by decide +kernel) rfl trivial ?_
    refine ax_icmp_ge (off := 17) (tgt := 24) (by decide +kernel) (by decide) (fun h => ?_) (fun h => ?_)
    · refine ax_pk [1] (lc' := [(1, (0, 0, v1))]) rfl ?_
      exact hkx v1 (by omega)
    · exfalso; omega
  | succ n ih =>
    intro i v1 hin hv1
    refine ax_lump ax_layM ok_kX3 [(4, .iload_n 2, 1, 0, 0, 0), (5, .bipush 16, 2, 0, 0, 0)] (pc' := 7) (lc' := [(0, (3, 274, (a0 : Int))), (1, (0, 0, v1)), (2, (0, 0, (i : Int)))]) (st' := [(0, 0, 16), (0, 0, (i : Int))]) (M' := M) (C' := True) (by decide +kernel) rfl trivial ?_
    refine ax_icmp_ge (off := 17) (tgt := 24) (by decide +kernel) (by decide) (fun h => ?_) (fun h => ?_)
    · exfalso; omega
    · exact wb_X3_staleMany_B4 d a0 M i v1 _ kx  (by omega) hv1 (fun u1 hu1 => ih (i + 1) u1 (by omega) (by omega)) hkx
def f_X3_staleMany (a0 : Nat) (M : ax_M) : Int := f_X3_staleMany_L4 a0 M 16 0 0 (fun z2 => z2)
set_option maxRecDepth 100000 in
set_option maxHeartbeats 4000000 in
theorem c_X3_staleMany (d : Nat) (a0 : Nat) (M : ax_M)  : ax_Met ax_LM gX3_staleMany (d + 5) [(3, 274, (a0 : Int))] M ((ax_qi 0 64 M) (f_X3_staleMany a0 M)) := by
  refine ax_body (by decide) (fun X => Nat.le_of_ble_eq_true rfl) (fun hok => ?_)
  show ax_W ax_LM gX3_staleMany (d + 5) 0 [(0, (3, 274, (a0 : Int)))] [] M _
  unfold f_X3_staleMany
  refine ax_lump ax_layM ok_kX3 [(0, .iconst 0, 1, 0, 0, 0), (1, .istore_n 1, 1, 0, 0, 0), (2, .iconst 0, 1, 0, 0, 0), (3, .istore_n 2, 1, 0, 0, 0)] (pc' := 4) (lc' := [(2, (0, 0, 0)), (1, (0, 0, 0)), (0, (3, 274, (a0 : Int)))]) (st' := []) (M' := M) (C' := True) (by decide +kernel) rfl trivial ?_
  refine ax_pk [2,1,0] (lc' := [(0, (3, 274, (a0 : Int))), (1, (0, 0, 0)), (2, (0, 0, 0))]) rfl ?_
  refine w_X3_staleMany_L4 d a0 M _  (fun z2 hx_2 => ?_) 16 0 0 (by omega) (by omega)
  refine ax_lump ax_layM ok_kX3 [(24, .iload_n 1, 1, 0, 0, 0)] (pc' := 25) (lc' := [(1, (0, 0, z2))]) (st' := [(0, 0, z2)]) (M' := M) (C' := True) (by decide +kernel) rfl trivial ?_
  exact ax_iret (by decide +kernel) rfl ⟨rfl, rfl, (show (0 : Int) ≤ z2 from by omega), (show z2 ≤ (64 : Int) from by omega)⟩
def f_X3_isRuled (a1 : Nat) (M : ax_M) : Prop × Int × ax_M := ax_bd (ax_up M 6 0 (ax_wr ((M a1 (224 + (f_X3_mostWipes a1 M)).toNat) - (M a1 (224 + (f_X3_fewestWipes a1 M)).toNat)))) (fun M3 => ax_bd (ax_up M3 6 1 (f_X3_kindMany a1 0 M3)) (fun M5 => ax_bd (ax_up M5 6 2 (ax_rem (M5 a1 264) 10)) (fun M6 => ax_bd (ax_up M6 6 3 (ax_rem (M6 a1 265) 10)) (fun M7 => ax_bd (ax_up M7 6 4 ((f_X3_kindMany a1 3 M7) + (f_X3_kindMany a1 4 M7))) (fun M10 => ax_bd (ax_up M10 6 5 (f_X3_staleMany a1 M10)) (fun M12 => ax_rc (f_X3_ruled M12) (fun y13 => (if y13.1 ≤ 0 then (True, (0, y13.2)) else (True, (1, y13.2))))))))))
set_option maxRecDepth 100000 in
set_option maxHeartbeats 4000000 in
theorem c_X3_isRuled (d : Nat) (a1 : Nat) (M : ax_M)  (hX : (f_X3_isRuled a1 M).1) : ax_Met ax_LM gX3_isRuled (d + 6) [(2, 3, 0), (3, 274, (a1 : Int))] M ((ax_qm 0 1) (f_X3_isRuled a1 M).2) := by
  refine ax_body (by decide) (fun X => Nat.le_of_ble_eq_true rfl) (fun hok => ?_)
  show ax_W ax_LM gX3_isRuled (d + 6) 0 [(0, (2, 3, 0)), (1, (3, 274, (a1 : Int)))] [] M _
  unfold f_X3_isRuled at hX ⊢
  refine ax_lump ax_layM ok_kX3 [(0, .aload_n 0, 1, 0, 0, 0), (1, .getfield 129, 3, 3, 13, 0), (4, .iconst 0, 1, 0, 0, 0), (5, .aload_n 1, 1, 0, 0, 0), (6, .sipush 224, 3, 0, 0, 0), (9, .aload_n 1, 1, 0, 0, 0)] (pc' := 10) (lc' := [(0, (2, 3, 0)), (1, (3, 274, (a1 : Int)))]) (st' := [(3, 274, (a1 : Int)), (0, 0, 224), (3, 274, (a1 : Int)), (0, 0, 0), (3, 6, 6)]) (M' := M) (C' := True) (by decide +kernel) rfl trivial ?_
  refine ax_cSi (G1 := gX3_mostWipes) (d1 := d + 0) (i := 267) (n := 1) (as := [(3, 274, (a1 : Int))]) (st := [(0, 0, 224), (3, 274, (a1 : Int)), (0, 0, 0), (3, 6, 6)]) (by decide +kernel) calX3_mostWipes (by omega) rfl wt_1230 wt_1231 (Nat.le_of_ble_eq_true rfl) rfl (c_X3_mostWipes d a1 M) (fun hc1 => ?_)
  refine ax_lump ax_layM ok_kX3 [(13, .iadd, 1, 1, 0, 0), (14, .iaload, 1, 0, 0, 0), (15, .aload_n 1, 1, 0, 0, 0), (16, .sipush 224, 3, 0, 0, 0), (19, .aload_n 1, 1, 0, 0, 0)] (pc' := 20) (lc' := [(0, (2, 3, 0)), (1, (3, 274, (a1 : Int)))]) (st' := [(3, 274, (a1 : Int)), (0, 0, 224), (3, 274, (a1 : Int)), (0, 0, (M a1 (224 + (f_X3_mostWipes a1 M)).toNat)), (0, 0, 0), (3, 6, 6)]) (M' := M) (C' := ((True ∧ ax_r32 (224 + (f_X3_mostWipes a1 M))) ∧ (0 ≤ (224 + (f_X3_mostWipes a1 M)) ∧ (224 + (f_X3_mostWipes a1 M)) < ((274 : Nat) : Int)))) (by decide +kernel) rfl ⟨⟨trivial, ⟨by omega, by omega⟩⟩, by omega⟩ ?_
  refine ax_cSi (G1 := gX3_fewestWipes) (d1 := d + 0) (i := 270) (n := 1) (as := [(3, 274, (a1 : Int))]) (st := [(0, 0, 224), (3, 274, (a1 : Int)), (0, 0, (M a1 (224 + (f_X3_mostWipes a1 M)).toNat)), (0, 0, 0), (3, 6, 6)]) (by decide +kernel) calX3_fewestWipes (by omega) rfl wt_1233 wt_1234 (Nat.le_of_ble_eq_true rfl) rfl (c_X3_fewestWipes d a1 M) (fun hc2 => ?_)
  refine ax_lump ax_layM ok_kX3 [(23, .iadd, 1, 1, 0, 0), (24, .iaload, 1, 0, 0, 0), (25, .isub, 1, 0, 0, 0), (26, .iastore, 1, 0, 0, 0)] (pc' := 27) (lc' := [(0, (2, 3, 0)), (1, (3, 274, (a1 : Int)))]) (st' := []) (M' := (ax_up M 6 0 (ax_wr ((M a1 (224 + (f_X3_mostWipes a1 M)).toNat) - (M a1 (224 + (f_X3_fewestWipes a1 M)).toNat))))) (C' := (((True ∧ ax_r32 (224 + (f_X3_fewestWipes a1 M))) ∧ (0 ≤ (224 + (f_X3_fewestWipes a1 M)) ∧ (224 + (f_X3_fewestWipes a1 M)) < ((274 : Nat) : Int))) ∧ (0 ≤ 0 ∧ 0 < ((6 : Nat) : Int)))) (by decide +kernel) rfl ⟨⟨⟨trivial, ⟨by omega, by omega⟩⟩, by omega⟩, by omega⟩ ?_
  refine ax_bdMe_s hX (fun M3 hM_M3 hX => ?_)
  refine ax_lump ax_layM ok_kX3 [(27, .aload_n 0, 1, 0, 0, 0), (28, .getfield 129, 3, 3, 13, 0), (31, .iconst 1, 1, 0, 0, 0), (32, .aload_n 1, 1, 0, 0, 0), (33, .iconst 0, 1, 0, 0, 0)] (pc' := 34) (lc' := [(0, (2, 3, 0)), (1, (3, 274, (a1 : Int)))]) (st' := [(0, 0, 0), (3, 274, (a1 : Int)), (0, 0, 1), (3, 6, 6)]) (M' := M3) (C' := True) (by decide +kernel) rfl trivial ?_
  refine ax_cSi (G1 := gX3_kindMany) (d1 := d + 1) (i := 273) (n := 2) (as := [(3, 274, (a1 : Int)), (0, 0, 0)]) (st := [(0, 0, 1), (3, 6, 6)]) (by decide +kernel) calX3_kindMany (by omega) rfl wt_1209 wt_1210 (Nat.le_of_ble_eq_true rfl) rfl (c_X3_kindMany d a1 0 M3) (fun hc4 => ?_)
  refine ax_lump ax_layM ok_kX3 [(37, .iastore, 1, 0, 0, 0)] (pc' := 38) (lc' := [(0, (2, 3, 0)), (1, (3, 274, (a1 : Int)))]) (st' := []) (M' := (ax_up M3 6 1 (f_X3_kindMany a1 0 M3))) (C' := (True ∧ (0 ≤ 1 ∧ 1 < ((6 : Nat) : Int)))) (by decide +kernel) rfl ⟨trivial, by omega⟩ ?_
  refine ax_bdMe_s hX (fun M5 hM_M5 hX => ?_)
  refine ax_lump ax_layM ok_kX3 [(38, .aload_n 0, 1, 0, 0, 0), (39, .getfield 129, 3, 3, 13, 0), (42, .iconst 2, 1, 0, 0, 0), (43, .aload_n 1, 1, 0, 0, 0), (44, .sipush 264, 3, 0, 0, 0), (47, .iaload, 1, 0, 0, 0), (48, .bipush 10, 2, 0, 0, 0), (50, .irem, 1, 0, 0, 0), (51, .iastore, 1, 0, 0, 0)] (pc' := 52) (lc' := [(0, (2, 3, 0)), (1, (3, 274, (a1 : Int)))]) (st' := []) (M' := (ax_up M5 6 2 (ax_rem (M5 a1 264) 10))) (C' := (((True ∧ (0 ≤ 264 ∧ 264 < ((274 : Nat) : Int))) ∧ 10 ≠ 0) ∧ (0 ≤ 2 ∧ 2 < ((6 : Nat) : Int)))) (by decide +kernel) rfl ⟨⟨⟨trivial, by omega⟩, by omega⟩, by omega⟩ ?_
  refine ax_bdMe_s hX (fun M6 hM_M6 hX => ?_)
  refine ax_lump ax_layM ok_kX3 [(52, .aload_n 0, 1, 0, 0, 0), (53, .getfield 129, 3, 3, 13, 0), (56, .iconst 3, 1, 0, 0, 0), (57, .aload_n 1, 1, 0, 0, 0), (58, .sipush 265, 3, 0, 0, 0), (61, .iaload, 1, 0, 0, 0), (62, .bipush 10, 2, 0, 0, 0), (64, .irem, 1, 0, 0, 0), (65, .iastore, 1, 0, 0, 0)] (pc' := 66) (lc' := [(0, (2, 3, 0)), (1, (3, 274, (a1 : Int)))]) (st' := []) (M' := (ax_up M6 6 3 (ax_rem (M6 a1 265) 10))) (C' := (((True ∧ (0 ≤ 265 ∧ 265 < ((274 : Nat) : Int))) ∧ 10 ≠ 0) ∧ (0 ≤ 3 ∧ 3 < ((6 : Nat) : Int)))) (by decide +kernel) rfl ⟨⟨⟨trivial, by omega⟩, by omega⟩, by omega⟩ ?_
  refine ax_bdMe_s hX (fun M7 hM_M7 hX => ?_)
  refine ax_lump ax_layM ok_kX3 [(66, .aload_n 0, 1, 0, 0, 0), (67, .getfield 129, 3, 3, 13, 0), (70, .iconst 4, 1, 0, 0, 0), (71, .aload_n 1, 1, 0, 0, 0), (72, .iconst 3, 1, 0, 0, 0)] (pc' := 73) (lc' := [(0, (2, 3, 0)), (1, (3, 274, (a1 : Int)))]) (st' := [(0, 0, 3), (3, 274, (a1 : Int)), (0, 0, 4), (3, 6, 6)]) (M' := M7) (C' := True) (by decide +kernel) rfl trivial ?_
  refine ax_cSi (G1 := gX3_kindMany) (d1 := d + 1) (i := 273) (n := 2) (as := [(3, 274, (a1 : Int)), (0, 0, 3)]) (st := [(0, 0, 4), (3, 6, 6)]) (by decide +kernel) calX3_kindMany (by omega) rfl wt_1209 wt_1210 (Nat.le_of_ble_eq_true rfl) rfl (c_X3_kindMany d a1 3 M7) (fun hc8 => ?_)
  refine ax_lump ax_layM ok_kX3 [(76, .aload_n 1, 1, 0, 0, 0), (77, .iconst 4, 1, 0, 0, 0)] (pc' := 78) (lc' := [(0, (2, 3, 0)), (1, (3, 274, (a1 : Int)))]) (st' := [(0, 0, 4), (3, 274, (a1 : Int)), (0, 0, (f_X3_kindMany a1 3 M7)), (0, 0, 4), (3, 6, 6)]) (M' := M7) (C' := True) (by decide +kernel) rfl trivial ?_
  refine ax_cSi (G1 := gX3_kindMany) (d1 := d + 1) (i := 273) (n := 2) (as := [(3, 274, (a1 : Int)), (0, 0, 4)]) (st := [(0, 0, (f_X3_kindMany a1 3 M7)), (0, 0, 4), (3, 6, 6)]) (by decide +kernel) calX3_kindMany (by omega) rfl wt_1209 wt_1210 (Nat.le_of_ble_eq_true rfl) rfl (c_X3_kindMany d a1 4 M7) (fun hc9 => ?_)
  refine ax_lump ax_layM ok_kX3 [(81, .iadd, 1, 1, 0, 0), (82, .iastore, 1, 0, 0, 0)] (pc' := 83) (lc' := [(0, (2, 3, 0)), (1, (3, 274, (a1 : Int)))]) (st' := []) (M' := (ax_up M7 6 4 ((f_X3_kindMany a1 3 M7) + (f_X3_kindMany a1 4 M7)))) (C' := ((True ∧ ax_r32 ((f_X3_kindMany a1 3 M7) + (f_X3_kindMany a1 4 M7))) ∧ (0 ≤ 4 ∧ 4 < ((6 : Nat) : Int)))) (by decide +kernel) rfl ⟨⟨trivial, ⟨by omega, by omega⟩⟩, by omega⟩ ?_
  refine ax_bdMe_s hX (fun M10 hM_M10 hX => ?_)
  refine ax_lump ax_layM ok_kX3 [(83, .aload_n 0, 1, 0, 0, 0), (84, .getfield 129, 3, 3, 13, 0), (87, .iconst 5, 1, 0, 0, 0), (88, .aload_n 1, 1, 0, 0, 0)] (pc' := 89) (lc' := [(0, (2, 3, 0)), (1, (3, 274, (a1 : Int)))]) (st' := [(3, 274, (a1 : Int)), (0, 0, 5), (3, 6, 6)]) (M' := M10) (C' := True) (by decide +kernel) rfl trivial ?_
  refine ax_cSi (G1 := gX3_staleMany) (d1 := d + 5) (i := 276) (n := 1) (as := [(3, 274, (a1 : Int))]) (st := [(0, 0, 5), (3, 6, 6)]) (by decide +kernel) calX3_staleMany (by omega) rfl wt_1236 wt_1237 (Nat.le_of_ble_eq_true rfl) rfl (c_X3_staleMany d a1 M10) (fun hc11 => ?_)
  refine ax_lump ax_layM ok_kX3 [(92, .iastore, 1, 0, 0, 0)] (pc' := 93) (lc' := [(0, (2, 3, 0)), (1, (3, 274, (a1 : Int)))]) (st' := []) (M' := (ax_up M10 6 5 (f_X3_staleMany a1 M10))) (C' := (True ∧ (0 ≤ 5 ∧ 5 < ((6 : Nat) : Int)))) (by decide +kernel) rfl ⟨trivial, by omega⟩ ?_
  refine ax_bdMe_s hX (fun M12 hM_M12 hX => ?_)
  refine ax_lump ax_layM ok_kX3 [(93, .aload_n 0, 1, 0, 0, 0)] (pc' := 94) (lc' := [(0, (2, 3, 0)), (1, (3, 274, (a1 : Int)))]) (st' := [(2, 3, 0)]) (M' := M12) (C' := True) (by decide +kernel) rfl trivial ?_
  refine ax_cVm_r hX (G1 := gX3_ruled) (d1 := d + 2) (i := 279) (n := 0) (as := []) (st := []) (c := 3) (a := 0) (by decide +kernel) ax_cls3 calX3_ruled (by omega) rfl wt_1242 wt_1244 ws_96 (Nat.le_of_ble_eq_true rfl) rfl (fun hY => c_X3_ruled d  M12 hY) (fun y13 h_y13 hX => ?_)
  refine ax_zle_s hX (off := 7) (tgt := 104) (by decide +kernel) (by decide) (fun h14 hX => ?_) (fun h14 hX => ?_)
  · refine ax_lump ax_layM ok_kX3 [(104, .iconst 0, 1, 0, 0, 0)] (pc' := 105) (lc' := [(0, (2, 3, 0)), (1, (3, 274, (a1 : Int)))]) (st' := [(0, 0, 0)]) (M' := y13.2) (C' := True) (by decide +kernel) rfl trivial ?_
    exact ax_zret (by decide +kernel) rfl (by omega) ⟨rfl, rfl, (show (0 : Int) ≤ 0 from by omega), (show 0 ≤ (1 : Int) from by omega)⟩
  · refine ax_lump ax_layM ok_kX3 [(100, .iconst 1, 1, 0, 0, 0), (101, .goto 4, 3, 105, 0, 0)] (pc' := 105) (lc' := [(0, (2, 3, 0)), (1, (3, 274, (a1 : Int)))]) (st' := [(0, 0, 1)]) (M' := y13.2) (C' := True) (by decide +kernel) rfl trivial ?_
    exact ax_zret (by decide +kernel) rfl (by omega) ⟨rfl, rfl, (show (0 : Int) ≤ 1 from by omega), (show 1 ≤ (1 : Int) from by omega)⟩
def f_X3_firstEmpty_B2 (a0 : Nat) (w1 : Int) (M : ax_M) (i : Nat)  (kc : Unit → Int) (kx : Int → Int) : Int := (if (f_X3_isWritten a0 ((4 * w1) + (i : Int)) M) = 0 then kx (i : Int) else kc ())
def f_X3_firstEmpty_L2 (a0 : Nat) (w1 : Int) (M : ax_M) : Nat → Nat → (Int → Int) → Int
  | 0, i, kx => kx (i : Int)
  | n + 1, i, kx => f_X3_firstEmpty_B2 a0 w1 M i  (fun _ => f_X3_firstEmpty_L2 a0 w1 M n (i + 1)  kx) kx
set_option maxRecDepth 100000 in
set_option maxHeartbeats 4000000 in
theorem wb_X3_firstEmpty_B2 (d : Nat) (a0 : Nat) (w1 : Int) (M : ax_M) (i : Nat)  (kc : Unit → Int) (kx : Int → Int) (hw_w1 : 0 ≤ w1 ∧ w1 ≤ 15) (hi : 0 ≤ i ∧ i < 4)  (hkc : ∀ (_ : Unit), ax_W ax_LM gX3_firstEmpty (d + 1) 2 [(0, (3, 274, (a0 : Int))), (1, (0, 0, w1)), (2, (0, 0, ((i : Int) + 1)))] [] M ((ax_qi 0 4 M) (kc ()))) (hkx : ∀ (x2 : Int), ((0 ≤ x2 ∧ x2 ≤ 4)) → ax_W ax_LM gX3_firstEmpty (d + 1) 25 [(2, (0, 0, x2))] [] M ((ax_qi 0 4 M) (kx x2))) : ax_W ax_LM gX3_firstEmpty (d + 1) 7 [(0, (3, 274, (a0 : Int))), (1, (0, 0, w1)), (2, (0, 0, (i : Int)))] [] M ((ax_qi 0 4 M) (f_X3_firstEmpty_B2 a0 w1 M i  kc kx)) := by
  unfold f_X3_firstEmpty_B2
  refine ax_lump ax_layM ok_kX3 [(7, .aload_n 0, 1, 0, 0, 0), (8, .iconst 4, 1, 0, 0, 0), (9, .iload_n 1, 1, 0, 0, 0), (10, .imul, 1, 1, 0, 0), (11, .iload_n 2, 1, 0, 0, 0), (12, .iadd, 1, 1, 0, 0)] (pc' := 13) (lc' := [(0, (3, 274, (a0 : Int))), (1, (0, 0, w1)), (2, (0, 0, (i : Int)))]) (st' := [(0, 0, ((4 * w1) + (i : Int))), (3, 274, (a0 : Int))]) (M' := M) (C' := ((True ∧ ax_r32 (4 * w1)) ∧ ax_r32 ((4 * w1) + (i : Int)))) (by decide +kernel) rfl ⟨⟨trivial, ⟨by omega, by omega⟩⟩, ⟨by omega, by omega⟩⟩ ?_
  refine ax_cSi (G1 := gX3_isWritten) (d1 := d + 0) (i := 195) (n := 2) (as := [(3, 274, (a0 : Int)), (0, 0, ((4 * w1) + (i : Int)))]) (st := []) (by decide +kernel) calX3_isWritten (by omega) rfl wt_1098 wt_1099 (Nat.le_of_ble_eq_true rfl) rfl (c_X3_isWritten d a0 ((4 * w1) + (i : Int)) M (by omega)) (fun hc1 => ?_)
  refine ax_zeq (off := 9) (tgt := 25) (by decide +kernel) (by decide) (fun h2 => ?_) (fun h2 => ?_)
  · refine ax_pk [2] (lc' := [(2, (0, 0, (i : Int)))]) rfl ?_
    exact hkx (i : Int) (by omega)
  · refine ax_lump ax_layM ok_kX3 [(19, .iinc 2 1, 3, 1, 0, 0), (22, .goto (-20), 3, 2, 0, 0)] (pc' := 2) (lc' := [(2, (0, 0, ((i : Int) + 1))), (0, (3, 274, (a0 : Int))), (1, (0, 0, w1))]) (st' := []) (M' := M) (C' := (True ∧ ax_r32 ((i : Int) + 1))) (by decide +kernel) rfl ⟨trivial, ⟨by omega, by omega⟩⟩ ?_
    refine ax_pk [1,2,0] (lc' := [(0, (3, 274, (a0 : Int))), (1, (0, 0, w1)), (2, (0, 0, ((i : Int) + 1)))]) rfl ?_
    exact hkc () 
set_option maxRecDepth 100000 in
set_option maxHeartbeats 4000000 in
theorem w_X3_firstEmpty_L2 (d : Nat) (a0 : Nat) (w1 : Int) (M : ax_M) (kx : Int → Int) (hw_w1 : 0 ≤ w1 ∧ w1 ≤ 15) (hkx : ∀ (x2 : Int), ((0 ≤ x2 ∧ x2 ≤ 4)) → ax_W ax_LM gX3_firstEmpty (d + 1) 25 [(2, (0, 0, x2))] [] M ((ax_qi 0 4 M) (kx x2))) : ∀ (n : Nat) (i : Nat), 0 ≤ i ∧ i + n = 4 → ax_W ax_LM gX3_firstEmpty (d + 1) 2 [(0, (3, 274, (a0 : Int))), (1, (0, 0, w1)), (2, (0, 0, (i : Int)))] [] M ((ax_qi 0 4 M) (f_X3_firstEmpty_L2 a0 w1 M n i  kx)) := by
  intro n
  induction n with
  | zero =>
    intro i hin
    refine ax_lump ax_layM ok_kX3 [(2, .iload_n 2, 1, 0, 0, 0), (3, .iconst 4, 1, 0, 0, 0)] (pc' := 4) (lc' := [(0, (3, 274, (a0 : Int))), (1, (0, 0, w1)), (2, (0, 0, (i : Int)))]) (st' := [(0, 0, 4), (0, 0, (i : Int))]) (M' := M) (C' := True) (by decide +kernel) rfl trivial ?_
    refine ax_icmp_ge (off := 21) (tgt := 25) (by decide +kernel) (by decide) (fun h => ?_) (fun h => ?_)
    · refine ax_pk [2] (lc' := [(2, (0, 0, (i : Int)))]) rfl ?_
      exact hkx (i : Int) (by omega)
    · exfalso; omega
  | succ n ih =>
    intro i hin
    refine ax_lump ax_layM ok_kX3 [(2, .iload_n 2, 1, 0, 0, 0), (3, .iconst 4, 1, 0, 0, 0)] (pc' := 4) (lc' := [(0, (3, 274, (a0 : Int))), (1, (0, 0, w1)), (2, (0, 0, (i : Int)))]) (st' := [(0, 0, 4), (0, 0, (i : Int))]) (M' := M) (C' := True) (by decide +kernel) rfl trivial ?_
    refine ax_icmp_ge (off := 21) (tgt := 25) (by decide +kernel) (by decide) (fun h => ?_) (fun h => ?_)
    · exfalso; omega
    · exact wb_X3_firstEmpty_B2 d a0 w1 M i  _ kx hw_w1 (by omega)  (fun _ => ih (i + 1)  (by omega) ) hkx
def f_X3_firstEmpty (a0 : Nat) (x1 : Int) (M : ax_M) : Int := f_X3_firstEmpty_L2 a0 x1 M 4 0  (fun z3 => z3)
set_option maxRecDepth 100000 in
set_option maxHeartbeats 4000000 in
theorem c_X3_firstEmpty (d : Nat) (a0 : Nat) (x1 : Int) (M : ax_M) (hp1 : 0 ≤ x1 ∧ x1 ≤ 15) : ax_Met ax_LM gX3_firstEmpty (d + 1) [(3, 274, (a0 : Int)), (0, 0, x1)] M ((ax_qi 0 4 M) (f_X3_firstEmpty a0 x1 M)) := by
  refine ax_body (by decide) (fun X => Nat.le_of_ble_eq_true rfl) (fun hok => ?_)
  have hr_x1 : (-2147483648) ≤ x1 ∧ x1 ≤ 2147483647 := hok (0, 0, x1) (by simp)
  show ax_W ax_LM gX3_firstEmpty (d + 1) 0 [(0, (3, 274, (a0 : Int))), (1, (0, 0, x1))] [] M _
  unfold f_X3_firstEmpty
  refine ax_lump ax_layM ok_kX3 [(0, .iconst 0, 1, 0, 0, 0), (1, .istore_n 2, 1, 0, 0, 0)] (pc' := 2) (lc' := [(2, (0, 0, 0)), (0, (3, 274, (a0 : Int))), (1, (0, 0, x1))]) (st' := []) (M' := M) (C' := True) (by decide +kernel) rfl trivial ?_
  refine ax_pk [1,2,0] (lc' := [(0, (3, 274, (a0 : Int))), (1, (0, 0, x1)), (2, (0, 0, 0))]) rfl ?_
  refine w_X3_firstEmpty_L2 d a0 x1 M _ (by omega) (fun z3 hx_3 => ?_) 4 0  (by omega) 
  refine ax_lump ax_layM ok_kX3 [(25, .iload_n 2, 1, 0, 0, 0)] (pc' := 26) (lc' := [(2, (0, 0, z3))]) (st' := [(0, 0, z3)]) (M' := M) (C' := True) (by decide +kernel) rfl trivial ?_
  exact ax_iret (by decide +kernel) rfl ⟨rfl, rfl, (show (0 : Int) ≤ z3 from by omega), (show z3 ≤ (4 : Int) from by omega)⟩
def f_X3_isHot (a0 : Nat) (x1 : Int) (M : ax_M) : Int := (if (M a0 272) = 0 then 0 else (if (M a0 (240 + x1).toNat) < (M a0 273) then 0 else 1))
set_option maxRecDepth 100000 in
set_option maxHeartbeats 4000000 in
theorem c_X3_isHot (d : Nat) (a0 : Nat) (x1 : Int) (M : ax_M) (hp1 : 0 ≤ x1 ∧ x1 ≤ 23) : ax_Met ax_LM gX3_isHot (d + 0) [(3, 274, (a0 : Int)), (0, 0, x1)] M ((ax_qi 0 1 M) (f_X3_isHot a0 x1 M)) := by
  refine ax_body (by decide) (fun X => Nat.le_of_ble_eq_true rfl) (fun hok => ?_)
  have hr_x1 : (-2147483648) ≤ x1 ∧ x1 ≤ 2147483647 := hok (0, 0, x1) (by simp)
  show ax_W ax_LM gX3_isHot (d + 0) 0 [(0, (3, 274, (a0 : Int))), (1, (0, 0, x1))] [] M _
  unfold f_X3_isHot
  refine ax_lump ax_layM ok_kX3 [(0, .aload_n 0, 1, 0, 0, 0), (1, .sipush 272, 3, 0, 0, 0), (4, .iaload, 1, 0, 0, 0)] (pc' := 5) (lc' := [(0, (3, 274, (a0 : Int))), (1, (0, 0, x1))]) (st' := [(0, 0, (M a0 272))]) (M' := M) (C' := (True ∧ (0 ≤ 272 ∧ 272 < ((274 : Nat) : Int)))) (by decide +kernel) rfl ⟨trivial, by omega⟩ ?_
  refine ax_zeq (off := 22) (tgt := 27) (by decide +kernel) (by decide) (fun h1 => ?_) (fun h1 => ?_)
  · refine ax_lump ax_layM ok_kX3 [(27, .iconst 0, 1, 0, 0, 0)] (pc' := 28) (lc' := [(0, (3, 274, (a0 : Int))), (1, (0, 0, x1))]) (st' := [(0, 0, 0)]) (M' := M) (C' := True) (by decide +kernel) rfl trivial ?_
    exact ax_zret (by decide +kernel) rfl (by omega) ⟨rfl, rfl, (show (0 : Int) ≤ 0 from by omega), (show 0 ≤ (1 : Int) from by omega)⟩
  · refine ax_lump ax_layM ok_kX3 [(8, .aload_n 0, 1, 0, 0, 0), (9, .sipush 240, 3, 0, 0, 0), (12, .iload_n 1, 1, 0, 0, 0), (13, .iadd, 1, 1, 0, 0), (14, .iaload, 1, 0, 0, 0), (15, .aload_n 0, 1, 0, 0, 0), (16, .sipush 273, 3, 0, 0, 0), (19, .iaload, 1, 0, 0, 0)] (pc' := 20) (lc' := [(0, (3, 274, (a0 : Int))), (1, (0, 0, x1))]) (st' := [(0, 0, (M a0 273)), (0, 0, (M a0 (240 + x1).toNat))]) (M' := M) (C' := (((True ∧ ax_r32 (240 + x1)) ∧ (0 ≤ (240 + x1) ∧ (240 + x1) < ((274 : Nat) : Int))) ∧ (0 ≤ 273 ∧ 273 < ((274 : Nat) : Int)))) (by decide +kernel) rfl ⟨⟨⟨trivial, ⟨by omega, by omega⟩⟩, by omega⟩, by omega⟩ ?_
    refine ax_jlt (off := 7) (tgt := 27) (by decide +kernel) (by decide) (fun h2 => ?_) (fun h2 => ?_)
    · refine ax_lump ax_layM ok_kX3 [(27, .iconst 0, 1, 0, 0, 0)] (pc' := 28) (lc' := [(0, (3, 274, (a0 : Int))), (1, (0, 0, x1))]) (st' := [(0, 0, 0)]) (M' := M) (C' := True) (by decide +kernel) rfl trivial ?_
      exact ax_zret (by decide +kernel) rfl (by omega) ⟨rfl, rfl, (show (0 : Int) ≤ 0 from by omega), (show 0 ≤ (1 : Int) from by omega)⟩
    · refine ax_lump ax_layM ok_kX3 [(23, .iconst 1, 1, 0, 0, 0), (24, .goto 4, 3, 28, 0, 0)] (pc' := 28) (lc' := [(0, (3, 274, (a0 : Int))), (1, (0, 0, x1))]) (st' := [(0, 0, 1)]) (M' := M) (C' := True) (by decide +kernel) rfl trivial ?_
      exact ax_zret (by decide +kernel) rfl (by omega) ⟨rfl, rfl, (show (0 : Int) ≤ 1 from by omega), (show 1 ≤ (1 : Int) from by omega)⟩
def f_X3_logLeaf_J85 (a1 : Nat) (j3 : Int) (s0 : Int) (s2 : Int) (M : ax_M) : Prop × Int × ax_M := (if s2 ≠ (M a1 s0.toNat) then ax_bd (f_X3_taken a1 j3 (f_X3_kindMany a1 j3 M) M) (fun y10 => (True, ((4 * y10.1), y10.2))) else ax_rc (f_X3_clearsLog a1 j3 M) (fun y11 => ax_bd (f_X3_taken a1 j3 (f_X3_kindMany a1 j3 y11.2) y11.2) (fun y13 => (True, ((4 * y13.1), y13.2)))))
set_option maxRecDepth 100000 in
set_option maxHeartbeats 4000000 in
theorem w_X3_logLeaf_J85 (d : Nat) (a1 : Nat) (j3 : Int) (s0 : Int) (s2 : Int) (M : ax_M) (hw_j3 : 3 ≤ j3 ∧ j3 ≤ 4) (hw_s0 : 271 ≤ s0 ∧ s0 ≤ 272) (hw_s2 : 0 ≤ s2 ∧ s2 ≤ 16) (hX : (f_X3_logLeaf_J85 a1 j3 s0 s2 M).1) : ax_W ax_LM gX3_logLeaf (d + 6) 85 [(0, (2, 3, 0)), (1, (3, 274, (a1 : Int))), (3, (0, 0, j3))] [(0, 0, s0), (3, 274, (a1 : Int)), (0, 0, s2)] M ((ax_qm (-4) 63) (f_X3_logLeaf_J85 a1 j3 s0 s2 M).2) := by
  unfold f_X3_logLeaf_J85 at hX ⊢
  refine ax_lump ax_layM ok_kX3 [(85, .iaload, 1, 0, 0, 0)] (pc' := 86) (lc' := [(0, (2, 3, 0)), (1, (3, 274, (a1 : Int))), (3, (0, 0, j3))]) (st' := [(0, 0, (M a1 s0.toNat)), (0, 0, s2)]) (M' := M) (C' := (True ∧ (0 ≤ s0 ∧ s0 < ((274 : Nat) : Int)))) (by decide +kernel) rfl ⟨trivial, by omega⟩ ?_
  refine ax_jne_s hX (off := 10) (tgt := 96) (by decide +kernel) (by decide) (fun h8 hX => ?_) (fun h8 hX => ?_)
  · refine ax_lump ax_layM ok_kX3 [(96, .iconst 4, 1, 0, 0, 0), (97, .aload_n 1, 1, 0, 0, 0), (98, .iload_n 3, 1, 0, 0, 0), (99, .aload_n 1, 1, 0, 0, 0), (100, .iload_n 3, 1, 0, 0, 0)] (pc' := 101) (lc' := [(0, (2, 3, 0)), (1, (3, 274, (a1 : Int))), (3, (0, 0, j3))]) (st' := [(0, 0, j3), (3, 274, (a1 : Int)), (0, 0, j3), (3, 274, (a1 : Int)), (0, 0, 4)]) (M' := M) (C' := True) (by decide +kernel) rfl trivial ?_
    refine ax_cSi (G1 := gX3_kindMany) (d1 := d + 1) (i := 273) (n := 2) (as := [(3, 274, (a1 : Int)), (0, 0, j3)]) (st := [(0, 0, j3), (3, 274, (a1 : Int)), (0, 0, 4)]) (by decide +kernel) calX3_kindMany (by omega) rfl wt_1209 wt_1210 (Nat.le_of_ble_eq_true rfl) rfl (c_X3_kindMany d a1 j3 M) (fun hc9 => ?_)
    refine ax_cSm_s hX (G1 := gX3_taken) (d1 := d + 1) (i := 232) (n := 3) (as := [(3, 274, (a1 : Int)), (0, 0, j3), (0, 0, (f_X3_kindMany a1 j3 M))]) (st := [(0, 0, 4)]) (by decide +kernel) calX3_taken (by omega) rfl wt_1155 wt_1156 (Nat.le_of_ble_eq_true rfl) rfl (c_X3_taken d a1 j3 (f_X3_kindMany a1 j3 M) M) (fun y10 h_y10 hX => ?_)
    refine ax_lump ax_layM ok_kX3 [(107, .imul, 1, 1, 0, 0)] (pc' := 108) (lc' := [(0, (2, 3, 0)), (1, (3, 274, (a1 : Int))), (3, (0, 0, j3))]) (st' := [(0, 0, (4 * y10.1))]) (M' := y10.2) (C' := (True ∧ ax_r32 (4 * y10.1))) (by decide +kernel) rfl ⟨trivial, ⟨by omega, by omega⟩⟩ ?_
    exact ax_iret (by decide +kernel) rfl ⟨rfl, rfl, (show ((-4) : Int) ≤ (4 * y10.1) from by omega), (show (4 * y10.1) ≤ (63 : Int) from by omega)⟩
  · refine ax_lump ax_layM ok_kX3 [(89, .aload_n 0, 1, 0, 0, 0), (90, .aload_n 1, 1, 0, 0, 0), (91, .iload_n 3, 1, 0, 0, 0)] (pc' := 92) (lc' := [(0, (2, 3, 0)), (1, (3, 274, (a1 : Int))), (3, (0, 0, j3))]) (st' := [(0, 0, j3), (3, 274, (a1 : Int)), (2, 3, 0)]) (M' := M) (C' := True) (by decide +kernel) rfl trivial ?_
    refine ax_cVm_r hX (G1 := gX3_clearsLog) (d1 := d + 5) (i := 288) (n := 2) (as := [(3, 274, (a1 : Int)), (0, 0, j3)]) (st := []) (c := 3) (a := 0) (by decide +kernel) ax_cls3 calX3_clearsLog (by omega) rfl wt_1212 wt_1214 ws_93 (Nat.le_of_ble_eq_true rfl) rfl (fun hY => c_X3_clearsLog d a1 j3 M hY) (fun y11 h_y11 hX => ?_)
    refine ax_lump ax_layM ok_kX3 [(95, .pop, 1, 0, 0, 0), (96, .iconst 4, 1, 0, 0, 0), (97, .aload_n 1, 1, 0, 0, 0), (98, .iload_n 3, 1, 0, 0, 0), (99, .aload_n 1, 1, 0, 0, 0), (100, .iload_n 3, 1, 0, 0, 0)] (pc' := 101) (lc' := [(0, (2, 3, 0)), (1, (3, 274, (a1 : Int))), (3, (0, 0, j3))]) (st' := [(0, 0, j3), (3, 274, (a1 : Int)), (0, 0, j3), (3, 274, (a1 : Int)), (0, 0, 4)]) (M' := y11.2) (C' := True) (by decide +kernel) rfl trivial ?_
    refine ax_cSi (G1 := gX3_kindMany) (d1 := d + 1) (i := 273) (n := 2) (as := [(3, 274, (a1 : Int)), (0, 0, j3)]) (st := [(0, 0, j3), (3, 274, (a1 : Int)), (0, 0, 4)]) (by decide +kernel) calX3_kindMany (by omega) rfl wt_1209 wt_1210 (Nat.le_of_ble_eq_true rfl) rfl (c_X3_kindMany d a1 j3 y11.2) (fun hc12 => ?_)
    refine ax_cSm_s hX (G1 := gX3_taken) (d1 := d + 1) (i := 232) (n := 3) (as := [(3, 274, (a1 : Int)), (0, 0, j3), (0, 0, (f_X3_kindMany a1 j3 y11.2))]) (st := [(0, 0, 4)]) (by decide +kernel) calX3_taken (by omega) rfl wt_1155 wt_1156 (Nat.le_of_ble_eq_true rfl) rfl (c_X3_taken d a1 j3 (f_X3_kindMany a1 j3 y11.2) y11.2) (fun y13 h_y13 hX => ?_)
    refine ax_lump ax_layM ok_kX3 [(107, .imul, 1, 1, 0, 0)] (pc' := 108) (lc' := [(0, (2, 3, 0)), (1, (3, 274, (a1 : Int))), (3, (0, 0, j3))]) (st' := [(0, 0, (4 * y13.1))]) (M' := y13.2) (C' := (True ∧ ax_r32 (4 * y13.1))) (by decide +kernel) rfl ⟨trivial, ⟨by omega, by omega⟩⟩ ?_
    exact ax_iret (by decide +kernel) rfl ⟨rfl, rfl, (show ((-4) : Int) ≤ (4 * y13.1) from by omega), (show (4 * y13.1) ≤ (63 : Int) from by omega)⟩
def f_X3_logLeaf_J68 (a1 : Nat) (j3 : Int) (j4 : Int) (M : ax_M) : Prop × Int × ax_M := (if j3 ≠ 4 then f_X3_logLeaf_J85 a1 j3 271 j4 M else f_X3_logLeaf_J85 a1 j3 272 j4 M)
set_option maxRecDepth 100000 in
set_option maxHeartbeats 4000000 in
theorem w_X3_logLeaf_J68 (d : Nat) (a1 : Nat) (j3 : Int) (j4 : Int) (M : ax_M) (hw_j3 : 3 ≤ j3 ∧ j3 ≤ 4) (hw_j4 : 0 ≤ j4 ∧ j4 ≤ 16) (hX : (f_X3_logLeaf_J68 a1 j3 j4 M).1) : ax_W ax_LM gX3_logLeaf (d + 6) 68 [(0, (2, 3, 0)), (1, (3, 274, (a1 : Int))), (3, (0, 0, j3)), (4, (0, 0, j4))] [] M ((ax_qm (-4) 63) (f_X3_logLeaf_J68 a1 j3 j4 M).2) := by
  unfold f_X3_logLeaf_J68 at hX ⊢
  refine ax_lump ax_layM ok_kX3 [(68, .iload 4, 2, 0, 0, 0), (70, .aload_n 1, 1, 0, 0, 0), (71, .iload_n 3, 1, 0, 0, 0), (72, .iconst 4, 1, 0, 0, 0)] (pc' := 73) (lc' := [(0, (2, 3, 0)), (1, (3, 274, (a1 : Int))), (3, (0, 0, j3)), (4, (0, 0, j4))]) (st' := [(0, 0, 4), (0, 0, j3), (3, 274, (a1 : Int)), (0, 0, j4)]) (M' := M) (C' := True) (by decide +kernel) rfl trivial ?_
  refine ax_jne_s hX (off := 9) (tgt := 82) (by decide +kernel) (by decide) (fun h7 hX => ?_) (fun h7 hX => ?_)
  · refine ax_lump ax_layM ok_kX3 [(82, .sipush 271, 3, 0, 0, 0)] (pc' := 85) (lc' := [(0, (2, 3, 0)), (1, (3, 274, (a1 : Int))), (3, (0, 0, j3)), (4, (0, 0, j4))]) (st' := [(0, 0, 271), (3, 274, (a1 : Int)), (0, 0, j4)]) (M' := M) (C' := True) (by decide +kernel) rfl trivial ?_
    refine ax_pk [0,1,2] (lc' := [(0, (2, 3, 0)), (1, (3, 274, (a1 : Int))), (3, (0, 0, j3))]) rfl ?_
    exact w_X3_logLeaf_J85 d a1 j3 271 j4 M (by omega) (by omega) (by omega) hX
  · refine ax_lump ax_layM ok_kX3 [(76, .sipush 272, 3, 0, 0, 0), (79, .goto 6, 3, 85, 0, 0)] (pc' := 85) (lc' := [(0, (2, 3, 0)), (1, (3, 274, (a1 : Int))), (3, (0, 0, j3)), (4, (0, 0, j4))]) (st' := [(0, 0, 272), (3, 274, (a1 : Int)), (0, 0, j4)]) (M' := M) (C' := True) (by decide +kernel) rfl trivial ?_
    refine ax_pk [0,1,2] (lc' := [(0, (2, 3, 0)), (1, (3, 274, (a1 : Int))), (3, (0, 0, j3))]) rfl ?_
    exact w_X3_logLeaf_J85 d a1 j3 272 j4 M (by omega) (by omega) (by omega) hX
def f_X3_logLeaf_J39 (a1 : Nat) (j3 : Int) (j4 : Int) (s0 : Int) (M : ax_M) : Prop × Int × ax_M := (if s0 < 0 then f_X3_logLeaf_J68 a1 j3 j4 M else (if 4 ≤ (f_X3_firstEmpty a1 s0 M) then f_X3_logLeaf_J68 a1 j3 j4 M else (True, (((4 * s0) + (f_X3_firstEmpty a1 s0 M)), M))))
set_option maxRecDepth 100000 in
set_option maxHeartbeats 4000000 in
theorem w_X3_logLeaf_J39 (d : Nat) (a1 : Nat) (j3 : Int) (j4 : Int) (s0 : Int) (M : ax_M) (hw_j3 : 3 ≤ j3 ∧ j3 ≤ 4) (hw_j4 : 0 ≤ j4 ∧ j4 ≤ 16) (hw_s0 : (-1) ≤ s0 ∧ s0 ≤ 15) (hX : (f_X3_logLeaf_J39 a1 j3 j4 s0 M).1) : ax_W ax_LM gX3_logLeaf (d + 6) 39 [(0, (2, 3, 0)), (1, (3, 274, (a1 : Int))), (3, (0, 0, j3)), (4, (0, 0, j4))] [(0, 0, s0)] M ((ax_qm (-4) 63) (f_X3_logLeaf_J39 a1 j3 j4 s0 M).2) := by
  unfold f_X3_logLeaf_J39 at hX ⊢
  refine ax_lump ax_layM ok_kX3 [(39, .istore 5, 2, 0, 0, 0), (41, .iload 5, 2, 0, 0, 0)] (pc' := 43) (lc' := [(5, (0, 0, s0)), (0, (2, 3, 0)), (1, (3, 274, (a1 : Int))), (3, (0, 0, j3)), (4, (0, 0, j4))]) (st' := [(0, 0, s0)]) (M' := M) (C' := True) (by decide +kernel) rfl trivial ?_
  refine ax_zlt_s hX (off := 25) (tgt := 68) (by decide +kernel) (by decide) (fun h6 hX => ?_) (fun h6 hX => ?_)
  · refine ax_pk [1,2,3,4] (lc' := [(0, (2, 3, 0)), (1, (3, 274, (a1 : Int))), (3, (0, 0, j3)), (4, (0, 0, j4))]) rfl ?_
    exact w_X3_logLeaf_J68 d a1 j3 j4 M (by omega) (by omega) hX
  · refine ax_lump ax_layM ok_kX3 [(46, .aload_n 1, 1, 0, 0, 0), (47, .iload 5, 2, 0, 0, 0)] (pc' := 49) (lc' := [(5, (0, 0, s0)), (0, (2, 3, 0)), (1, (3, 274, (a1 : Int))), (3, (0, 0, j3)), (4, (0, 0, j4))]) (st' := [(0, 0, s0), (3, 274, (a1 : Int))]) (M' := M) (C' := True) (by decide +kernel) rfl trivial ?_
    refine ax_cSi (G1 := gX3_firstEmpty) (d1 := d + 1) (i := 285) (n := 2) (as := [(3, 274, (a1 : Int)), (0, 0, s0)]) (st := []) (by decide +kernel) calX3_firstEmpty (by omega) rfl wt_1199 wt_1200 (Nat.le_of_ble_eq_true rfl) rfl (c_X3_firstEmpty d a1 s0 M (by omega)) (fun hc14 => ?_)
    refine ax_lump ax_layM ok_kX3 [(52, .iconst 4, 1, 0, 0, 0)] (pc' := 53) (lc' := [(5, (0, 0, s0)), (0, (2, 3, 0)), (1, (3, 274, (a1 : Int))), (3, (0, 0, j3)), (4, (0, 0, j4))]) (st' := [(0, 0, 4), (0, 0, (f_X3_firstEmpty a1 s0 M))]) (M' := M) (C' := True) (by decide +kernel) rfl trivial ?_
    refine ax_jge_s hX (off := 15) (tgt := 68) (by decide +kernel) (by decide) (fun h15 hX => ?_) (fun h15 hX => ?_)
    · refine ax_pk [1,2,3,4] (lc' := [(0, (2, 3, 0)), (1, (3, 274, (a1 : Int))), (3, (0, 0, j3)), (4, (0, 0, j4))]) rfl ?_
      exact w_X3_logLeaf_J68 d a1 j3 j4 M (by omega) (by omega) hX
    · refine ax_lump ax_layM ok_kX3 [(56, .iconst 4, 1, 0, 0, 0), (57, .iload 5, 2, 0, 0, 0), (59, .imul, 1, 1, 0, 0), (60, .aload_n 1, 1, 0, 0, 0), (61, .iload 5, 2, 0, 0, 0)] (pc' := 63) (lc' := [(5, (0, 0, s0)), (0, (2, 3, 0)), (1, (3, 274, (a1 : Int))), (3, (0, 0, j3)), (4, (0, 0, j4))]) (st' := [(0, 0, s0), (3, 274, (a1 : Int)), (0, 0, (4 * s0))]) (M' := M) (C' := (True ∧ ax_r32 (4 * s0))) (by decide +kernel) rfl ⟨trivial, ⟨by omega, by omega⟩⟩ ?_
      refine ax_cSi (G1 := gX3_firstEmpty) (d1 := d + 1) (i := 285) (n := 2) (as := [(3, 274, (a1 : Int)), (0, 0, s0)]) (st := [(0, 0, (4 * s0))]) (by decide +kernel) calX3_firstEmpty (by omega) rfl wt_1199 wt_1200 (Nat.le_of_ble_eq_true rfl) rfl (c_X3_firstEmpty d a1 s0 M (by omega)) (fun hc16 => ?_)
      refine ax_lump ax_layM ok_kX3 [(66, .iadd, 1, 1, 0, 0)] (pc' := 67) (lc' := [(5, (0, 0, s0)), (0, (2, 3, 0)), (1, (3, 274, (a1 : Int))), (3, (0, 0, j3)), (4, (0, 0, j4))]) (st' := [(0, 0, ((4 * s0) + (f_X3_firstEmpty a1 s0 M)))]) (M' := M) (C' := (True ∧ ax_r32 ((4 * s0) + (f_X3_firstEmpty a1 s0 M)))) (by decide +kernel) rfl ⟨trivial, ⟨by omega, by omega⟩⟩ ?_
      exact ax_iret (by decide +kernel) rfl ⟨rfl, rfl, (show ((-4) : Int) ≤ ((4 * s0) + (f_X3_firstEmpty a1 s0 M)) from by omega), (show ((4 * s0) + (f_X3_firstEmpty a1 s0 M)) ≤ (63 : Int) from by omega)⟩
def f_X3_logLeaf_J13 (a1 : Nat) (s0 : Int) (M : ax_M) : Prop × Int × ax_M := ax_bd (f_X3_kindMany a1 s0 M) (fun y4 => (if y4 ≤ 0 then f_X3_logLeaf_J39 a1 s0 y4 (-1) M else f_X3_logLeaf_J39 a1 s0 y4 (f_X3_blockOf a1 s0 (y4 - 1) M) M))
set_option maxRecDepth 100000 in
set_option maxHeartbeats 4000000 in
theorem w_X3_logLeaf_J13 (d : Nat) (a1 : Nat) (s0 : Int) (M : ax_M) (hw_s0 : 3 ≤ s0 ∧ s0 ≤ 4) (hX : (f_X3_logLeaf_J13 a1 s0 M).1) : ax_W ax_LM gX3_logLeaf (d + 6) 13 [(0, (2, 3, 0)), (1, (3, 274, (a1 : Int)))] [(0, 0, s0)] M ((ax_qm (-4) 63) (f_X3_logLeaf_J13 a1 s0 M).2) := by
  unfold f_X3_logLeaf_J13 at hX ⊢
  refine ax_lump ax_layM ok_kX3 [(13, .istore_n 3, 1, 0, 0, 0), (14, .aload_n 1, 1, 0, 0, 0), (15, .iload_n 3, 1, 0, 0, 0)] (pc' := 16) (lc' := [(3, (0, 0, s0)), (0, (2, 3, 0)), (1, (3, 274, (a1 : Int)))]) (st' := [(0, 0, s0), (3, 274, (a1 : Int))]) (M' := M) (C' := True) (by decide +kernel) rfl trivial ?_
  refine ax_cSi (G1 := gX3_kindMany) (d1 := d + 1) (i := 273) (n := 2) (as := [(3, 274, (a1 : Int)), (0, 0, s0)]) (st := []) (by decide +kernel) calX3_kindMany (by omega) rfl wt_1209 wt_1210 (Nat.le_of_ble_eq_true rfl) rfl (c_X3_kindMany d a1 s0 M) (fun hc3 => ?_)
  refine ax_lump ax_layM ok_kX3 [(19, .istore 4, 2, 0, 0, 0)] (pc' := 21) (lc' := [(4, (0, 0, (f_X3_kindMany a1 s0 M))), (3, (0, 0, s0)), (0, (2, 3, 0)), (1, (3, 274, (a1 : Int)))]) (st' := []) (M' := M) (C' := True) (by decide +kernel) rfl trivial ?_
  refine ax_bdI_s hX (lo := 0) (hi := 16) (e := (f_X3_kindMany a1 s0 M)) (fun y4 => [(4, (0, 0, y4)), (3, (0, 0, s0)), (0, (2, 3, 0)), (1, (3, 274, (a1 : Int)))]) (fun y4 => []) (by omega) (fun y4 h_y4 hX => ?_)
  refine ax_lump ax_layM ok_kX3 [(21, .iload 4, 2, 0, 0, 0)] (pc' := 23) (lc' := [(4, (0, 0, y4)), (3, (0, 0, s0)), (0, (2, 3, 0)), (1, (3, 274, (a1 : Int)))]) (st' := [(0, 0, y4)]) (M' := M) (C' := True) (by decide +kernel) rfl trivial ?_
  refine ax_zle_s hX (off := 15) (tgt := 38) (by decide +kernel) (by decide) (fun h5 hX => ?_) (fun h5 hX => ?_)
  · refine ax_lump ax_layM ok_kX3 [(38, .iconst (-1), 1, 0, 0, 0)] (pc' := 39) (lc' := [(4, (0, 0, y4)), (3, (0, 0, s0)), (0, (2, 3, 0)), (1, (3, 274, (a1 : Int)))]) (st' := [(0, 0, (-1))]) (M' := M) (C' := True) (by decide +kernel) rfl trivial ?_
    refine ax_pk [2,3,1,0] (lc' := [(0, (2, 3, 0)), (1, (3, 274, (a1 : Int))), (3, (0, 0, s0)), (4, (0, 0, y4))]) rfl ?_
    exact w_X3_logLeaf_J39 d a1 s0 y4 (-1) M (by omega) (by omega) (by omega) hX
  · refine ax_lump ax_layM ok_kX3 [(26, .aload_n 1, 1, 0, 0, 0), (27, .iload_n 3, 1, 0, 0, 0), (28, .iload 4, 2, 0, 0, 0), (30, .iconst 1, 1, 0, 0, 0), (31, .isub, 1, 1, 0, 0)] (pc' := 32) (lc' := [(4, (0, 0, y4)), (3, (0, 0, s0)), (0, (2, 3, 0)), (1, (3, 274, (a1 : Int)))]) (st' := [(0, 0, (y4 - 1)), (0, 0, s0), (3, 274, (a1 : Int))]) (M' := M) (C' := (True ∧ ax_r32 (y4 - 1))) (by decide +kernel) rfl ⟨trivial, ⟨by omega, by omega⟩⟩ ?_
    refine ax_cSi (G1 := gX3_blockOf) (d1 := d + 0) (i := 228) (n := 3) (as := [(3, 274, (a1 : Int)), (0, 0, s0), (0, 0, (y4 - 1))]) (st := []) (by decide +kernel) calX3_blockOf (by omega) rfl wt_1152 wt_1153 (Nat.le_of_ble_eq_true rfl) rfl (c_X3_blockOf d a1 s0 (y4 - 1) M) (fun hc17 => ?_)
    refine ax_lump ax_layM ok_kX3 [(35, .goto 4, 3, 39, 0, 0)] (pc' := 39) (lc' := [(4, (0, 0, y4)), (3, (0, 0, s0)), (0, (2, 3, 0)), (1, (3, 274, (a1 : Int)))]) (st' := [(0, 0, (f_X3_blockOf a1 s0 (y4 - 1) M))]) (M' := M) (C' := True) (by decide +kernel) rfl trivial ?_
    refine ax_pk [2,3,1,0] (lc' := [(0, (2, 3, 0)), (1, (3, 274, (a1 : Int))), (3, (0, 0, s0)), (4, (0, 0, y4))]) rfl ?_
    exact w_X3_logLeaf_J39 d a1 s0 y4 (f_X3_blockOf a1 s0 (y4 - 1) M) M (by omega) (by omega) (by omega) hX
def f_X3_logLeaf (a1 : Nat) (x2 : Int) (M : ax_M) : Prop × Int × ax_M := (if (f_X3_isHot a1 x2 M) = 0 then f_X3_logLeaf_J13 a1 3 M else f_X3_logLeaf_J13 a1 4 M)
set_option maxRecDepth 100000 in
set_option maxHeartbeats 4000000 in
theorem c_X3_logLeaf (d : Nat) (a1 : Nat) (x2 : Int) (M : ax_M) (hp1 : 0 ≤ x2 ∧ x2 ≤ 23) (hX : (f_X3_logLeaf a1 x2 M).1) : ax_Met ax_LM gX3_logLeaf (d + 6) [(2, 3, 0), (3, 274, (a1 : Int)), (0, 0, x2)] M ((ax_qm (-4) 63) (f_X3_logLeaf a1 x2 M).2) := by
  refine ax_body (by decide) (fun X => Nat.le_of_ble_eq_true rfl) (fun hok => ?_)
  have hr_x2 : (-2147483648) ≤ x2 ∧ x2 ≤ 2147483647 := hok (0, 0, x2) (by simp)
  show ax_W ax_LM gX3_logLeaf (d + 6) 0 [(0, (2, 3, 0)), (1, (3, 274, (a1 : Int))), (2, (0, 0, x2))] [] M _
  unfold f_X3_logLeaf at hX ⊢
  refine ax_lump ax_layM ok_kX3 [(0, .aload_n 1, 1, 0, 0, 0), (1, .iload_n 2, 1, 0, 0, 0)] (pc' := 2) (lc' := [(0, (2, 3, 0)), (1, (3, 274, (a1 : Int))), (2, (0, 0, x2))]) (st' := [(0, 0, x2), (3, 274, (a1 : Int))]) (M' := M) (C' := True) (by decide +kernel) rfl trivial ?_
  refine ax_cSi (G1 := gX3_isHot) (d1 := d + 0) (i := 282) (n := 2) (as := [(3, 274, (a1 : Int)), (0, 0, x2)]) (st := []) (by decide +kernel) calX3_isHot (by omega) rfl wt_1206 wt_1207 (Nat.le_of_ble_eq_true rfl) rfl (c_X3_isHot d a1 x2 M (by omega)) (fun hc1 => ?_)
  refine ax_zeq_s hX (off := 7) (tgt := 12) (by decide +kernel) (by decide) (fun h2 hX => ?_) (fun h2 hX => ?_)
  · refine ax_lump ax_layM ok_kX3 [(12, .iconst 3, 1, 0, 0, 0)] (pc' := 13) (lc' := [(0, (2, 3, 0)), (1, (3, 274, (a1 : Int))), (2, (0, 0, x2))]) (st' := [(0, 0, 3)]) (M' := M) (C' := True) (by decide +kernel) rfl trivial ?_
    refine ax_pk [0,1] (lc' := [(0, (2, 3, 0)), (1, (3, 274, (a1 : Int)))]) rfl ?_
    exact w_X3_logLeaf_J13 d a1 3 M (by omega) hX
  · refine ax_lump ax_layM ok_kX3 [(8, .iconst 4, 1, 0, 0, 0), (9, .goto 4, 3, 13, 0, 0)] (pc' := 13) (lc' := [(0, (2, 3, 0)), (1, (3, 274, (a1 : Int))), (2, (0, 0, x2))]) (st' := [(0, 0, 4)]) (M' := M) (C' := True) (by decide +kernel) rfl trivial ?_
    refine ax_pk [0,1] (lc' := [(0, (2, 3, 0)), (1, (3, 274, (a1 : Int)))]) rfl ?_
    exact w_X3_logLeaf_J13 d a1 4 M (by omega) hX
def f_X3_leafFor_J33 (a1 : Nat) (j2 : Int) (j3 : Int) (j4 : Int) (s0 : Int) (M : ax_M) : Prop × Int × ax_M := ax_bd (ax_up M 0 22 2) (fun M6 => ax_rq ((0 ≤ ((4 * s0) + j4) ∧ ((4 * s0) + j4) ≤ 63)) ((if (f_X3_isWritten a1 ((4 * s0) + j4) M6) ≠ 0 then ax_bd (f_X3_theRun a1 M6) (fun y11 => ax_bd (ax_up M6 0 22 3) (fun M12 => (if j4 ≠ 0 then ax_bd (ax_up M12 0 22 4) (fun M14 => (if y11 < 0 then ax_bd (ax_up M14 0 22 5) (fun M16 => ax_rc (f_X3_logLeaf a1 j2 M16) (fun y17 => (True, (y17.1, y17.2)))) else (if (M14 a1 (208 + y11).toNat) ≠ j3 then ax_bd (ax_up M14 0 22 5) (fun M19 => ax_rc (f_X3_logLeaf a1 j2 M19) (fun y20 => (True, (y20.1, y20.2)))) else (if (f_X3_firstEmpty a1 y11 M14) ≠ j4 then ax_bd (ax_up M14 0 22 5) (fun M23 => ax_rc (f_X3_logLeaf a1 j2 M23) (fun y24 => (True, (y24.1, y24.2)))) else (True, (((4 * y11) + j4), M14)))))) else (if y11 < 0 then ax_bd (f_X3_taken a1 2 j3 M12) (fun y26 => (True, ((4 * y26.1), y26.2))) else ax_rc (f_X3_sealsRun a1 M12) (fun y27 => ax_bd (f_X3_taken a1 2 j3 y27.2) (fun y28 => (True, ((4 * y28.1), y28.2)))))))) else (True, (((4 * s0) + j4), M6)))))
set_option maxRecDepth 100000 in
set_option maxHeartbeats 4000000 in
theorem w_X3_leafFor_J33 (d : Nat) (a1 : Nat) (j2 : Int) (j3 : Int) (j4 : Int) (s0 : Int) (M : ax_M) (hw_j2 : 0 ≤ j2 ∧ j2 ≤ 23) (hw_j3 : 0 ≤ j3 ∧ j3 ≤ 5) (hw_j4 : 0 ≤ j4 ∧ j4 ≤ 3) (hw_s0 : (-1) ≤ s0 ∧ s0 ≤ 15) (hX : (f_X3_leafFor_J33 a1 j2 j3 j4 s0 M).1) : ax_W ax_LM gX3_leafFor (d + 7) 33 [(0, (2, 3, 0)), (1, (3, 274, (a1 : Int))), (2, (0, 0, j2)), (3, (0, 0, j3)), (4, (0, 0, j4))] [(0, 0, s0)] M ((ax_qm (-4) 63) (f_X3_leafFor_J33 a1 j2 j3 j4 s0 M).2) := by
  unfold f_X3_leafFor_J33 at hX ⊢
  refine ax_lump ax_layM ok_kX3 [(33, .istore 5, 2, 0, 0, 0), (35, .aload_n 0, 1, 0, 0, 0), (36, .iconst 2, 1, 0, 0, 0), (37, .putfield 291, 3, 3, 22, 0)] (pc' := 40) (lc' := [(5, (0, 0, s0)), (0, (2, 3, 0)), (1, (3, 274, (a1 : Int))), (2, (0, 0, j2)), (3, (0, 0, j3)), (4, (0, 0, j4))]) (st' := []) (M' := (ax_up M 0 22 2)) (C' := (True ∧ (0 ≤ 2 ∧ 2 < ((6 : Nat) : Int)))) (by decide +kernel) rfl ⟨trivial, by omega⟩ ?_
  refine ax_bdMe_s hX (fun M6 hM_M6 hX => ?_)
  refine ax_rq_s hX (fun hS7 hX => ?_)
  refine ax_lump ax_layM ok_kX3 [(40, .aload_n 1, 1, 0, 0, 0), (41, .iconst 4, 1, 0, 0, 0), (42, .iload 5, 2, 0, 0, 0), (44, .imul, 1, 1, 0, 0), (45, .iload 4, 2, 0, 0, 0), (47, .iadd, 1, 1, 0, 0)] (pc' := 48) (lc' := [(5, (0, 0, s0)), (0, (2, 3, 0)), (1, (3, 274, (a1 : Int))), (2, (0, 0, j2)), (3, (0, 0, j3)), (4, (0, 0, j4))]) (st' := [(0, 0, ((4 * s0) + j4)), (3, 274, (a1 : Int))]) (M' := M6) (C' := ((True ∧ ax_r32 (4 * s0)) ∧ ax_r32 ((4 * s0) + j4))) (by decide +kernel) rfl ⟨⟨trivial, ⟨by omega, by omega⟩⟩, ⟨by omega, by omega⟩⟩ ?_
  refine ax_cSi (G1 := gX3_isWritten) (d1 := d + 0) (i := 195) (n := 2) (as := [(3, 274, (a1 : Int)), (0, 0, ((4 * s0) + j4))]) (st := []) (by decide +kernel) calX3_isWritten (by omega) rfl wt_1098 wt_1099 (Nat.le_of_ble_eq_true rfl) rfl (c_X3_isWritten d a1 ((4 * s0) + j4) M6 (hS7)) (fun hc8 => ?_)
  refine ax_zne_s hX (off := 11) (tgt := 62) (by decide +kernel) (by decide) (fun h9 hX => ?_) (fun h9 hX => ?_)
  · refine ax_lump ax_layM ok_kX3 [(62, .aload_n 1, 1, 0, 0, 0)] (pc' := 63) (lc' := [(5, (0, 0, s0)), (0, (2, 3, 0)), (1, (3, 274, (a1 : Int))), (2, (0, 0, j2)), (3, (0, 0, j3)), (4, (0, 0, j4))]) (st' := [(3, 274, (a1 : Int))]) (M' := M6) (C' := True) (by decide +kernel) rfl trivial ?_
    refine ax_cSi (G1 := gX3_theRun) (d1 := d + 0) (i := 242) (n := 1) (as := [(3, 274, (a1 : Int))]) (st := []) (by decide +kernel) calX3_theRun (by omega) rfl wt_1161 wt_1162 (Nat.le_of_ble_eq_true rfl) rfl (c_X3_theRun d a1 M6) (fun hc10 => ?_)
    refine ax_lump ax_layM ok_kX3 [(66, .istore 6, 2, 0, 0, 0)] (pc' := 68) (lc' := [(6, (0, 0, (f_X3_theRun a1 M6))), (5, (0, 0, s0)), (0, (2, 3, 0)), (1, (3, 274, (a1 : Int))), (2, (0, 0, j2)), (3, (0, 0, j3)), (4, (0, 0, j4))]) (st' := []) (M' := M6) (C' := True) (by decide +kernel) rfl trivial ?_
    refine ax_bdI_s hX (lo := (-1)) (hi := 15) (e := (f_X3_theRun a1 M6)) (fun y11 => [(6, (0, 0, y11)), (5, (0, 0, s0)), (0, (2, 3, 0)), (1, (3, 274, (a1 : Int))), (2, (0, 0, j2)), (3, (0, 0, j3)), (4, (0, 0, j4))]) (fun y11 => []) (by omega) (fun y11 h_y11 hX => ?_)
    refine ax_lump ax_layM ok_kX3 [(68, .aload_n 0, 1, 0, 0, 0), (69, .iconst 3, 1, 0, 0, 0), (70, .putfield 291, 3, 3, 22, 0)] (pc' := 73) (lc' := [(6, (0, 0, y11)), (5, (0, 0, s0)), (0, (2, 3, 0)), (1, (3, 274, (a1 : Int))), (2, (0, 0, j2)), (3, (0, 0, j3)), (4, (0, 0, j4))]) (st' := []) (M' := (ax_up M6 0 22 3)) (C' := (True ∧ (0 ≤ 3 ∧ 3 < ((6 : Nat) : Int)))) (by decide +kernel) rfl ⟨trivial, by omega⟩ ?_
    refine ax_bdMe_s hX (fun M12 hM_M12 hX => ?_)
    refine ax_lump ax_layM ok_kX3 [(73, .iload 4, 2, 0, 0, 0)] (pc' := 75) (lc' := [(6, (0, 0, y11)), (5, (0, 0, s0)), (0, (2, 3, 0)), (1, (3, 274, (a1 : Int))), (2, (0, 0, j2)), (3, (0, 0, j3)), (4, (0, 0, j4))]) (st' := [(0, 0, j4)]) (M' := M12) (C' := True) (by decide +kernel) rfl trivial ?_
    refine ax_zne_s hX (off := 23) (tgt := 98) (by decide +kernel) (by decide) (fun h13 hX => ?_) (fun h13 hX => ?_)
    · refine ax_lump ax_layM ok_kX3 [(98, .aload_n 0, 1, 0, 0, 0), (99, .iconst 4, 1, 0, 0, 0), (100, .putfield 291, 3, 3, 22, 0)] (pc' := 103) (lc' := [(6, (0, 0, y11)), (5, (0, 0, s0)), (0, (2, 3, 0)), (1, (3, 274, (a1 : Int))), (2, (0, 0, j2)), (3, (0, 0, j3)), (4, (0, 0, j4))]) (st' := []) (M' := (ax_up M12 0 22 4)) (C' := (True ∧ (0 ≤ 4 ∧ 4 < ((6 : Nat) : Int)))) (by decide +kernel) rfl ⟨trivial, by omega⟩ ?_
      refine ax_bdMe_s hX (fun M14 hM_M14 hX => ?_)
      refine ax_lump ax_layM ok_kX3 [(103, .iload 6, 2, 0, 0, 0)] (pc' := 105) (lc' := [(6, (0, 0, y11)), (5, (0, 0, s0)), (0, (2, 3, 0)), (1, (3, 274, (a1 : Int))), (2, (0, 0, j2)), (3, (0, 0, j3)), (4, (0, 0, j4))]) (st' := [(0, 0, y11)]) (M' := M14) (C' := True) (by decide +kernel) rfl trivial ?_
      refine ax_zlt_s hX (off := 34) (tgt := 139) (by decide +kernel) (by decide) (fun h15 hX => ?_) (fun h15 hX => ?_)
      · refine ax_lump ax_layM ok_kX3 [(139, .aload_n 0, 1, 0, 0, 0), (140, .iconst 5, 1, 0, 0, 0), (141, .putfield 291, 3, 3, 22, 0)] (pc' := 144) (lc' := [(6, (0, 0, y11)), (5, (0, 0, s0)), (0, (2, 3, 0)), (1, (3, 274, (a1 : Int))), (2, (0, 0, j2)), (3, (0, 0, j3)), (4, (0, 0, j4))]) (st' := []) (M' := (ax_up M14 0 22 5)) (C' := (True ∧ (0 ≤ 5 ∧ 5 < ((6 : Nat) : Int)))) (by decide +kernel) rfl ⟨trivial, by omega⟩ ?_
        refine ax_bdMe_s hX (fun M16 hM_M16 hX => ?_)
        refine ax_lump ax_layM ok_kX3 [(144, .aload_n 0, 1, 0, 0, 0), (145, .aload_n 1, 1, 0, 0, 0), (146, .iload_n 2, 1, 0, 0, 0)] (pc' := 147) (lc' := [(6, (0, 0, y11)), (5, (0, 0, s0)), (0, (2, 3, 0)), (1, (3, 274, (a1 : Int))), (2, (0, 0, j2)), (3, (0, 0, j3)), (4, (0, 0, j4))]) (st' := [(0, 0, j2), (3, 274, (a1 : Int)), (2, 3, 0)]) (M' := M16) (C' := True) (by decide +kernel) rfl trivial ?_
        refine ax_cVm_r hX (G1 := gX3_logLeaf) (d1 := d + 6) (i := 297) (n := 2) (as := [(3, 274, (a1 : Int)), (0, 0, j2)]) (st := []) (c := 3) (a := 0) (by decide +kernel) ax_cls3 calX3_logLeaf (by omega) rfl wt_1202 wt_1204 ws_92 (Nat.le_of_ble_eq_true rfl) rfl (fun hY => c_X3_logLeaf d a1 j2 M16 (by omega) hY) (fun y17 h_y17 hX => ?_)
        exact ax_iret (by decide +kernel) rfl ⟨rfl, rfl, (show ((-4) : Int) ≤ y17.1 from by omega), (show y17.1 ≤ (63 : Int) from by omega)⟩
      · refine ax_lump ax_layM ok_kX3 [(108, .aload_n 1, 1, 0, 0, 0), (109, .sipush 208, 3, 0, 0, 0), (112, .iload 6, 2, 0, 0, 0), (114, .iadd, 1, 1, 0, 0), (115, .iaload, 1, 0, 0, 0), (116, .iload_n 3, 1, 0, 0, 0)] (pc' := 117) (lc' := [(6, (0, 0, y11)), (5, (0, 0, s0)), (0, (2, 3, 0)), (1, (3, 274, (a1 : Int))), (2, (0, 0, j2)), (3, (0, 0, j3)), (4, (0, 0, j4))]) (st' := [(0, 0, j3), (0, 0, (M14 a1 (208 + y11).toNat))]) (M' := M14) (C' := ((True ∧ ax_r32 (208 + y11)) ∧ (0 ≤ (208 + y11) ∧ (208 + y11) < ((274 : Nat) : Int)))) (by decide +kernel) rfl ⟨⟨trivial, ⟨by omega, by omega⟩⟩, by omega⟩ ?_
        refine ax_jne_s hX (off := 22) (tgt := 139) (by decide +kernel) (by decide) (fun h18 hX => ?_) (fun h18 hX => ?_)
        · refine ax_lump ax_layM ok_kX3 [(139, .aload_n 0, 1, 0, 0, 0), (140, .iconst 5, 1, 0, 0, 0), (141, .putfield 291, 3, 3, 22, 0)] (pc' := 144) (lc' := [(6, (0, 0, y11)), (5, (0, 0, s0)), (0, (2, 3, 0)), (1, (3, 274, (a1 : Int))), (2, (0, 0, j2)), (3, (0, 0, j3)), (4, (0, 0, j4))]) (st' := []) (M' := (ax_up M14 0 22 5)) (C' := (True ∧ (0 ≤ 5 ∧ 5 < ((6 : Nat) : Int)))) (by decide +kernel) rfl ⟨trivial, by omega⟩ ?_
          refine ax_bdMe_s hX (fun M19 hM_M19 hX => ?_)
          refine ax_lump ax_layM ok_kX3 [(144, .aload_n 0, 1, 0, 0, 0), (145, .aload_n 1, 1, 0, 0, 0), (146, .iload_n 2, 1, 0, 0, 0)] (pc' := 147) (lc' := [(6, (0, 0, y11)), (5, (0, 0, s0)), (0, (2, 3, 0)), (1, (3, 274, (a1 : Int))), (2, (0, 0, j2)), (3, (0, 0, j3)), (4, (0, 0, j4))]) (st' := [(0, 0, j2), (3, 274, (a1 : Int)), (2, 3, 0)]) (M' := M19) (C' := True) (by decide +kernel) rfl trivial ?_
          refine ax_cVm_r hX (G1 := gX3_logLeaf) (d1 := d + 6) (i := 297) (n := 2) (as := [(3, 274, (a1 : Int)), (0, 0, j2)]) (st := []) (c := 3) (a := 0) (by decide +kernel) ax_cls3 calX3_logLeaf (by omega) rfl wt_1202 wt_1204 ws_92 (Nat.le_of_ble_eq_true rfl) rfl (fun hY => c_X3_logLeaf d a1 j2 M19 (by omega) hY) (fun y20 h_y20 hX => ?_)
          exact ax_iret (by decide +kernel) rfl ⟨rfl, rfl, (show ((-4) : Int) ≤ y20.1 from by omega), (show y20.1 ≤ (63 : Int) from by omega)⟩
        · refine ax_lump ax_layM ok_kX3 [(120, .aload_n 1, 1, 0, 0, 0), (121, .iload 6, 2, 0, 0, 0)] (pc' := 123) (lc' := [(6, (0, 0, y11)), (5, (0, 0, s0)), (0, (2, 3, 0)), (1, (3, 274, (a1 : Int))), (2, (0, 0, j2)), (3, (0, 0, j3)), (4, (0, 0, j4))]) (st' := [(0, 0, y11), (3, 274, (a1 : Int))]) (M' := M14) (C' := True) (by decide +kernel) rfl trivial ?_
          refine ax_cSi (G1 := gX3_firstEmpty) (d1 := d + 1) (i := 285) (n := 2) (as := [(3, 274, (a1 : Int)), (0, 0, y11)]) (st := []) (by decide +kernel) calX3_firstEmpty (by omega) rfl wt_1199 wt_1200 (Nat.le_of_ble_eq_true rfl) rfl (c_X3_firstEmpty d a1 y11 M14 (by omega)) (fun hc21 => ?_)
          refine ax_lump ax_layM ok_kX3 [(126, .iload 4, 2, 0, 0, 0)] (pc' := 128) (lc' := [(6, (0, 0, y11)), (5, (0, 0, s0)), (0, (2, 3, 0)), (1, (3, 274, (a1 : Int))), (2, (0, 0, j2)), (3, (0, 0, j3)), (4, (0, 0, j4))]) (st' := [(0, 0, j4), (0, 0, (f_X3_firstEmpty a1 y11 M14))]) (M' := M14) (C' := True) (by decide +kernel) rfl trivial ?_
          refine ax_jne_s hX (off := 11) (tgt := 139) (by decide +kernel) (by decide) (fun h22 hX => ?_) (fun h22 hX => ?_)
          · refine ax_lump ax_layM ok_kX3 [(139, .aload_n 0, 1, 0, 0, 0), (140, .iconst 5, 1, 0, 0, 0), (141, .putfield 291, 3, 3, 22, 0)] (pc' := 144) (lc' := [(6, (0, 0, y11)), (5, (0, 0, s0)), (0, (2, 3, 0)), (1, (3, 274, (a1 : Int))), (2, (0, 0, j2)), (3, (0, 0, j3)), (4, (0, 0, j4))]) (st' := []) (M' := (ax_up M14 0 22 5)) (C' := (True ∧ (0 ≤ 5 ∧ 5 < ((6 : Nat) : Int)))) (by decide +kernel) rfl ⟨trivial, by omega⟩ ?_
            refine ax_bdMe_s hX (fun M23 hM_M23 hX => ?_)
            refine ax_lump ax_layM ok_kX3 [(144, .aload_n 0, 1, 0, 0, 0), (145, .aload_n 1, 1, 0, 0, 0), (146, .iload_n 2, 1, 0, 0, 0)] (pc' := 147) (lc' := [(6, (0, 0, y11)), (5, (0, 0, s0)), (0, (2, 3, 0)), (1, (3, 274, (a1 : Int))), (2, (0, 0, j2)), (3, (0, 0, j3)), (4, (0, 0, j4))]) (st' := [(0, 0, j2), (3, 274, (a1 : Int)), (2, 3, 0)]) (M' := M23) (C' := True) (by decide +kernel) rfl trivial ?_
            refine ax_cVm_r hX (G1 := gX3_logLeaf) (d1 := d + 6) (i := 297) (n := 2) (as := [(3, 274, (a1 : Int)), (0, 0, j2)]) (st := []) (c := 3) (a := 0) (by decide +kernel) ax_cls3 calX3_logLeaf (by omega) rfl wt_1202 wt_1204 ws_92 (Nat.le_of_ble_eq_true rfl) rfl (fun hY => c_X3_logLeaf d a1 j2 M23 (by omega) hY) (fun y24 h_y24 hX => ?_)
            exact ax_iret (by decide +kernel) rfl ⟨rfl, rfl, (show ((-4) : Int) ≤ y24.1 from by omega), (show y24.1 ≤ (63 : Int) from by omega)⟩
          · refine ax_lump ax_layM ok_kX3 [(131, .iconst 4, 1, 0, 0, 0), (132, .iload 6, 2, 0, 0, 0), (134, .imul, 1, 1, 0, 0), (135, .iload 4, 2, 0, 0, 0), (137, .iadd, 1, 1, 0, 0)] (pc' := 138) (lc' := [(6, (0, 0, y11)), (5, (0, 0, s0)), (0, (2, 3, 0)), (1, (3, 274, (a1 : Int))), (2, (0, 0, j2)), (3, (0, 0, j3)), (4, (0, 0, j4))]) (st' := [(0, 0, ((4 * y11) + j4))]) (M' := M14) (C' := ((True ∧ ax_r32 (4 * y11)) ∧ ax_r32 ((4 * y11) + j4))) (by decide +kernel) rfl ⟨⟨trivial, ⟨by omega, by omega⟩⟩, ⟨by omega, by omega⟩⟩ ?_
            exact ax_iret (by decide +kernel) rfl ⟨rfl, rfl, (show ((-4) : Int) ≤ ((4 * y11) + j4) from by omega), (show ((4 * y11) + j4) ≤ (63 : Int) from by omega)⟩
    · refine ax_lump ax_layM ok_kX3 [(78, .iload 6, 2, 0, 0, 0)] (pc' := 80) (lc' := [(6, (0, 0, y11)), (5, (0, 0, s0)), (0, (2, 3, 0)), (1, (3, 274, (a1 : Int))), (2, (0, 0, j2)), (3, (0, 0, j3)), (4, (0, 0, j4))]) (st' := [(0, 0, y11)]) (M' := M12) (C' := True) (by decide +kernel) rfl trivial ?_
      refine ax_zlt_s hX (off := 9) (tgt := 89) (by decide +kernel) (by decide) (fun h25 hX => ?_) (fun h25 hX => ?_)
      · refine ax_lump ax_layM ok_kX3 [(89, .iconst 4, 1, 0, 0, 0), (90, .aload_n 1, 1, 0, 0, 0), (91, .iconst 2, 1, 0, 0, 0), (92, .iload_n 3, 1, 0, 0, 0)] (pc' := 93) (lc' := [(6, (0, 0, y11)), (5, (0, 0, s0)), (0, (2, 3, 0)), (1, (3, 274, (a1 : Int))), (2, (0, 0, j2)), (3, (0, 0, j3)), (4, (0, 0, j4))]) (st' := [(0, 0, j3), (0, 0, 2), (3, 274, (a1 : Int)), (0, 0, 4)]) (M' := M12) (C' := True) (by decide +kernel) rfl trivial ?_
        refine ax_cSm_s hX (G1 := gX3_taken) (d1 := d + 1) (i := 232) (n := 3) (as := [(3, 274, (a1 : Int)), (0, 0, 2), (0, 0, j3)]) (st := [(0, 0, 4)]) (by decide +kernel) calX3_taken (by omega) rfl wt_1155 wt_1156 (Nat.le_of_ble_eq_true rfl) rfl (c_X3_taken d a1 2 j3 M12) (fun y26 h_y26 hX => ?_)
        refine ax_lump ax_layM ok_kX3 [(96, .imul, 1, 1, 0, 0)] (pc' := 97) (lc' := [(6, (0, 0, y11)), (5, (0, 0, s0)), (0, (2, 3, 0)), (1, (3, 274, (a1 : Int))), (2, (0, 0, j2)), (3, (0, 0, j3)), (4, (0, 0, j4))]) (st' := [(0, 0, (4 * y26.1))]) (M' := y26.2) (C' := (True ∧ ax_r32 (4 * y26.1))) (by decide +kernel) rfl ⟨trivial, ⟨by omega, by omega⟩⟩ ?_
        exact ax_iret (by decide +kernel) rfl ⟨rfl, rfl, (show ((-4) : Int) ≤ (4 * y26.1) from by omega), (show (4 * y26.1) ≤ (63 : Int) from by omega)⟩
      · refine ax_lump ax_layM ok_kX3 [(83, .aload_n 0, 1, 0, 0, 0), (84, .aload_n 1, 1, 0, 0, 0)] (pc' := 85) (lc' := [(6, (0, 0, y11)), (5, (0, 0, s0)), (0, (2, 3, 0)), (1, (3, 274, (a1 : Int))), (2, (0, 0, j2)), (3, (0, 0, j3)), (4, (0, 0, j4))]) (st' := [(3, 274, (a1 : Int)), (2, 3, 0)]) (M' := M12) (C' := True) (by decide +kernel) rfl trivial ?_
        refine ax_cVm_r hX (G1 := gX3_sealsRun) (d1 := d + 5) (i := 294) (n := 1) (as := [(3, 274, (a1 : Int))]) (st := []) (c := 3) (a := 0) (by decide +kernel) ax_cls3 calX3_sealsRun (by omega) rfl wt_1164 wt_1166 ws_85 (Nat.le_of_ble_eq_true rfl) rfl (fun hY => c_X3_sealsRun d a1 M12 hY) (fun y27 h_y27 hX => ?_)
        refine ax_lump ax_layM ok_kX3 [(88, .pop, 1, 0, 0, 0), (89, .iconst 4, 1, 0, 0, 0), (90, .aload_n 1, 1, 0, 0, 0), (91, .iconst 2, 1, 0, 0, 0), (92, .iload_n 3, 1, 0, 0, 0)] (pc' := 93) (lc' := [(6, (0, 0, y11)), (5, (0, 0, s0)), (0, (2, 3, 0)), (1, (3, 274, (a1 : Int))), (2, (0, 0, j2)), (3, (0, 0, j3)), (4, (0, 0, j4))]) (st' := [(0, 0, j3), (0, 0, 2), (3, 274, (a1 : Int)), (0, 0, 4)]) (M' := y27.2) (C' := True) (by decide +kernel) rfl trivial ?_
        refine ax_cSm_s hX (G1 := gX3_taken) (d1 := d + 1) (i := 232) (n := 3) (as := [(3, 274, (a1 : Int)), (0, 0, 2), (0, 0, j3)]) (st := [(0, 0, 4)]) (by decide +kernel) calX3_taken (by omega) rfl wt_1155 wt_1156 (Nat.le_of_ble_eq_true rfl) rfl (c_X3_taken d a1 2 j3 y27.2) (fun y28 h_y28 hX => ?_)
        refine ax_lump ax_layM ok_kX3 [(96, .imul, 1, 1, 0, 0)] (pc' := 97) (lc' := [(6, (0, 0, y11)), (5, (0, 0, s0)), (0, (2, 3, 0)), (1, (3, 274, (a1 : Int))), (2, (0, 0, j2)), (3, (0, 0, j3)), (4, (0, 0, j4))]) (st' := [(0, 0, (4 * y28.1))]) (M' := y28.2) (C' := (True ∧ ax_r32 (4 * y28.1))) (by decide +kernel) rfl ⟨trivial, ⟨by omega, by omega⟩⟩ ?_
        exact ax_iret (by decide +kernel) rfl ⟨rfl, rfl, (show ((-4) : Int) ≤ (4 * y28.1) from by omega), (show (4 * y28.1) ≤ (63 : Int) from by omega)⟩
  · refine ax_lump ax_layM ok_kX3 [(54, .iconst 4, 1, 0, 0, 0), (55, .iload 5, 2, 0, 0, 0), (57, .imul, 1, 1, 0, 0), (58, .iload 4, 2, 0, 0, 0), (60, .iadd, 1, 1, 0, 0)] (pc' := 61) (lc' := [(5, (0, 0, s0)), (0, (2, 3, 0)), (1, (3, 274, (a1 : Int))), (2, (0, 0, j2)), (3, (0, 0, j3)), (4, (0, 0, j4))]) (st' := [(0, 0, ((4 * s0) + j4))]) (M' := M6) (C' := ((True ∧ ax_r32 (4 * s0)) ∧ ax_r32 ((4 * s0) + j4))) (by decide +kernel) rfl ⟨⟨trivial, ⟨by omega, by omega⟩⟩, ⟨by omega, by omega⟩⟩ ?_
    exact ax_iret (by decide +kernel) rfl ⟨rfl, rfl, (show ((-4) : Int) ≤ ((4 * s0) + j4) from by omega), (show ((4 * s0) + j4) ≤ (63 : Int) from by omega)⟩
def f_X3_leafFor (a1 : Nat) (x2 : Int) (M : ax_M) : Prop × Int × ax_M := ax_bd (x2 / 4) (fun y1 => ax_bd (x2 % 4) (fun y2 => ax_bd (f_X3_blockOf a1 1 y1 M) (fun y4 => (if 0 ≤ y4 then f_X3_leafFor_J33 a1 x2 y1 y2 y4 M else ax_bd (f_X3_taken a1 1 y1 M) (fun y29 => f_X3_leafFor_J33 a1 x2 y1 y2 y29.1 y29.2)))))
set_option maxRecDepth 100000 in
set_option maxHeartbeats 4000000 in
theorem c_X3_leafFor (d : Nat) (a1 : Nat) (x2 : Int) (M : ax_M) (hp1 : 0 ≤ x2 ∧ x2 ≤ 23) (hX : (f_X3_leafFor a1 x2 M).1) : ax_Met ax_LM gX3_leafFor (d + 7) [(2, 3, 0), (3, 274, (a1 : Int)), (0, 0, x2)] M ((ax_qm (-4) 63) (f_X3_leafFor a1 x2 M).2) := by
  refine ax_body (by decide) (fun X => Nat.le_of_ble_eq_true rfl) (fun hok => ?_)
  have hr_x2 : (-2147483648) ≤ x2 ∧ x2 ≤ 2147483647 := hok (0, 0, x2) (by simp)
  show ax_W ax_LM gX3_leafFor (d + 7) 0 [(0, (2, 3, 0)), (1, (3, 274, (a1 : Int))), (2, (0, 0, x2))] [] M _
  unfold f_X3_leafFor at hX ⊢
  refine ax_lump ax_layM ok_kX3 [(0, .iload_n 2, 1, 0, 0, 0), (1, .iconst 4, 1, 0, 0, 0), (2, .idiv, 1, 1, 0, 0), (3, .istore_n 3, 1, 0, 0, 0)] (pc' := 4) (lc' := [(3, (0, 0, (x2 / 4))), (0, (2, 3, 0)), (1, (3, 274, (a1 : Int))), (2, (0, 0, x2))]) (st' := []) (M' := M) (C' := (True ∧ (0 ≤ x2 ∧ 0 < 4))) (by decide +kernel) rfl ⟨trivial, by omega⟩ ?_
  refine ax_bdI_s hX (lo := 0) (hi := 5) (e := (x2 / 4)) (fun y1 => [(3, (0, 0, y1)), (0, (2, 3, 0)), (1, (3, 274, (a1 : Int))), (2, (0, 0, x2))]) (fun y1 => []) (by omega) (fun y1 h_y1 hX => ?_)
  refine ax_lump ax_layM ok_kX3 [(4, .iload_n 2, 1, 0, 0, 0), (5, .iconst 4, 1, 0, 0, 0), (6, .irem, 1, 1, 0, 0), (7, .istore 4, 2, 0, 0, 0)] (pc' := 9) (lc' := [(4, (0, 0, (x2 % 4))), (3, (0, 0, y1)), (0, (2, 3, 0)), (1, (3, 274, (a1 : Int))), (2, (0, 0, x2))]) (st' := []) (M' := M) (C' := (True ∧ (0 ≤ x2 ∧ 0 < 4))) (by decide +kernel) rfl ⟨trivial, by omega⟩ ?_
  refine ax_bdI_s hX (lo := 0) (hi := 3) (e := (x2 % 4)) (fun y2 => [(4, (0, 0, y2)), (3, (0, 0, y1)), (0, (2, 3, 0)), (1, (3, 274, (a1 : Int))), (2, (0, 0, x2))]) (fun y2 => []) (by omega) (fun y2 h_y2 hX => ?_)
  refine ax_lump ax_layM ok_kX3 [(9, .aload_n 1, 1, 0, 0, 0), (10, .iconst 1, 1, 0, 0, 0), (11, .iload_n 3, 1, 0, 0, 0)] (pc' := 12) (lc' := [(4, (0, 0, y2)), (3, (0, 0, y1)), (0, (2, 3, 0)), (1, (3, 274, (a1 : Int))), (2, (0, 0, x2))]) (st' := [(0, 0, y1), (0, 0, 1), (3, 274, (a1 : Int))]) (M' := M) (C' := True) (by decide +kernel) rfl trivial ?_
  refine ax_cSi (G1 := gX3_blockOf) (d1 := d + 0) (i := 228) (n := 3) (as := [(3, 274, (a1 : Int)), (0, 0, 1), (0, 0, y1)]) (st := []) (by decide +kernel) calX3_blockOf (by omega) rfl wt_1152 wt_1153 (Nat.le_of_ble_eq_true rfl) rfl (c_X3_blockOf d a1 1 y1 M) (fun hc3 => ?_)
  refine ax_lump ax_layM ok_kX3 [(15, .istore 5, 2, 0, 0, 0)] (pc' := 17) (lc' := [(5, (0, 0, (f_X3_blockOf a1 1 y1 M))), (4, (0, 0, y2)), (3, (0, 0, y1)), (0, (2, 3, 0)), (1, (3, 274, (a1 : Int))), (2, (0, 0, x2))]) (st' := []) (M' := M) (C' := True) (by decide +kernel) rfl trivial ?_
  refine ax_bdI_s hX (lo := (-1)) (hi := 15) (e := (f_X3_blockOf a1 1 y1 M)) (fun y4 => [(5, (0, 0, y4)), (4, (0, 0, y2)), (3, (0, 0, y1)), (0, (2, 3, 0)), (1, (3, 274, (a1 : Int))), (2, (0, 0, x2))]) (fun y4 => []) (by omega) (fun y4 h_y4 hX => ?_)
  refine ax_lump ax_layM ok_kX3 [(17, .iload 5, 2, 0, 0, 0)] (pc' := 19) (lc' := [(5, (0, 0, y4)), (4, (0, 0, y2)), (3, (0, 0, y1)), (0, (2, 3, 0)), (1, (3, 274, (a1 : Int))), (2, (0, 0, x2))]) (st' := [(0, 0, y4)]) (M' := M) (C' := True) (by decide +kernel) rfl trivial ?_
  refine ax_zge_s hX (off := 12) (tgt := 31) (by decide +kernel) (by decide) (fun h5 hX => ?_) (fun h5 hX => ?_)
  · refine ax_lump ax_layM ok_kX3 [(31, .iload 5, 2, 0, 0, 0)] (pc' := 33) (lc' := [(5, (0, 0, y4)), (4, (0, 0, y2)), (3, (0, 0, y1)), (0, (2, 3, 0)), (1, (3, 274, (a1 : Int))), (2, (0, 0, x2))]) (st' := [(0, 0, y4)]) (M' := M) (C' := True) (by decide +kernel) rfl trivial ?_
    refine ax_pk [3,4,5,2,1] (lc' := [(0, (2, 3, 0)), (1, (3, 274, (a1 : Int))), (2, (0, 0, x2)), (3, (0, 0, y1)), (4, (0, 0, y2))]) rfl ?_
    exact w_X3_leafFor_J33 d a1 x2 y1 y2 y4 M (by omega) (by omega) (by omega) (by omega) hX
  · refine ax_lump ax_layM ok_kX3 [(22, .aload_n 1, 1, 0, 0, 0), (23, .iconst 1, 1, 0, 0, 0), (24, .iload_n 3, 1, 0, 0, 0)] (pc' := 25) (lc' := [(5, (0, 0, y4)), (4, (0, 0, y2)), (3, (0, 0, y1)), (0, (2, 3, 0)), (1, (3, 274, (a1 : Int))), (2, (0, 0, x2))]) (st' := [(0, 0, y1), (0, 0, 1), (3, 274, (a1 : Int))]) (M' := M) (C' := True) (by decide +kernel) rfl trivial ?_
    refine ax_cSm_s hX (G1 := gX3_taken) (d1 := d + 1) (i := 232) (n := 3) (as := [(3, 274, (a1 : Int)), (0, 0, 1), (0, 0, y1)]) (st := []) (by decide +kernel) calX3_taken (by omega) rfl wt_1155 wt_1156 (Nat.le_of_ble_eq_true rfl) rfl (c_X3_taken d a1 1 y1 M) (fun y29 h_y29 hX => ?_)
    refine ax_lump ax_layM ok_kX3 [(28, .goto 5, 3, 33, 0, 0)] (pc' := 33) (lc' := [(5, (0, 0, y4)), (4, (0, 0, y2)), (3, (0, 0, y1)), (0, (2, 3, 0)), (1, (3, 274, (a1 : Int))), (2, (0, 0, x2))]) (st' := [(0, 0, y29.1)]) (M' := y29.2) (C' := True) (by decide +kernel) rfl trivial ?_
    refine ax_pk [3,4,5,2,1] (lc' := [(0, (2, 3, 0)), (1, (3, 274, (a1 : Int))), (2, (0, 0, x2)), (3, (0, 0, y1)), (4, (0, 0, y2))]) rfl ?_
    exact w_X3_leafFor_J33 d a1 x2 y1 y2 y29.1 y29.2 (by omega) (by omega) (by omega) (by omega) hX
def f_X3_isWiped_B18  (M : ax_M) (i : Int) (v3 : Int) (kc : Int → Int) (kx : Int → Int) : Int := (if v3 ≠ 0 then kc 1 else (if (M 9 i.toNat) < 64 then kc 0 else kc 1))
def f_X3_isWiped_L18  (M : ax_M) : Nat → Int → Int → (Int → Int) → Int
  | 0, i, v3, kx => kx v3
  | n + 1, i, v3, kx => f_X3_isWiped_B18  M i v3 (fun u3 => f_X3_isWiped_L18  M n (i + 1) u3 kx) kx
set_option maxRecDepth 100000 in
set_option maxHeartbeats 4000000 in
theorem wb_X3_isWiped_B18 (d : Nat)  (M : ax_M) (i : Int) (v3 : Int) (kc : Int → Int) (kx : Int → Int)  (hi : 0 ≤ i ∧ i < (M 0 20)) (hv3 : 0 ≤ v3 ∧ v3 ≤ 1) (hkc : ∀ (u3 : Int), 0 ≤ u3 ∧ u3 ≤ 1 → ax_W ax_LM gX3_isWiped (d + 0) 18 [(0, (2, 3, 0)), (3, (0, 0, u3)), (4, (0, 0, (i + 1)))] [] M ((ax_qi 0 1 M) (kc u3))) (hkx : ∀ (x3 : Int), ((0 ≤ x3 ∧ x3 ≤ 1)) → ax_W ax_LM gX3_isWiped (d + 0) 55 [(3, (0, 0, x3))] [] M ((ax_qi 0 1 M) (kx x3))) : ax_W ax_LM gX3_isWiped (d + 0) 27 [(0, (2, 3, 0)), (3, (0, 0, v3)), (4, (0, 0, i))] [] M ((ax_qi 0 1 M) (f_X3_isWiped_B18  M i v3 kc kx)) := by
  unfold f_X3_isWiped_B18
  refine ax_fact (i := 0) (c := 3) (f := 20) (hi := 400) (s := 0) (by simp) rfl rfl rfl (fun hf4 => ?_)
  have hf4 : 0 ≤ (M 0 20) ∧ (M 0 20) ≤ 400 := hf4
  refine ax_lump ax_layM ok_kX3 [(27, .iload_n 3, 1, 0, 0, 0)] (pc' := 28) (lc' := [(0, (2, 3, 0)), (3, (0, 0, v3)), (4, (0, 0, i))]) (st' := [(0, 0, v3)]) (M' := M) (C' := True) (by decide +kernel) rfl trivial ?_
  refine ax_zne (off := 15) (tgt := 43) (by decide +kernel) (by decide) (fun h2 => ?_) (fun h2 => ?_)
  · refine ax_lump ax_layM ok_kX3 [(43, .iconst 1, 1, 0, 0, 0), (44, .goto 4, 3, 48, 0, 0), (48, .istore_n 3, 1, 0, 0, 0), (49, .iinc 4 1, 3, 1, 0, 0), (52, .goto (-34), 3, 18, 0, 0)] (pc' := 18) (lc' := [(4, (0, 0, (i + 1))), (3, (0, 0, 1)), (0, (2, 3, 0))]) (st' := []) (M' := M) (C' := (True ∧ ax_r32 (i + 1))) (by decide +kernel) rfl ⟨trivial, ⟨by omega, by omega⟩⟩ ?_
    refine ax_pk [2,1,0] (lc' := [(0, (2, 3, 0)), (3, (0, 0, 1)), (4, (0, 0, (i + 1)))]) rfl ?_
    exact hkc 1 (by omega)
  · refine ax_lump ax_layM ok_kX3 [(31, .aload_n 0, 1, 0, 0, 0), (32, .getfield 144, 3, 3, 16, 0), (35, .iload 4, 2, 0, 0, 0), (37, .iaload, 1, 0, 0, 0), (38, .bipush 64, 2, 0, 0, 0)] (pc' := 40) (lc' := [(0, (2, 3, 0)), (3, (0, 0, v3)), (4, (0, 0, i))]) (st' := [(0, 0, 64), (0, 0, (M 9 i.toNat))]) (M' := M) (C' := (True ∧ (0 ≤ i ∧ i < ((400 : Nat) : Int)))) (by decide +kernel) rfl ⟨trivial, by omega⟩ ?_
    refine ax_jlt (off := 7) (tgt := 47) (by decide +kernel) (by decide) (fun h3 => ?_) (fun h3 => ?_)
    · refine ax_lump ax_layM ok_kX3 [(47, .iconst 0, 1, 0, 0, 0), (48, .istore_n 3, 1, 0, 0, 0), (49, .iinc 4 1, 3, 1, 0, 0), (52, .goto (-34), 3, 18, 0, 0)] (pc' := 18) (lc' := [(4, (0, 0, (i + 1))), (3, (0, 0, 0)), (0, (2, 3, 0))]) (st' := []) (M' := M) (C' := (True ∧ ax_r32 (i + 1))) (by decide +kernel) rfl ⟨trivial, ⟨by omega, by omega⟩⟩ ?_
      refine ax_pk [2,1,0] (lc' := [(0, (2, 3, 0)), (3, (0, 0, 0)), (4, (0, 0, (i + 1)))]) rfl ?_
      exact hkc 0 (by omega)
    · refine ax_lump ax_layM ok_kX3 [(43, .iconst 1, 1, 0, 0, 0), (44, .goto 4, 3, 48, 0, 0), (48, .istore_n 3, 1, 0, 0, 0), (49, .iinc 4 1, 3, 1, 0, 0), (52, .goto (-34), 3, 18, 0, 0)] (pc' := 18) (lc' := [(4, (0, 0, (i + 1))), (3, (0, 0, 1)), (0, (2, 3, 0))]) (st' := []) (M' := M) (C' := (True ∧ ax_r32 (i + 1))) (by decide +kernel) rfl ⟨trivial, ⟨by omega, by omega⟩⟩ ?_
      refine ax_pk [2,1,0] (lc' := [(0, (2, 3, 0)), (3, (0, 0, 1)), (4, (0, 0, (i + 1)))]) rfl ?_
      exact hkc 1 (by omega)
set_option maxRecDepth 100000 in
set_option maxHeartbeats 4000000 in
theorem w_X3_isWiped_L18 (d : Nat)  (M : ax_M) (kx : Int → Int)  (hkx : ∀ (x3 : Int), ((0 ≤ x3 ∧ x3 ≤ 1)) → ax_W ax_LM gX3_isWiped (d + 0) 55 [(3, (0, 0, x3))] [] M ((ax_qi 0 1 M) (kx x3))) : ∀ (n : Nat) (i : Int) (v3 : Int), 0 ≤ i ∧ n = ((M 0 20) - i).toNat → 0 ≤ v3 ∧ v3 ≤ 1 → ax_W ax_LM gX3_isWiped (d + 0) 18 [(0, (2, 3, 0)), (3, (0, 0, v3)), (4, (0, 0, i))] [] M ((ax_qi 0 1 M) (f_X3_isWiped_L18  M n i v3 kx)) := by
  intro n
  induction n with
  | zero =>
    intro i v3 hin hv3
    refine ax_fact (i := 0) (c := 3) (f := 20) (hi := 400) (s := 0) (by simp) rfl rfl rfl (fun hf5 => ?_)
    have hf5 : 0 ≤ (M 0 20) ∧ (M 0 20) ≤ 400 := hf5
    refine ax_lump ax_layM ok_kX3 [(18, .iload 4, 2, 0, 0, 0), (20, .aload_n 0, 1, 0, 0, 0), (21, .getfield 203, 3, 3, 20, 0)] (pc' := 24) (lc' := [(0, (2, 3, 0)), (3, (0, 0, v3)), (4, (0, 0, i))]) (st' := [(0, 0, (M 0 20)), (0, 0, i)]) (M' := M) (C' := True) (by decide +kernel) rfl trivial ?_
    refine ax_icmp_ge (off := 31) (tgt := 55) (by decide +kernel) (by decide) (fun h => ?_) (fun h => ?_)
    · refine ax_pk [1] (lc' := [(3, (0, 0, v3))]) rfl ?_
      exact hkx v3 (by omega)
    · exfalso; omega
  | succ n ih =>
    intro i v3 hin hv3
    refine ax_fact (i := 0) (c := 3) (f := 20) (hi := 400) (s := 0) (by simp) rfl rfl rfl (fun hf5 => ?_)
    have hf5 : 0 ≤ (M 0 20) ∧ (M 0 20) ≤ 400 := hf5
    refine ax_lump ax_layM ok_kX3 [(18, .iload 4, 2, 0, 0, 0), (20, .aload_n 0, 1, 0, 0, 0), (21, .getfield 203, 3, 3, 20, 0)] (pc' := 24) (lc' := [(0, (2, 3, 0)), (3, (0, 0, v3)), (4, (0, 0, i))]) (st' := [(0, 0, (M 0 20)), (0, 0, i)]) (M' := M) (C' := True) (by decide +kernel) rfl trivial ?_
    refine ax_icmp_ge (off := 31) (tgt := 55) (by decide +kernel) (by decide) (fun h => ?_) (fun h => ?_)
    · exfalso; omega
    · exact wb_X3_isWiped_B18 d  M i v3 _ kx  (by omega) hv3 (fun u3 hu3 => ih (i + 1) u3 (by omega) hu3) hkx
def f_X3_isWiped_J14 (s0 : Int) (M : ax_M) : Int := f_X3_isWiped_L18  M ((M 0 20) - 0).toNat 0 s0 (fun z6 => z6)
set_option maxRecDepth 100000 in
set_option maxHeartbeats 4000000 in
theorem w_X3_isWiped_J14 (d : Nat) (s0 : Int) (M : ax_M) (hw_s0 : 0 ≤ s0 ∧ s0 ≤ 1) : ax_W ax_LM gX3_isWiped (d + 0) 14 [(0, (2, 3, 0))] [(0, 0, s0)] M ((ax_qi 0 1 M) (f_X3_isWiped_J14 s0 M)) := by
  unfold f_X3_isWiped_J14
  refine ax_lump ax_layM ok_kX3 [(14, .istore_n 3, 1, 0, 0, 0), (15, .iconst 0, 1, 0, 0, 0), (16, .istore 4, 2, 0, 0, 0)] (pc' := 18) (lc' := [(4, (0, 0, 0)), (3, (0, 0, s0)), (0, (2, 3, 0))]) (st' := []) (M' := M) (C' := True) (by decide +kernel) rfl trivial ?_
  refine ax_pk [2,1,0] (lc' := [(0, (2, 3, 0)), (3, (0, 0, s0)), (4, (0, 0, 0))]) rfl ?_
  refine ax_fact (i := 0) (c := 3) (f := 20) (hi := 400) (s := 0) (by simp) rfl rfl rfl (fun hf7 => ?_)
  have hf7 : 0 ≤ (M 0 20) ∧ (M 0 20) ≤ 400 := hf7
  refine w_X3_isWiped_L18 d  M _  (fun z6 hx_6 => ?_) ((M 0 20) - 0).toNat 0 s0 (by omega) (by omega)
  refine ax_lump ax_layM ok_kX3 [(55, .iload_n 3, 1, 0, 0, 0)] (pc' := 56) (lc' := [(3, (0, 0, z6))]) (st' := [(0, 0, z6)]) (M' := M) (C' := True) (by decide +kernel) rfl trivial ?_
  exact ax_zret (by decide +kernel) rfl (by omega) ⟨rfl, rfl, (show (0 : Int) ≤ z6 from by omega), (show z6 ≤ (1 : Int) from by omega)⟩
def f_X3_isWiped (x1 : Int) (a2 : Nat) (M : ax_M) : Int := (if (M a2 266) ≤ x1 then f_X3_isWiped_J14 0 M else f_X3_isWiped_J14 1 M)
set_option maxRecDepth 100000 in
set_option maxHeartbeats 4000000 in
theorem c_X3_isWiped (d : Nat) (x1 : Int) (a2 : Nat) (M : ax_M)  : ax_Met ax_LM gX3_isWiped (d + 0) [(2, 3, 0), (0, 0, x1), (3, 274, (a2 : Int))] M ((ax_qi 0 1 M) (f_X3_isWiped x1 a2 M)) := by
  refine ax_body (by decide) (fun X => Nat.le_of_ble_eq_true rfl) (fun hok => ?_)
  have hr_x1 : (-2147483648) ≤ x1 ∧ x1 ≤ 2147483647 := hok (0, 0, x1) (by simp)
  show ax_W ax_LM gX3_isWiped (d + 0) 0 [(0, (2, 3, 0)), (1, (0, 0, x1)), (2, (3, 274, (a2 : Int)))] [] M _
  unfold f_X3_isWiped
  refine ax_lump ax_layM ok_kX3 [(0, .aload_n 2, 1, 0, 0, 0), (1, .sipush 266, 3, 0, 0, 0), (4, .iaload, 1, 0, 0, 0), (5, .iload_n 1, 1, 0, 0, 0)] (pc' := 6) (lc' := [(0, (2, 3, 0)), (1, (0, 0, x1)), (2, (3, 274, (a2 : Int)))]) (st' := [(0, 0, x1), (0, 0, (M a2 266))]) (M' := M) (C' := (True ∧ (0 ≤ 266 ∧ 266 < ((274 : Nat) : Int)))) (by decide +kernel) rfl ⟨trivial, by omega⟩ ?_
  refine ax_jle (off := 7) (tgt := 13) (by decide +kernel) (by decide) (fun h1 => ?_) (fun h1 => ?_)
  · refine ax_lump ax_layM ok_kX3 [(13, .iconst 0, 1, 0, 0, 0)] (pc' := 14) (lc' := [(0, (2, 3, 0)), (1, (0, 0, x1)), (2, (3, 274, (a2 : Int)))]) (st' := [(0, 0, 0)]) (M' := M) (C' := True) (by decide +kernel) rfl trivial ?_
    refine ax_pk [0] (lc' := [(0, (2, 3, 0))]) rfl ?_
    exact w_X3_isWiped_J14 d 0 M (by omega)
  · refine ax_lump ax_layM ok_kX3 [(9, .iconst 1, 1, 0, 0, 0), (10, .goto 4, 3, 14, 0, 0)] (pc' := 14) (lc' := [(0, (2, 3, 0)), (1, (0, 0, x1)), (2, (3, 274, (a2 : Int)))]) (st' := [(0, 0, 1)]) (M' := M) (C' := True) (by decide +kernel) rfl trivial ?_
    refine ax_pk [0] (lc' := [(0, (2, 3, 0))]) rfl ?_
    exact w_X3_isWiped_J14 d 1 M (by omega)
def f_X3_putsBy_B2  (i : Nat)  (M : ax_M) (kc : ax_M → Prop × ax_M) (kx : ax_M → Prop × ax_M) : Prop × ax_M := ax_rq ((0 ≤ ((274 * (M 0 24)) + (i : Int)) ∧ ((274 * (M 0 24)) + (i : Int)) < ((2466 : Nat) : Int))) (ax_bd (ax_up M 13 ((274 * (M 0 24)) + (i : Int)).toNat (M 7 i)) (fun M3 => kc M3))
def f_X3_putsBy_L2  : Nat → Nat → ax_M → (ax_M → Prop × ax_M) → Prop × ax_M
  | 0, i, M, kx => kx M
  | n + 1, i, M, kx => f_X3_putsBy_B2  i  M (fun M9 => f_X3_putsBy_L2  n (i + 1) M9 kx) kx
set_option maxRecDepth 100000 in
set_option maxHeartbeats 4000000 in
theorem wb_X3_putsBy_B2 (d : Nat)  (i : Nat)  (M : ax_M) (kc : ax_M → Prop × ax_M) (kx : ax_M → Prop × ax_M)  (hi : 0 ≤ i ∧ i < 274)  (hkc : ∀ (M9 : ax_M), (kc M9).1 → ax_W ax_LM gX3_putsBy (d + 0) 2 [(0, (2, 3, 0)), (1, (0, 0, ((i : Int) + 1)))] [] M9 (ax_qv (kc M9).2)) (hkx : ∀ (M9 : ax_M), (True) → (kx M9).1 → ax_W ax_LM gX3_putsBy (d + 0) 36 [] [] M9 (ax_qv (kx M9).2)) (hX : (f_X3_putsBy_B2  i  M kc kx).1) : ax_W ax_LM gX3_putsBy (d + 0) 9 [(0, (2, 3, 0)), (1, (0, 0, (i : Int)))] [] M (ax_qv (f_X3_putsBy_B2  i  M kc kx).2) := by
  unfold f_X3_putsBy_B2 at hX ⊢
  refine ax_rq_s hX (fun hS2 hX => ?_)
  refine ax_fact (i := 0) (c := 3) (f := 24) (hi := 9) (s := 0) (by simp) rfl rfl rfl (fun hf1 => ?_)
  have hf1 : 0 ≤ (M 0 24) ∧ (M 0 24) ≤ 9 := hf1
  refine ax_lump ax_layM ok_kX3 [(9, .aload_n 0, 1, 0, 0, 0), (10, .getfield 156, 3, 3, 25, 0), (13, .sipush 274, 3, 0, 0, 0), (16, .aload_n 0, 1, 0, 0, 0), (17, .getfield 318, 3, 3, 24, 0), (20, .imul, 1, 1, 0, 0), (21, .iload_n 1, 1, 0, 0, 0), (22, .iadd, 1, 1, 0, 0), (23, .aload_n 0, 1, 0, 0, 0), (24, .getfield 138, 3, 3, 14, 0), (27, .iload_n 1, 1, 0, 0, 0), (28, .iaload, 1, 0, 0, 0), (29, .iastore, 1, 0, 0, 0)] (pc' := 30) (lc' := [(0, (2, 3, 0)), (1, (0, 0, (i : Int)))]) (st' := []) (M' := (ax_up M 13 ((274 * (M 0 24)) + (i : Int)).toNat (M 7 i))) (C' := ((((True ∧ ax_r32 (274 * (M 0 24))) ∧ ax_r32 ((274 * (M 0 24)) + (i : Int))) ∧ (0 ≤ (i : Int) ∧ (i : Int) < ((274 : Nat) : Int))) ∧ (0 ≤ ((274 * (M 0 24)) + (i : Int)) ∧ ((274 * (M 0 24)) + (i : Int)) < ((2466 : Nat) : Int)))) (by decide +kernel) rfl ⟨⟨⟨⟨trivial, ⟨by omega, by omega⟩⟩, ⟨by omega, by omega⟩⟩, by omega⟩, hS2⟩ ?_
  refine ax_bdMe_s hX (fun M3 hM_M3 hX => ?_)
  have hk_k4 : (M3 0 24) = (M 0 24) := by rw [hM_M3]; exact ax_up_o1 (by omega)
  refine ax_lump ax_layM ok_kX3 [(30, .iinc 1 1, 3, 1, 0, 0), (33, .goto (-31), 3, 2, 0, 0)] (pc' := 2) (lc' := [(1, (0, 0, ((i : Int) + 1))), (0, (2, 3, 0))]) (st' := []) (M' := M3) (C' := (True ∧ ax_r32 ((i : Int) + 1))) (by decide +kernel) rfl ⟨trivial, ⟨by omega, by omega⟩⟩ ?_
  refine ax_pk [1,0] (lc' := [(0, (2, 3, 0)), (1, (0, 0, ((i : Int) + 1)))]) rfl ?_
  exact hkc M3  hX
set_option maxRecDepth 100000 in
set_option maxHeartbeats 4000000 in
theorem w_X3_putsBy_L2 (d : Nat)  (kx : ax_M → Prop × ax_M)  (hkx : ∀ (M9 : ax_M), (True) → (kx M9).1 → ax_W ax_LM gX3_putsBy (d + 0) 36 [] [] M9 (ax_qv (kx M9).2)) : ∀ (n : Nat) (i : Nat) (M : ax_M), 0 ≤ i ∧ i + n = 274 → (f_X3_putsBy_L2  n i  M kx).1 → ax_W ax_LM gX3_putsBy (d + 0) 2 [(0, (2, 3, 0)), (1, (0, 0, (i : Int)))] [] M (ax_qv (f_X3_putsBy_L2  n i  M kx).2) := by
  intro n
  induction n with
  | zero =>
    intro i M hin hX
    refine ax_lump ax_layM ok_kX3 [(2, .iload_n 1, 1, 0, 0, 0), (3, .sipush 274, 3, 0, 0, 0)] (pc' := 6) (lc' := [(0, (2, 3, 0)), (1, (0, 0, (i : Int)))]) (st' := [(0, 0, 274), (0, 0, (i : Int))]) (M' := M) (C' := True) (by decide +kernel) rfl trivial ?_
    refine ax_icmp_ge (off := 30) (tgt := 36) (by decide +kernel) (by decide) (fun h => ?_) (fun h => ?_)
    · refine ax_pk [] (lc' := []) rfl ?_
      exact hkx M trivial hX
    · exfalso; omega
  | succ n ih =>
    intro i M hin hX
    refine ax_lump ax_layM ok_kX3 [(2, .iload_n 1, 1, 0, 0, 0), (3, .sipush 274, 3, 0, 0, 0)] (pc' := 6) (lc' := [(0, (2, 3, 0)), (1, (0, 0, (i : Int)))]) (st' := [(0, 0, 274), (0, 0, (i : Int))]) (M' := M) (C' := True) (by decide +kernel) rfl trivial ?_
    refine ax_icmp_ge (off := 30) (tgt := 36) (by decide +kernel) (by decide) (fun h => ?_) (fun h => ?_)
    · exfalso; omega
    · exact wb_X3_putsBy_B2 d  i  M _ kx  (by omega)  (fun M9 hX => ih (i + 1)  M9 (by omega)  hX) hkx hX
def f_X3_putsBy  (M : ax_M) : Prop × ax_M := f_X3_putsBy_L2  274 0  M (fun M5 => (True, M5))
set_option maxRecDepth 100000 in
set_option maxHeartbeats 4000000 in
theorem c_X3_putsBy (d : Nat)  (M : ax_M)  (hX : (f_X3_putsBy  M).1) : ax_Met ax_LM gX3_putsBy (d + 0) [(2, 3, 0)] M (ax_qv (f_X3_putsBy  M).2) := by
  refine ax_body (by decide) (fun X => Nat.le_of_ble_eq_true rfl) (fun hok => ?_)
  show ax_W ax_LM gX3_putsBy (d + 0) 0 [(0, (2, 3, 0))] [] M _
  unfold f_X3_putsBy at hX ⊢
  refine ax_lump ax_layM ok_kX3 [(0, .iconst 0, 1, 0, 0, 0), (1, .istore_n 1, 1, 0, 0, 0)] (pc' := 2) (lc' := [(1, (0, 0, 0)), (0, (2, 3, 0))]) (st' := []) (M' := M) (C' := True) (by decide +kernel) rfl trivial ?_
  refine ax_pk [1,0] (lc' := [(0, (2, 3, 0)), (1, (0, 0, 0))]) rfl ?_
  refine w_X3_putsBy_L2 d  _  (fun M5 hx_5 hX => ?_) 274 0  M (by omega)  hX
  exact ax_vret (by decide +kernel) rfl ⟨rfl, rfl⟩
def f_X3_adds_B21 (w1 : Int) (i : Nat)  (M : ax_M) (kc : ax_M → Prop × Int × ax_M) (kx : ax_M → Prop × Int × ax_M) : Prop × Int × ax_M := ax_bd (ax_up M 13 i (M 13 ((i : Int) + 274).toNat)) (fun M6 => kc M6)
def f_X3_adds_L21 (w1 : Int) : Nat → Nat → ax_M → (ax_M → Prop × Int × ax_M) → Prop × Int × ax_M
  | 0, i, M, kx => kx M
  | n + 1, i, M, kx => f_X3_adds_B21 w1 i  M (fun M9 => f_X3_adds_L21 w1 n (i + 1) M9 kx) kx
set_option maxRecDepth 100000 in
set_option maxHeartbeats 4000000 in
theorem wb_X3_adds_B21 (d : Nat) (w1 : Int) (i : Nat)  (M : ax_M) (kc : ax_M → Prop × Int × ax_M) (kx : ax_M → Prop × Int × ax_M)  (hi : 0 ≤ i ∧ i < 2192)  (hkc : ∀ (M9 : ax_M), (kc M9).1 → ax_W ax_LM gX3_adds (d + 0) 21 [(0, (2, 3, 0)), (1, (0, 0, w1)), (2, (0, 0, ((i : Int) + 1)))] [] M9 ((ax_qm (-2147483648) 2147483647) (kc M9).2)) (hkx : ∀ (M9 : ax_M), (True) → (kx M9).1 → ax_W ax_LM gX3_adds (d + 0) 50 [(0, (2, 3, 0)), (1, (0, 0, w1))] [] M9 ((ax_qm (-2147483648) 2147483647) (kx M9).2)) (hX : (f_X3_adds_B21 w1 i  M kc kx).1) : ax_W ax_LM gX3_adds (d + 0) 28 [(0, (2, 3, 0)), (1, (0, 0, w1)), (2, (0, 0, (i : Int)))] [] M ((ax_qm (-2147483648) 2147483647) (f_X3_adds_B21 w1 i  M kc kx).2) := by
  unfold f_X3_adds_B21 at hX ⊢
  refine ax_lump ax_layM ok_kX3 [(28, .aload_n 0, 1, 0, 0, 0), (29, .getfield 156, 3, 3, 25, 0), (32, .iload_n 2, 1, 0, 0, 0), (33, .aload_n 0, 1, 0, 0, 0), (34, .getfield 156, 3, 3, 25, 0), (37, .iload_n 2, 1, 0, 0, 0), (38, .sipush 274, 3, 0, 0, 0), (41, .iadd, 1, 1, 0, 0), (42, .iaload, 1, 0, 0, 0), (43, .iastore, 1, 0, 0, 0)] (pc' := 44) (lc' := [(0, (2, 3, 0)), (1, (0, 0, w1)), (2, (0, 0, (i : Int)))]) (st' := []) (M' := (ax_up M 13 i (M 13 ((i : Int) + 274).toNat))) (C' := (((True ∧ ax_r32 ((i : Int) + 274)) ∧ (0 ≤ ((i : Int) + 274) ∧ ((i : Int) + 274) < ((2466 : Nat) : Int))) ∧ (0 ≤ (i : Int) ∧ (i : Int) < ((2466 : Nat) : Int)))) (by decide +kernel) rfl ⟨⟨⟨trivial, ⟨by omega, by omega⟩⟩, by omega⟩, by omega⟩ ?_
  refine ax_bdMe_s hX (fun M6 hM_M6 hX => ?_)
  refine ax_lump ax_layM ok_kX3 [(44, .iinc 2 1, 3, 1, 0, 0), (47, .goto (-26), 3, 21, 0, 0)] (pc' := 21) (lc' := [(2, (0, 0, ((i : Int) + 1))), (0, (2, 3, 0)), (1, (0, 0, w1))]) (st' := []) (M' := M6) (C' := (True ∧ ax_r32 ((i : Int) + 1))) (by decide +kernel) rfl ⟨trivial, ⟨by omega, by omega⟩⟩ ?_
  refine ax_pk [1,2,0] (lc' := [(0, (2, 3, 0)), (1, (0, 0, w1)), (2, (0, 0, ((i : Int) + 1)))]) rfl ?_
  exact hkc M6  hX
set_option maxRecDepth 100000 in
set_option maxHeartbeats 4000000 in
theorem w_X3_adds_L21 (d : Nat) (w1 : Int) (kx : ax_M → Prop × Int × ax_M)  (hkx : ∀ (M9 : ax_M), (True) → (kx M9).1 → ax_W ax_LM gX3_adds (d + 0) 50 [(0, (2, 3, 0)), (1, (0, 0, w1))] [] M9 ((ax_qm (-2147483648) 2147483647) (kx M9).2)) : ∀ (n : Nat) (i : Nat) (M : ax_M), 0 ≤ i ∧ i + n = 2192 → (f_X3_adds_L21 w1 n i  M kx).1 → ax_W ax_LM gX3_adds (d + 0) 21 [(0, (2, 3, 0)), (1, (0, 0, w1)), (2, (0, 0, (i : Int)))] [] M ((ax_qm (-2147483648) 2147483647) (f_X3_adds_L21 w1 n i  M kx).2) := by
  intro n
  induction n with
  | zero =>
    intro i M hin hX
    refine ax_lump ax_layM ok_kX3 [(21, .iload_n 2, 1, 0, 0, 0), (22, .sipush 2192, 3, 0, 0, 0)] (pc' := 25) (lc' := [(0, (2, 3, 0)), (1, (0, 0, w1)), (2, (0, 0, (i : Int)))]) (st' := [(0, 0, 2192), (0, 0, (i : Int))]) (M' := M) (C' := True) (by decide +kernel) rfl trivial ?_
    refine ax_icmp_ge (off := 25) (tgt := 50) (by decide +kernel) (by decide) (fun h => ?_) (fun h => ?_)
    · refine ax_pk [0,1] (lc' := [(0, (2, 3, 0)), (1, (0, 0, w1))]) rfl ?_
      exact hkx M trivial hX
    · exfalso; omega
  | succ n ih =>
    intro i M hin hX
    refine ax_lump ax_layM ok_kX3 [(21, .iload_n 2, 1, 0, 0, 0), (22, .sipush 2192, 3, 0, 0, 0)] (pc' := 25) (lc' := [(0, (2, 3, 0)), (1, (0, 0, w1)), (2, (0, 0, (i : Int)))]) (st' := [(0, 0, 2192), (0, 0, (i : Int))]) (M' := M) (C' := True) (by decide +kernel) rfl trivial ?_
    refine ax_icmp_ge (off := 25) (tgt := 50) (by decide +kernel) (by decide) (fun h => ?_) (fun h => ?_)
    · exfalso; omega
    · exact wb_X3_adds_B21 d w1 i  M _ kx  (by omega)  (fun M9 hX => ih (i + 1)  M9 (by omega)  hX) hkx hX
def f_X3_adds (x1 : Int) (M : ax_M) : Prop × Int × ax_M := ax_rq ((0 ≤ ((M 0 24) + 1) ∧ ((M 0 24) + 1) < ((10 : Nat) : Int))) (ax_bd (ax_up M 0 24 ((M 0 24) + 1)) (fun M3 => (if (M3 0 24) ≤ 8 then (True, (x1, M3)) else f_X3_adds_L21 x1 2192 0  M3 (fun M7 => ax_rq ((0 ≤ ((M7 0 24) - 1) ∧ ((M7 0 24) - 1) < ((10 : Nat) : Int))) (ax_bd (ax_up M7 0 24 ((M7 0 24) - 1)) (fun M10 => (True, (x1, M10))))))))
set_option maxRecDepth 100000 in
set_option maxHeartbeats 4000000 in
theorem c_X3_adds (d : Nat) (x1 : Int) (M : ax_M)  (hX : (f_X3_adds x1 M).1) : ax_Met ax_LM gX3_adds (d + 0) [(2, 3, 0), (0, 0, x1)] M ((ax_qm (-2147483648) 2147483647) (f_X3_adds x1 M).2) := by
  refine ax_body (by decide) (fun X => Nat.le_of_ble_eq_true rfl) (fun hok => ?_)
  have hr_x1 : (-2147483648) ≤ x1 ∧ x1 ≤ 2147483647 := hok (0, 0, x1) (by simp)
  show ax_W ax_LM gX3_adds (d + 0) 0 [(0, (2, 3, 0)), (1, (0, 0, x1))] [] M _
  unfold f_X3_adds at hX ⊢
  refine ax_rq_s hX (fun hS2 hX => ?_)
  refine ax_fact (i := 0) (c := 3) (f := 24) (hi := 9) (s := 0) (by simp) rfl rfl rfl (fun hf1 => ?_)
  have hf1 : 0 ≤ (M 0 24) ∧ (M 0 24) ≤ 9 := hf1
  refine ax_lump ax_layM ok_kX3 [(0, .aload_n 0, 1, 0, 0, 0), (1, .dup, 1, 0, 0, 0), (2, .getfield 318, 3, 3, 24, 0), (5, .iconst 1, 1, 0, 0, 0), (6, .iadd, 1, 1, 0, 0), (7, .putfield 318, 3, 3, 24, 0)] (pc' := 10) (lc' := [(0, (2, 3, 0)), (1, (0, 0, x1))]) (st' := []) (M' := (ax_up M 0 24 ((M 0 24) + 1))) (C' := ((True ∧ ax_r32 ((M 0 24) + 1)) ∧ (0 ≤ ((M 0 24) + 1) ∧ ((M 0 24) + 1) < ((10 : Nat) : Int)))) (by decide +kernel) rfl ⟨⟨trivial, ⟨by omega, by omega⟩⟩, hS2⟩ ?_
  refine ax_bdMe_s hX (fun M3 hM_M3 hX => ?_)
  have hk_k4 : (M3 0 24) = ((M 0 24) + 1) := by rw [hM_M3]; exact ax_up_s
  refine ax_lump ax_layM ok_kX3 [(10, .aload_n 0, 1, 0, 0, 0), (11, .getfield 318, 3, 3, 24, 0), (14, .bipush 8, 2, 0, 0, 0)] (pc' := 16) (lc' := [(0, (2, 3, 0)), (1, (0, 0, x1))]) (st' := [(0, 0, 8), (0, 0, (M3 0 24))]) (M' := M3) (C' := True) (by decide +kernel) rfl trivial ?_
  refine ax_jle_s hX (off := 44) (tgt := 60) (by decide +kernel) (by decide) (fun h5 hX => ?_) (fun h5 hX => ?_)
  · refine ax_lump ax_layM ok_kX3 [(60, .iload_n 1, 1, 0, 0, 0)] (pc' := 61) (lc' := [(0, (2, 3, 0)), (1, (0, 0, x1))]) (st' := [(0, 0, x1)]) (M' := M3) (C' := True) (by decide +kernel) rfl trivial ?_
    refine ax_rngS (fun hr => ?_)
    exact ax_iret (by decide +kernel) rfl ⟨rfl, rfl, hr.1, hr.2⟩
  · refine ax_lump ax_layM ok_kX3 [(19, .iconst 0, 1, 0, 0, 0), (20, .istore_n 2, 1, 0, 0, 0)] (pc' := 21) (lc' := [(2, (0, 0, 0)), (0, (2, 3, 0)), (1, (0, 0, x1))]) (st' := []) (M' := M3) (C' := True) (by decide +kernel) rfl trivial ?_
    refine ax_pk [1,2,0] (lc' := [(0, (2, 3, 0)), (1, (0, 0, x1)), (2, (0, 0, 0))]) rfl ?_
    refine w_X3_adds_L21 d x1 _  (fun M7 hx_7 hX => ?_) 2192 0  M3 (by omega)  hX
    refine ax_rq_s hX (fun hS9 hX => ?_)
    refine ax_fact (i := 0) (c := 3) (f := 24) (hi := 9) (s := 0) (by simp) rfl rfl rfl (fun hf8 => ?_)
    have hf8 : 0 ≤ (M7 0 24) ∧ (M7 0 24) ≤ 9 := hf8
    refine ax_lump ax_layM ok_kX3 [(50, .aload_n 0, 1, 0, 0, 0), (51, .dup, 1, 0, 0, 0), (52, .getfield 318, 3, 3, 24, 0), (55, .iconst 1, 1, 0, 0, 0), (56, .isub, 1, 1, 0, 0), (57, .putfield 318, 3, 3, 24, 0)] (pc' := 60) (lc' := [(0, (2, 3, 0)), (1, (0, 0, x1))]) (st' := []) (M' := (ax_up M7 0 24 ((M7 0 24) - 1))) (C' := ((True ∧ ax_r32 ((M7 0 24) - 1)) ∧ (0 ≤ ((M7 0 24) - 1) ∧ ((M7 0 24) - 1) < ((10 : Nat) : Int)))) (by decide +kernel) rfl ⟨⟨trivial, ⟨by omega, by omega⟩⟩, hS9⟩ ?_
    refine ax_bdMe_s hX (fun M10 hM_M10 hX => ?_)
    have hk_k11 : (M10 0 24) = ((M7 0 24) - 1) := by rw [hM_M10]; exact ax_up_s
    refine ax_lump ax_layM ok_kX3 [(60, .iload_n 1, 1, 0, 0, 0)] (pc' := 61) (lc' := [(0, (2, 3, 0)), (1, (0, 0, x1))]) (st' := [(0, 0, x1)]) (M' := M10) (C' := True) (by decide +kernel) rfl trivial ?_
    refine ax_rngS (fun hr => ?_)
    exact ax_iret (by decide +kernel) rfl ⟨rfl, rfl, hr.1, hr.2⟩
