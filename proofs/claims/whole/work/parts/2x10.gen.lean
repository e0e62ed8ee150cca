def f_X3_cuts_B66 (w1 : Int) (w3 : Int) (w4 : Int) (i : Int)  (M : ax_M) (kc : ax_M → Prop × Int × ax_M) (kx : ax_M → Prop × Int × ax_M) : Prop × Int × ax_M := (if w3 ≤ i then kx M else (if 64 ≤ (M 9 i.toNat) then ax_rq ((0 ≤ (ax_wr ((M 9 i.toNat) - 64)) ∧ (ax_wr ((M 9 i.toNat) - 64)) ≤ 15)) (ax_bd (f_X3_emptiesBlock 8 (ax_wr ((M 9 i.toNat) - 64)) M) (fun M16 => kc M16)) else ax_rq ((0 ≤ (M 9 i.toNat) ∧ (M 9 i.toNat) < ((274 : Nat) : Int))) (ax_bd (ax_up M 8 (M 9 i.toNat).toNat (ax_wr ((M 10 i.toNat) + 1))) (fun M18 => ax_rq ((0 ≤ (ax_wr (64 + (M18 9 i.toNat))) ∧ (ax_wr (64 + (M18 9 i.toNat))) < ((274 : Nat) : Int))) (ax_bd (ax_up M18 8 (ax_wr (64 + (M18 9 i.toNat))).toNat (M18 11 i.toNat)) (fun M20 => ax_rq ((0 ≤ (ax_wr (128 + (M20 9 i.toNat))) ∧ (ax_wr (128 + (M20 9 i.toNat))) < ((274 : Nat) : Int))) (ax_bd (ax_up M20 8 (ax_wr (128 + (M20 9 i.toNat))).toNat (M20 12 i.toNat)) (fun M22 => kc M22))))))))
def f_X3_cuts_L66 (w1 : Int) (w3 : Int) (w4 : Int) : Nat → Int → ax_M → (ax_M → Prop × Int × ax_M) → Prop × Int × ax_M
  | 0, i, M, kx => kx M
  | n + 1, i, M, kx => f_X3_cuts_B66 w1 w3 w4 i  M (fun M9 => f_X3_cuts_L66 w1 w3 w4 n (i + 1) M9 kx) kx
set_option maxRecDepth 100000 in
set_option maxHeartbeats 4000000 in
theorem wb_X3_cuts_B66 (d : Nat) (w1 : Int) (w3 : Int) (w4 : Int) (i : Int)  (M : ax_M) (kc : ax_M → Prop × Int × ax_M) (kx : ax_M → Prop × Int × ax_M) (hw_w1 : 0 ≤ w1 ∧ w1 ≤ 23) (hw_w3 : 0 ≤ w3 ∧ w3 ≤ 99) (hw_w4 : 0 ≤ w4 ∧ w4 ≤ 400) (hi : 0 ≤ i ∧ i < w4)  (hkc : ∀ (M9 : ax_M), (kc M9).1 → ax_W ax_LM gX3_cuts (d + 9) 66 [(0, (2, 3, 0)), (1, (0, 0, w1)), (3, (0, 0, w3)), (4, (0, 0, w4)), (5, (0, 0, (i + 1)))] [] M9 ((ax_qm (-2147483648) 2147483647) (kc M9).2)) (hkx : ∀ (M9 : ax_M), (True) → (kx M9).1 → ax_W ax_LM gX3_cuts (d + 9) 183 [(0, (2, 3, 0)), (1, (0, 0, w1)), (4, (0, 0, w4))] [] M9 ((ax_qm (-2147483648) 2147483647) (kx M9).2)) (hX : (f_X3_cuts_B66 w1 w3 w4 i  M kc kx).1) : ax_W ax_LM gX3_cuts (d + 9) 73 [(0, (2, 3, 0)), (1, (0, 0, w1)), (3, (0, 0, w3)), (4, (0, 0, w4)), (5, (0, 0, i))] [] M ((ax_qm (-2147483648) 2147483647) (f_X3_cuts_B66 w1 w3 w4 i  M kc kx).2) := by
  unfold f_X3_cuts_B66 at hX ⊢
  refine ax_lump ax_layM ok_kX3 [(73, .iload 5, 2, 0, 0, 0), (75, .iload_n 3, 1, 0, 0, 0)] (pc' := 76) (lc' := [(0, (2, 3, 0)), (1, (0, 0, w1)), (3, (0, 0, w3)), (4, (0, 0, w4)), (5, (0, 0, i))]) (st' := [(0, 0, w3), (0, 0, i)]) (M' := M) (C' := True) (by decide +kernel) rfl trivial ?_
  refine ax_jge_s hX (off := 107) (tgt := 183) (by decide +kernel) (by decide) (fun h13 hX => ?_) (fun h13 hX => ?_)
  · refine ax_pk [0,1,3] (lc' := [(0, (2, 3, 0)), (1, (0, 0, w1)), (4, (0, 0, w4))]) rfl ?_
    exact hkx M trivial hX
  · refine ax_lump ax_layM ok_kX3 [(79, .aload_n 0, 1, 0, 0, 0), (80, .getfield 144, 3, 3, 16, 0), (83, .iload 5, 2, 0, 0, 0), (85, .iaload, 1, 0, 0, 0), (86, .bipush 64, 2, 0, 0, 0)] (pc' := 88) (lc' := [(0, (2, 3, 0)), (1, (0, 0, w1)), (3, (0, 0, w3)), (4, (0, 0, w4)), (5, (0, 0, i))]) (st' := [(0, 0, 64), (0, 0, (M 9 i.toNat))]) (M' := M) (C' := (True ∧ (0 ≤ i ∧ i < ((400 : Nat) : Int)))) (by decide +kernel) rfl ⟨trivial, by omega⟩ ?_
    refine ax_jge_s hX (off := 72) (tgt := 160) (by decide +kernel) (by decide) (fun h14 hX => ?_) (fun h14 hX => ?_)
    · refine ax_rq_s hX (fun hS15 hX => ?_)
      refine ax_lump ax_layM ok_kX3 [(160, .aload_n 0, 1, 0, 0, 0), (161, .getfield 141, 3, 3, 15, 0), (164, .aload_n 0, 1, 0, 0, 0), (165, .getfield 144, 3, 3, 16, 0), (168, .iload 5, 2, 0, 0, 0), (170, .iaload, 1, 0, 0, 0), (171, .bipush 64, 2, 0, 0, 0), (173, .isub, 1, 0, 0, 0)] (pc' := 174) (lc' := [(0, (2, 3, 0)), (1, (0, 0, w1)), (3, (0, 0, w3)), (4, (0, 0, w4)), (5, (0, 0, i))]) (st' := [(0, 0, (ax_wr ((M 9 i.toNat) - 64))), (3, 274, 8)]) (M' := M) (C' := (True ∧ (0 ≤ i ∧ i < ((400 : Nat) : Int)))) (by decide +kernel) rfl ⟨trivial, by omega⟩ ?_
      refine ax_cSv_s hX (G1 := gX3_emptiesBlock) (d1 := d + 0) (i := 217) (n := 2) (as := [(3, 274, 8), (0, 0, (ax_wr ((M 9 i.toNat) - 64)))]) (st := []) (by decide +kernel) calX3_emptiesBlock (by omega) rfl wt_1196 wt_1197 (Nat.le_of_ble_eq_true rfl) rfl (c_X3_emptiesBlock d 8 (ax_wr ((M 9 i.toNat) - 64)) M (hS15)) (fun M16 hX => ?_)
      refine ax_lump ax_layM ok_kX3 [(177, .iinc 5 1, 3, 1, 0, 0), (180, .goto (-114), 3, 66, 0, 0)] (pc' := 66) (lc' := [(5, (0, 0, (i + 1))), (0, (2, 3, 0)), (1, (0, 0, w1)), (3, (0, 0, w3)), (4, (0, 0, w4))]) (st' := []) (M' := M16) (C' := (True ∧ ax_r32 (i + 1))) (by decide +kernel) rfl ⟨trivial, ⟨by omega, by omega⟩⟩ ?_
      refine ax_pk [1,2,3,4,0] (lc' := [(0, (2, 3, 0)), (1, (0, 0, w1)), (3, (0, 0, w3)), (4, (0, 0, w4)), (5, (0, 0, (i + 1)))]) rfl ?_
      exact hkc M16  hX
    · refine ax_rq_s hX (fun hS17 hX => ?_)
      refine ax_lump ax_layM ok_kX3 [(91, .aload_n 0, 1, 0, 0, 0), (92, .getfield 141, 3, 3, 15, 0), (95, .aload_n 0, 1, 0, 0, 0), (96, .getfield 144, 3, 3, 16, 0), (99, .iload 5, 2, 0, 0, 0), (101, .iaload, 1, 0, 0, 0), (102, .aload_n 0, 1, 0, 0, 0), (103, .getfield 147, 3, 3, 17, 0), (106, .iload 5, 2, 0, 0, 0), (108, .iaload, 1, 0, 0, 0), (109, .iconst 1, 1, 0, 0, 0), (110, .iadd, 1, 0, 0, 0), (111, .iastore, 1, 0, 0, 0)] (pc' := 112) (lc' := [(0, (2, 3, 0)), (1, (0, 0, w1)), (3, (0, 0, w3)), (4, (0, 0, w4)), (5, (0, 0, i))]) (st' := []) (M' := (ax_up M 8 (M 9 i.toNat).toNat (ax_wr ((M 10 i.toNat) + 1)))) (C' := (((True ∧ (0 ≤ i ∧ i < ((400 : Nat) : Int))) ∧ (0 ≤ i ∧ i < ((400 : Nat) : Int))) ∧ (0 ≤ (M 9 i.toNat) ∧ (M 9 i.toNat) < ((274 : Nat) : Int)))) (by decide +kernel) rfl ⟨⟨⟨trivial, by omega⟩, by omega⟩, hS17⟩ ?_
      refine ax_bdMe_s hX (fun M18 hM_M18 hX => ?_)
      refine ax_rq_s hX (fun hS19 hX => ?_)
      refine ax_lump ax_layM ok_kX3 [(112, .aload_n 0, 1, 0, 0, 0), (113, .getfield 141, 3, 3, 15, 0), (116, .bipush 64, 2, 0, 0, 0), (118, .aload_n 0, 1, 0, 0, 0), (119, .getfield 144, 3, 3, 16, 0), (122, .iload 5, 2, 0, 0, 0), (124, .iaload, 1, 0, 0, 0), (125, .iadd, 1, 0, 0, 0), (126, .aload_n 0, 1, 0, 0, 0), (127, .getfield 150, 3, 3, 18, 0), (130, .iload 5, 2, 0, 0, 0), (132, .iaload, 1, 0, 0, 0), (133, .iastore, 1, 0, 0, 0)] (pc' := 134) (lc' := [(0, (2, 3, 0)), (1, (0, 0, w1)), (3, (0, 0, w3)), (4, (0, 0, w4)), (5, (0, 0, i))]) (st' := []) (M' := (ax_up M18 8 (ax_wr (64 + (M18 9 i.toNat))).toNat (M18 11 i.toNat))) (C' := (((True ∧ (0 ≤ i ∧ i < ((400 : Nat) : Int))) ∧ (0 ≤ i ∧ i < ((400 : Nat) : Int))) ∧ (0 ≤ (ax_wr (64 + (M18 9 i.toNat))) ∧ (ax_wr (64 + (M18 9 i.toNat))) < ((274 : Nat) : Int)))) (by decide +kernel) rfl ⟨⟨⟨trivial, by omega⟩, by omega⟩, hS19⟩ ?_
      refine ax_bdMe_s hX (fun M20 hM_M20 hX => ?_)
      refine ax_rq_s hX (fun hS21 hX => ?_)
      refine ax_lump ax_layM ok_kX3 [(134, .aload_n 0, 1, 0, 0, 0), (135, .getfield 141, 3, 3, 15, 0), (138, .sipush 128, 3, 0, 0, 0), (141, .aload_n 0, 1, 0, 0, 0), (142, .getfield 144, 3, 3, 16, 0), (145, .iload 5, 2, 0, 0, 0), (147, .iaload, 1, 0, 0, 0), (148, .iadd, 1, 0, 0, 0), (149, .aload_n 0, 1, 0, 0, 0), (150, .getfield 153, 3, 3, 19, 0), (153, .iload 5, 2, 0, 0, 0), (155, .iaload, 1, 0, 0, 0), (156, .iastore, 1, 0, 0, 0)] (pc' := 157) (lc' := [(0, (2, 3, 0)), (1, (0, 0, w1)), (3, (0, 0, w3)), (4, (0, 0, w4)), (5, (0, 0, i))]) (st' := []) (M' := (ax_up M20 8 (ax_wr (128 + (M20 9 i.toNat))).toNat (M20 12 i.toNat))) (C' := (((True ∧ (0 ≤ i ∧ i < ((400 : Nat) : Int))) ∧ (0 ≤ i ∧ i < ((400 : Nat) : Int))) ∧ (0 ≤ (ax_wr (128 + (M20 9 i.toNat))) ∧ (ax_wr (128 + (M20 9 i.toNat))) < ((274 : Nat) : Int)))) (by decide +kernel) rfl ⟨⟨⟨trivial, by omega⟩, by omega⟩, hS21⟩ ?_
      refine ax_bdMe_s hX (fun M22 hM_M22 hX => ?_)
      refine ax_lump ax_layM ok_kX3 [(157, .goto 20, 3, 177, 0, 0), (177, .iinc 5 1, 3, 1, 0, 0), (180, .goto (-114), 3, 66, 0, 0)] (pc' := 66) (lc' := [(5, (0, 0, (i + 1))), (0, (2, 3, 0)), (1, (0, 0, w1)), (3, (0, 0, w3)), (4, (0, 0, w4))]) (st' := []) (M' := M22) (C' := (True ∧ ax_r32 (i + 1))) (by decide +kernel) rfl ⟨trivial, ⟨by omega, by omega⟩⟩ ?_
      refine ax_pk [1,2,3,4,0] (lc' := [(0, (2, 3, 0)), (1, (0, 0, w1)), (3, (0, 0, w3)), (4, (0, 0, w4)), (5, (0, 0, (i + 1)))]) rfl ?_
      exact hkc M22  hX
set_option maxRecDepth 100000 in
set_option maxHeartbeats 4000000 in
theorem w_X3_cuts_L66 (d : Nat) (w1 : Int) (w3 : Int) (w4 : Int) (kx : ax_M → Prop × Int × ax_M) (hw_w1 : 0 ≤ w1 ∧ w1 ≤ 23) (hw_w3 : 0 ≤ w3 ∧ w3 ≤ 99) (hw_w4 : 0 ≤ w4 ∧ w4 ≤ 400) (hkx : ∀ (M9 : ax_M), (True) → (kx M9).1 → ax_W ax_LM gX3_cuts (d + 9) 183 [(0, (2, 3, 0)), (1, (0, 0, w1)), (4, (0, 0, w4))] [] M9 ((ax_qm (-2147483648) 2147483647) (kx M9).2)) : ∀ (n : Nat) (i : Int) (M : ax_M), 0 ≤ i ∧ n = (w4 - i).toNat → (f_X3_cuts_L66 w1 w3 w4 n i  M kx).1 → ax_W ax_LM gX3_cuts (d + 9) 66 [(0, (2, 3, 0)), (1, (0, 0, w1)), (3, (0, 0, w3)), (4, (0, 0, w4)), (5, (0, 0, i))] [] M ((ax_qm (-2147483648) 2147483647) (f_X3_cuts_L66 w1 w3 w4 n i  M kx).2) := by
  intro n
  induction n with
  | zero =>
    intro i M hin hX
    refine ax_lump ax_layM ok_kX3 [(66, .iload 5, 2, 0, 0, 0), (68, .iload 4, 2, 0, 0, 0)] (pc' := 70) (lc' := [(0, (2, 3, 0)), (1, (0, 0, w1)), (3, (0, 0, w3)), (4, (0, 0, w4)), (5, (0, 0, i))]) (st' := [(0, 0, w4), (0, 0, i)]) (M' := M) (C' := True) (by decide +kernel) rfl trivial ?_
    refine ax_icmp_ge (off := 113) (tgt := 183) (by decide +kernel) (by decide) (fun h => ?_) (fun h => ?_)
    · refine ax_pk [0,1,3] (lc' := [(0, (2, 3, 0)), (1, (0, 0, w1)), (4, (0, 0, w4))]) rfl ?_
      exact hkx M trivial hX
    · exfalso; omega
  | succ n ih =>
    intro i M hin hX
    refine ax_lump ax_layM ok_kX3 [(66, .iload 5, 2, 0, 0, 0), (68, .iload 4, 2, 0, 0, 0)] (pc' := 70) (lc' := [(0, (2, 3, 0)), (1, (0, 0, w1)), (3, (0, 0, w3)), (4, (0, 0, w4)), (5, (0, 0, i))]) (st' := [(0, 0, w4), (0, 0, i)]) (M' := M) (C' := True) (by decide +kernel) rfl trivial ?_
    refine ax_icmp_ge (off := 113) (tgt := 183) (by decide +kernel) (by decide) (fun h => ?_) (fun h => ?_)
    · exfalso; omega
    · exact wb_X3_cuts_B66 d w1 w3 w4 i  M _ kx hw_w1 hw_w3 hw_w4 (by omega)  (fun M9 hX => ih (i + 1)  M9 (by omega)  hX) hkx hX
def f_X3_cuts_B189 (w1 : Int) (w4 : Int) (M : ax_M) (i : Nat) (v5 : Int) (kc : Int → Prop × Int × ax_M) (kx : Int → Prop × Int × ax_M) : Prop × Int × ax_M := (if (i : Int) = w1 then kc (v5 + (f_X3_flag 0 M)) else (if (f_X3_valueOf 8 (i : Int) M) = (f_X3_valueOf 7 (i : Int) M) then kc (v5 + (f_X3_flag 0 M)) else kc (v5 + (f_X3_flag 1 M))))
def f_X3_cuts_L189 (w1 : Int) (w4 : Int) (M : ax_M) : Nat → Nat → Int → (Int → Prop × Int × ax_M) → Prop × Int × ax_M
  | 0, i, v5, kx => kx v5
  | n + 1, i, v5, kx => f_X3_cuts_B189 w1 w4 M i v5 (fun u5 => f_X3_cuts_L189 w1 w4 M n (i + 1) u5 kx) kx
set_option maxRecDepth 100000 in
set_option maxHeartbeats 4000000 in
theorem wb_X3_cuts_B189 (d : Nat) (w1 : Int) (w4 : Int) (M : ax_M) (i : Nat) (v5 : Int) (kc : Int → Prop × Int × ax_M) (kx : Int → Prop × Int × ax_M) (hw_w1 : 0 ≤ w1 ∧ w1 ≤ 23) (hw_w4 : 0 ≤ w4 ∧ w4 ≤ 400) (hi : 0 ≤ i ∧ i < 24) (hv5 : 0 ≤ v5 ∧ v5 ≤ 0 + 1 * ((i : Int) - 0)) (hkc : ∀ (u5 : Int), 0 ≤ u5 ∧ u5 ≤ 0 + 1 * (((i : Int) + 1) - 0) → (kc u5).1 → ax_W ax_LM gX3_cuts (d + 9) 189 [(0, (2, 3, 0)), (1, (0, 0, w1)), (4, (0, 0, w4)), (5, (0, 0, u5)), (6, (0, 0, ((i : Int) + 1)))] [] M ((ax_qm (-2147483648) 2147483647) (kc u5).2)) (hkx : ∀ (x5 : Int), ((0 ≤ x5 ∧ x5 ≤ 24)) → (kx x5).1 → ax_W ax_LM gX3_cuts (d + 9) 242 [(0, (2, 3, 0)), (1, (0, 0, w1)), (4, (0, 0, w4)), (5, (0, 0, x5))] [] M ((ax_qm (-2147483648) 2147483647) (kx x5).2)) (hX : (f_X3_cuts_B189 w1 w4 M i v5 kc kx).1) : ax_W ax_LM gX3_cuts (d + 9) 196 [(0, (2, 3, 0)), (1, (0, 0, w1)), (4, (0, 0, w4)), (5, (0, 0, v5)), (6, (0, 0, (i : Int)))] [] M ((ax_qm (-2147483648) 2147483647) (f_X3_cuts_B189 w1 w4 M i v5 kc kx).2) := by
  unfold f_X3_cuts_B189 at hX ⊢
  refine ax_lump ax_layM ok_kX3 [(196, .iload 5, 2, 0, 0, 0), (198, .iload 6, 2, 0, 0, 0), (200, .iload_n 1, 1, 0, 0, 0)] (pc' := 201) (lc' := [(0, (2, 3, 0)), (1, (0, 0, w1)), (4, (0, 0, w4)), (5, (0, 0, v5)), (6, (0, 0, (i : Int)))]) (st' := [(0, 0, w1), (0, 0, (i : Int)), (0, 0, v5)]) (M' := M) (C' := True) (by decide +kernel) rfl trivial ?_
  refine ax_jeq_s hX (off := 28) (tgt := 229) (by decide +kernel) (by decide) (fun h24 hX => ?_) (fun h24 hX => ?_)
  · refine ax_lump ax_layM ok_kX3 [(229, .iconst 0, 1, 0, 0, 0)] (pc' := 230) (lc' := [(0, (2, 3, 0)), (1, (0, 0, w1)), (4, (0, 0, w4)), (5, (0, 0, v5)), (6, (0, 0, (i : Int)))]) (st' := [(0, 0, 0), (0, 0, v5)]) (M' := M) (C' := True) (by decide +kernel) rfl trivial ?_
    refine ax_cSi (G1 := gX3_flag) (d1 := d + 0) (i := 44) (n := 1) (as := [(0, 0, 0)]) (st := [(0, 0, v5)]) (by decide +kernel) calX3_flag (by omega) rfl wt_904 wt_905 (Nat.le_of_ble_eq_true rfl) rfl (c_X3_flag d 0 M (by omega)) (fun hc25 => ?_)
    refine ax_lump ax_layM ok_kX3 [(233, .iadd, 1, 1, 0, 0), (234, .istore 5, 2, 0, 0, 0), (236, .iinc 6 1, 3, 1, 0, 0), (239, .goto (-50), 3, 189, 0, 0)] (pc' := 189) (lc' := [(6, (0, 0, ((i : Int) + 1))), (5, (0, 0, (v5 + (f_X3_flag 0 M)))), (0, (2, 3, 0)), (1, (0, 0, w1)), (4, (0, 0, w4))]) (st' := []) (M' := M) (C' := ((True ∧ ax_r32 (v5 + (f_X3_flag 0 M))) ∧ ax_r32 ((i : Int) + 1))) (by decide +kernel) rfl ⟨⟨trivial, ⟨by omega, by omega⟩⟩, ⟨by omega, by omega⟩⟩ ?_
    refine ax_pk [2,3,4,1,0] (lc' := [(0, (2, 3, 0)), (1, (0, 0, w1)), (4, (0, 0, w4)), (5, (0, 0, (v5 + (f_X3_flag 0 M)))), (6, (0, 0, ((i : Int) + 1)))]) rfl ?_
    exact hkc (v5 + (f_X3_flag 0 M)) (by omega) hX
  · refine ax_lump ax_layM ok_kX3 [(204, .aload_n 0, 1, 0, 0, 0), (205, .getfield 141, 3, 3, 15, 0), (208, .iload 6, 2, 0, 0, 0)] (pc' := 210) (lc' := [(0, (2, 3, 0)), (1, (0, 0, w1)), (4, (0, 0, w4)), (5, (0, 0, v5)), (6, (0, 0, (i : Int)))]) (st' := [(0, 0, (i : Int)), (3, 274, 8), (0, 0, v5)]) (M' := M) (C' := True) (by decide +kernel) rfl trivial ?_
    refine ax_cSi (G1 := gX3_valueOf) (d1 := d + 3) (i := 431) (n := 2) (as := [(3, 274, 8), (0, 0, (i : Int))]) (st := [(0, 0, v5)]) (by decide +kernel) calX3_valueOf (by omega) rfl wt_1413 wt_1414 (Nat.le_of_ble_eq_true rfl) rfl (c_X3_valueOf d 8 (i : Int) M) (fun hc26 => ?_)
    refine ax_lump ax_layM ok_kX3 [(213, .aload_n 0, 1, 0, 0, 0), (214, .getfield 138, 3, 3, 14, 0), (217, .iload 6, 2, 0, 0, 0)] (pc' := 219) (lc' := [(0, (2, 3, 0)), (1, (0, 0, w1)), (4, (0, 0, w4)), (5, (0, 0, v5)), (6, (0, 0, (i : Int)))]) (st' := [(0, 0, (i : Int)), (3, 274, 7), (0, 0, (f_X3_valueOf 8 (i : Int) M)), (0, 0, v5)]) (M' := M) (C' := True) (by decide +kernel) rfl trivial ?_
    refine ax_cSi (G1 := gX3_valueOf) (d1 := d + 3) (i := 431) (n := 2) (as := [(3, 274, 7), (0, 0, (i : Int))]) (st := [(0, 0, (f_X3_valueOf 8 (i : Int) M)), (0, 0, v5)]) (by decide +kernel) calX3_valueOf (by omega) rfl wt_1413 wt_1414 (Nat.le_of_ble_eq_true rfl) rfl (c_X3_valueOf d 7 (i : Int) M) (fun hc27 => ?_)
    refine ax_jeq_s hX (off := 7) (tgt := 229) (by decide +kernel) (by decide) (fun h28 hX => ?_) (fun h28 hX => ?_)
    · refine ax_lump ax_layM ok_kX3 [(229, .iconst 0, 1, 0, 0, 0)] (pc' := 230) (lc' := [(0, (2, 3, 0)), (1, (0, 0, w1)), (4, (0, 0, w4)), (5, (0, 0, v5)), (6, (0, 0, (i : Int)))]) (st' := [(0, 0, 0), (0, 0, v5)]) (M' := M) (C' := True) (by decide +kernel) rfl trivial ?_
      refine ax_cSi (G1 := gX3_flag) (d1 := d + 0) (i := 44) (n := 1) (as := [(0, 0, 0)]) (st := [(0, 0, v5)]) (by decide +kernel) calX3_flag (by omega) rfl wt_904 wt_905 (Nat.le_of_ble_eq_true rfl) rfl (c_X3_flag d 0 M (by omega)) (fun hc29 => ?_)
      refine ax_lump ax_layM ok_kX3 [(233, .iadd, 1, 1, 0, 0), (234, .istore 5, 2, 0, 0, 0), (236, .iinc 6 1, 3, 1, 0, 0), (239, .goto (-50), 3, 189, 0, 0)] (pc' := 189) (lc' := [(6, (0, 0, ((i : Int) + 1))), (5, (0, 0, (v5 + (f_X3_flag 0 M)))), (0, (2, 3, 0)), (1, (0, 0, w1)), (4, (0, 0, w4))]) (st' := []) (M' := M) (C' := ((True ∧ ax_r32 (v5 + (f_X3_flag 0 M))) ∧ ax_r32 ((i : Int) + 1))) (by decide +kernel) rfl ⟨⟨trivial, ⟨by omega, by omega⟩⟩, ⟨by omega, by omega⟩⟩ ?_
      refine ax_pk [2,3,4,1,0] (lc' := [(0, (2, 3, 0)), (1, (0, 0, w1)), (4, (0, 0, w4)), (5, (0, 0, (v5 + (f_X3_flag 0 M)))), (6, (0, 0, ((i : Int) + 1)))]) rfl ?_
      exact hkc (v5 + (f_X3_flag 0 M)) (by omega) hX
    · refine ax_lump ax_layM ok_kX3 [(225, .iconst 1, 1, 0, 0, 0), (226, .goto 4, 3, 230, 0, 0)] (pc' := 230) (lc' := [(0, (2, 3, 0)), (1, (0, 0, w1)), (4, (0, 0, w4)), (5, (0, 0, v5)), (6, (0, 0, (i : Int)))]) (st' := [(0, 0, 1), (0, 0, v5)]) (M' := M) (C' := True) (by decide +kernel) rfl trivial ?_
      refine ax_cSi (G1 := gX3_flag) (d1 := d + 0) (i := 44) (n := 1) (as := [(0, 0, 1)]) (st := [(0, 0, v5)]) (by decide +kernel) calX3_flag (by omega) rfl wt_904 wt_905 (Nat.le_of_ble_eq_true rfl) rfl (c_X3_flag d 1 M (by omega)) (fun hc30 => ?_)
      refine ax_lump ax_layM ok_kX3 [(233, .iadd, 1, 1, 0, 0), (234, .istore 5, 2, 0, 0, 0), (236, .iinc 6 1, 3, 1, 0, 0), (239, .goto (-50), 3, 189, 0, 0)] (pc' := 189) (lc' := [(6, (0, 0, ((i : Int) + 1))), (5, (0, 0, (v5 + (f_X3_flag 1 M)))), (0, (2, 3, 0)), (1, (0, 0, w1)), (4, (0, 0, w4))]) (st' := []) (M' := M) (C' := ((True ∧ ax_r32 (v5 + (f_X3_flag 1 M))) ∧ ax_r32 ((i : Int) + 1))) (by decide +kernel) rfl ⟨⟨trivial, ⟨by omega, by omega⟩⟩, ⟨by omega, by omega⟩⟩ ?_
      refine ax_pk [2,3,4,1,0] (lc' := [(0, (2, 3, 0)), (1, (0, 0, w1)), (4, (0, 0, w4)), (5, (0, 0, (v5 + (f_X3_flag 1 M)))), (6, (0, 0, ((i : Int) + 1)))]) rfl ?_
      exact hkc (v5 + (f_X3_flag 1 M)) (by omega) hX
set_option maxRecDepth 100000 in
set_option maxHeartbeats 4000000 in
theorem w_X3_cuts_L189 (d : Nat) (w1 : Int) (w4 : Int) (M : ax_M) (kx : Int → Prop × Int × ax_M) (hw_w1 : 0 ≤ w1 ∧ w1 ≤ 23) (hw_w4 : 0 ≤ w4 ∧ w4 ≤ 400) (hkx : ∀ (x5 : Int), ((0 ≤ x5 ∧ x5 ≤ 24)) → (kx x5).1 → ax_W ax_LM gX3_cuts (d + 9) 242 [(0, (2, 3, 0)), (1, (0, 0, w1)), (4, (0, 0, w4)), (5, (0, 0, x5))] [] M ((ax_qm (-2147483648) 2147483647) (kx x5).2)) : ∀ (n : Nat) (i : Nat) (v5 : Int), 0 ≤ i ∧ i + n = 24 → 0 ≤ v5 ∧ v5 ≤ 0 + 1 * ((i : Int) - 0) → (f_X3_cuts_L189 w1 w4 M n i v5 kx).1 → ax_W ax_LM gX3_cuts (d + 9) 189 [(0, (2, 3, 0)), (1, (0, 0, w1)), (4, (0, 0, w4)), (5, (0, 0, v5)), (6, (0, 0, (i : Int)))] [] M ((ax_qm (-2147483648) 2147483647) (f_X3_cuts_L189 w1 w4 M n i v5 kx).2) := by
  intro n
  induction n with
  | zero =>
    intro i v5 hin hv5 hX
    refine ax_lump ax_layM ok_kX3 [(189, .iload 6, 2, 0, 0, 0), (191, .bipush 24, 2, 0, 0, 0)] (pc' := 193) (lc' := [(0, (2, 3, 0)), (1, (0, 0, w1)), (4, (0, 0, w4)), (5, (0, 0, v5)), (6, (0, 0, (i : Int)))]) (st' := [(0, 0, 24), (0, 0, (i : Int))]) (M' := M) (C' := True) (by decide +kernel) rfl trivial ?_
    refine ax_icmp_ge (off := 49) (tgt := 242) (by decide +kernel) (by decide) (fun h => ?_) (fun h => ?_)
    · refine ax_pk [0,1,2,3] (lc' := [(0, (2, 3, 0)), (1, (0, 0, w1)), (4, (0, 0, w4)), (5, (0, 0, v5))]) rfl ?_
      exact hkx v5 (by omega) hX
    · exfalso; omega
  | succ n ih =>
    intro i v5 hin hv5 hX
    refine ax_lump ax_layM ok_kX3 [(189, .iload 6, 2, 0, 0, 0), (191, .bipush 24, 2, 0, 0, 0)] (pc' := 193) (lc' := [(0, (2, 3, 0)), (1, (0, 0, w1)), (4, (0, 0, w4)), (5, (0, 0, v5)), (6, (0, 0, (i : Int)))]) (st' := [(0, 0, 24), (0, 0, (i : Int))]) (M' := M) (C' := True) (by decide +kernel) rfl trivial ?_
    refine ax_icmp_ge (off := 49) (tgt := 242) (by decide +kernel) (by decide) (fun h => ?_) (fun h => ?_)
    · exfalso; omega
    · exact wb_X3_cuts_B189 d w1 w4 M i v5 _ kx hw_w1 hw_w4 (by omega) hv5 (fun u5 hu5 hX => ih (i + 1) u5 (by omega) (by omega) hX) hkx hX
def f_X3_cuts_J183 (j1 : Int) (j4 : Int) (M : ax_M) : Prop × Int × ax_M := f_X3_cuts_L189 j1 j4 M 24 0 0 (fun z31 => ax_bd (ax_up M 0 1 0) (fun M32 => ax_rc (f_X3_enters j4 M32) (fun M33 => ax_rc (f_X3_enters z31 M33) (fun M34 => (True, ((f_X3_valueOf 8 j1 M34), M34))))))
set_option maxRecDepth 100000 in
set_option maxHeartbeats 4000000 in
theorem w_X3_cuts_J183 (d : Nat) (j1 : Int) (j4 : Int) (M : ax_M) (hw_j1 : 0 ≤ j1 ∧ j1 ≤ 23) (hw_j4 : 0 ≤ j4 ∧ j4 ≤ 400) (hX : (f_X3_cuts_J183 j1 j4 M).1) : ax_W ax_LM gX3_cuts (d + 9) 183 [(0, (2, 3, 0)), (1, (0, 0, j1)), (4, (0, 0, j4))] [] M ((ax_qm (-2147483648) 2147483647) (f_X3_cuts_J183 j1 j4 M).2) := by
  unfold f_X3_cuts_J183 at hX ⊢
  refine ax_lump ax_layM ok_kX3 [(183, .iconst 0, 1, 0, 0, 0), (184, .istore 5, 2, 0, 0, 0), (186, .iconst 0, 1, 0, 0, 0), (187, .istore 6, 2, 0, 0, 0)] (pc' := 189) (lc' := [(6, (0, 0, 0)), (5, (0, 0, 0)), (0, (2, 3, 0)), (1, (0, 0, j1)), (4, (0, 0, j4))]) (st' := []) (M' := M) (C' := True) (by decide +kernel) rfl trivial ?_
  refine ax_pk [2,3,4,1,0] (lc' := [(0, (2, 3, 0)), (1, (0, 0, j1)), (4, (0, 0, j4)), (5, (0, 0, 0)), (6, (0, 0, 0))]) rfl ?_
  refine w_X3_cuts_L189 d j1 j4 M _ (by omega) (by omega) (fun z31 hx_31 hX => ?_) 24 0 0 (by omega) (by omega) hX
  refine ax_lump ax_layM ok_kX3 [(242, .aload_n 0, 1, 0, 0, 0), (243, .iconst 0, 1, 0, 0, 0), (244, .putfield 15, 3, 3, 1, 0)] (pc' := 247) (lc' := [(0, (2, 3, 0)), (1, (0, 0, j1)), (4, (0, 0, j4)), (5, (0, 0, z31))]) (st' := []) (M' := (ax_up M 0 1 0)) (C' := (True ∧ (0 ≤ 0 ∧ 0 < ((25 : Nat) : Int)))) (by decide +kernel) rfl ⟨trivial, by omega⟩ ?_
  refine ax_bdMe_s hX (fun M32 hM_M32 hX => ?_)
  refine ax_lump ax_layM ok_kX3 [(247, .aload_n 0, 1, 0, 0, 0), (248, .iload 4, 2, 0, 0, 0), (250, .i2l, 1, 0, 0, 0)] (pc' := 251) (lc' := [(0, (2, 3, 0)), (1, (0, 0, j1)), (4, (0, 0, j4)), (5, (0, 0, z31))]) (st' := [(1, 0, j4), (2, 3, 0)]) (M' := M32) (C' := True) (by decide +kernel) rfl trivial ?_
  refine ax_cVv_r hX (G1 := gX3_enters) (d1 := d + 0) (i := 345) (n := 1) (as := [(1, 0, j4)]) (st := []) (c := 3) (a := 0) (by decide +kernel) ax_cls3 calX3_enters (by omega) rfl wt_1256 wt_1258 ws_98 (Nat.le_of_ble_eq_true rfl) rfl (fun hY => c_X3_enters d j4 M32 hY) (fun M33 hX => ?_)
  refine ax_lump ax_layM ok_kX3 [(254, .aload_n 0, 1, 0, 0, 0), (255, .iload 5, 2, 0, 0, 0), (257, .i2l, 1, 0, 0, 0)] (pc' := 258) (lc' := [(0, (2, 3, 0)), (1, (0, 0, j1)), (4, (0, 0, j4)), (5, (0, 0, z31))]) (st' := [(1, 0, z31), (2, 3, 0)]) (M' := M33) (C' := True) (by decide +kernel) rfl trivial ?_
  refine ax_cVv_r hX (G1 := gX3_enters) (d1 := d + 0) (i := 345) (n := 1) (as := [(1, 0, z31)]) (st := []) (c := 3) (a := 0) (by decide +kernel) ax_cls3 calX3_enters (by omega) rfl wt_1256 wt_1258 ws_98 (Nat.le_of_ble_eq_true rfl) rfl (fun hY => c_X3_enters d z31 M33 hY) (fun M34 hX => ?_)
  refine ax_lump ax_layM ok_kX3 [(261, .aload_n 0, 1, 0, 0, 0), (262, .getfield 141, 3, 3, 15, 0), (265, .iload_n 1, 1, 0, 0, 0)] (pc' := 266) (lc' := [(0, (2, 3, 0)), (1, (0, 0, j1)), (4, (0, 0, j4)), (5, (0, 0, z31))]) (st' := [(0, 0, j1), (3, 274, 8)]) (M' := M34) (C' := True) (by decide +kernel) rfl trivial ?_
  refine ax_cSi (G1 := gX3_valueOf) (d1 := d + 3) (i := 431) (n := 2) (as := [(3, 274, 8), (0, 0, j1)]) (st := []) (by decide +kernel) calX3_valueOf (by omega) rfl wt_1413 wt_1414 (Nat.le_of_ble_eq_true rfl) rfl (c_X3_valueOf d 8 j1 M34) (fun hc35 => ?_)
  refine ax_rngS (fun hr => ?_)
  exact ax_iret (by decide +kernel) rfl ⟨rfl, rfl, hr.1, hr.2⟩
def f_X3_cuts (x1 : Int) (x2 : Int) (x3 : Int) (M : ax_M) : Prop × Int × ax_M := ax_bd (ax_up M 0 0 0) (fun M1 => (if (f_X3_isPage x1 M1) = 0 then (True, ((-1), M1)) else (if (f_X3_in x2 0 99 M1) = 0 then (True, ((-1), M1)) else (if (f_X3_in x3 0 99 M1) ≠ 0 then ax_bd (f_X3_copiesAll M1) (fun M8 => ax_rc (f_X3_writesOne 8 x1 x2 M8) (fun y9 => ax_bd (y9.2 0 20) (fun y11 => ax_bd (f_X3_copiesAll y9.2) (fun M12 => f_X3_cuts_L66 x1 x3 y11 (y11 - 0).toNat 0  M12 (fun M23 => f_X3_cuts_J183 x1 y11 M23))))) else (True, ((-1), M1))))))
set_option maxRecDepth 100000 in
set_option maxHeartbeats 4000000 in
theorem c_X3_cuts (d : Nat) (x1 : Int) (x2 : Int) (x3 : Int) (M : ax_M)  (hX : (f_X3_cuts x1 x2 x3 M).1) : ax_Met ax_LM gX3_cuts (d + 9) [(2, 3, 0), (0, 0, x1), (0, 0, x2), (0, 0, x3)] M ((ax_qm (-2147483648) 2147483647) (f_X3_cuts x1 x2 x3 M).2) := by
  refine ax_body (by decide) (fun X => Nat.le_of_ble_eq_true rfl) (fun hok => ?_)
  have hr_x1 : (-2147483648) ≤ x1 ∧ x1 ≤ 2147483647 := hok (0, 0, x1) (by simp)
  have hr_x2 : (-2147483648) ≤ x2 ∧ x2 ≤ 2147483647 := hok (0, 0, x2) (by simp)
  have hr_x3 : (-2147483648) ≤ x3 ∧ x3 ≤ 2147483647 := hok (0, 0, x3) (by simp)
  show ax_W ax_LM gX3_cuts (d + 9) 0 [(0, (2, 3, 0)), (1, (0, 0, x1)), (2, (0, 0, x2)), (3, (0, 0, x3))] [] M _
  unfold f_X3_cuts at hX ⊢
  refine ax_lump ax_layM ok_kX3 [(0, .aload_n 0, 1, 0, 0, 0), (1, .iconst 0, 1, 0, 0, 0), (2, .putfield 3, 3, 3, 0, 0)] (pc' := 5) (lc' := [(0, (2, 3, 0)), (1, (0, 0, x1)), (2, (0, 0, x2)), (3, (0, 0, x3))]) (st' := []) (M' := (ax_up M 0 0 0)) (C' := (True ∧ (0 ≤ 0 ∧ 0 < ((2 : Nat) : Int)))) (by decide +kernel) rfl ⟨trivial, by omega⟩ ?_
  refine ax_bdMe_s hX (fun M1 hM_M1 hX => ?_)
  refine ax_lump ax_layM ok_kX3 [(5, .iload_n 1, 1, 0, 0, 0)] (pc' := 6) (lc' := [(0, (2, 3, 0)), (1, (0, 0, x1)), (2, (0, 0, x2)), (3, (0, 0, x3))]) (st' := [(0, 0, x1)]) (M' := M1) (C' := True) (by decide +kernel) rfl trivial ?_
  refine ax_cSi (G1 := gX3_isPage) (d1 := d + 1) (i := 349) (n := 1) (as := [(0, 0, x1)]) (st := []) (by decide +kernel) calX3_isPage (by omega) rfl wt_1131 wt_1132 (Nat.le_of_ble_eq_true rfl) rfl (c_X3_isPage d x1 M1) (fun hc2 => ?_)
  refine ax_zeq_s hX (off := 27) (tgt := 36) (by decide +kernel) (by decide) (fun h3 hX => ?_) (fun h3 hX => ?_)
  · refine ax_lump ax_layM ok_kX3 [(36, .iconst (-1), 1, 0, 0, 0)] (pc' := 37) (lc' := [(0, (2, 3, 0)), (1, (0, 0, x1)), (2, (0, 0, x2)), (3, (0, 0, x3))]) (st' := [(0, 0, (-1))]) (M' := M1) (C' := True) (by decide +kernel) rfl trivial ?_
    refine ax_rngS (fun hr => ?_)
    exact ax_iret (by decide +kernel) rfl ⟨rfl, rfl, hr.1, hr.2⟩
  · have hgh3 := g_X3_isPage h3
    refine ax_lump ax_layM ok_kX3 [(12, .iload_n 2, 1, 0, 0, 0), (13, .i2l, 1, 0, 0, 0), (14, .lconst 0, 1, 0, 0, 0), (15, .ldc2_w 352, 3, 0, 0, 99)] (pc' := 18) (lc' := [(0, (2, 3, 0)), (1, (0, 0, x1)), (2, (0, 0, x2)), (3, (0, 0, x3))]) (st' := [(1, 0, 99), (1, 0, 0), (1, 0, x2)]) (M' := M1) (C' := True) (by decide +kernel) rfl trivial ?_
    refine ax_cSi (G1 := gX3_in) (d1 := d + 0) (i := 25) (n := 3) (as := [(1, 0, x2), (1, 0, 0), (1, 0, 99)]) (st := []) (by decide +kernel) calX3_in (by omega) rfl wt_875 wt_876 (Nat.le_of_ble_eq_true rfl) rfl (c_X3_in d x2 0 99 M1) (fun hc4 => ?_)
    refine ax_zeq_s hX (off := 15) (tgt := 36) (by decide +kernel) (by decide) (fun h5 hX => ?_) (fun h5 hX => ?_)
    · refine ax_lump ax_layM ok_kX3 [(36, .iconst (-1), 1, 0, 0, 0)] (pc' := 37) (lc' := [(0, (2, 3, 0)), (1, (0, 0, x1)), (2, (0, 0, x2)), (3, (0, 0, x3))]) (st' := [(0, 0, (-1))]) (M' := M1) (C' := True) (by decide +kernel) rfl trivial ?_
      refine ax_rngS (fun hr => ?_)
      exact ax_iret (by decide +kernel) rfl ⟨rfl, rfl, hr.1, hr.2⟩
    · have hgh5 := g_X3_in h5
      refine ax_lump ax_layM ok_kX3 [(24, .iload_n 3, 1, 0, 0, 0), (25, .i2l, 1, 0, 0, 0), (26, .lconst 0, 1, 0, 0, 0), (27, .ldc2_w 352, 3, 0, 0, 99)] (pc' := 30) (lc' := [(0, (2, 3, 0)), (1, (0, 0, x1)), (2, (0, 0, x2)), (3, (0, 0, x3))]) (st' := [(1, 0, 99), (1, 0, 0), (1, 0, x3)]) (M' := M1) (C' := True) (by decide +kernel) rfl trivial ?_
      refine ax_cSi (G1 := gX3_in) (d1 := d + 0) (i := 25) (n := 3) (as := [(1, 0, x3), (1, 0, 0), (1, 0, 99)]) (st := []) (by decide +kernel) calX3_in (by omega) rfl wt_875 wt_876 (Nat.le_of_ble_eq_true rfl) rfl (c_X3_in d x3 0 99 M1) (fun hc6 => ?_)
      refine ax_zne_s hX (off := 5) (tgt := 38) (by decide +kernel) (by decide) (fun h7 hX => ?_) (fun h7 hX => ?_)
      · have hgh7 := g_X3_in h7
        refine ax_lump ax_layM ok_kX3 [(38, .aload_n 0, 1, 0, 0, 0)] (pc' := 39) (lc' := [(0, (2, 3, 0)), (1, (0, 0, x1)), (2, (0, 0, x2)), (3, (0, 0, x3))]) (st' := [(2, 3, 0)]) (M' := M1) (C' := True) (by decide +kernel) rfl trivial ?_
        refine ax_cVv_s hX (G1 := gX3_copiesAll) (d1 := d + 1) (i := 421) (n := 0) (as := []) (st := []) (c := 3) (a := 0) (by decide +kernel) ax_cls3 calX3_copiesAll (by omega) rfl wt_1380 wt_1382 ws_112 (Nat.le_of_ble_eq_true rfl) rfl (c_X3_copiesAll d  M1) (fun M8 hX => ?_)
        refine ax_lump ax_layM ok_kX3 [(42, .aload_n 0, 1, 0, 0, 0), (43, .aload_n 0, 1, 0, 0, 0), (44, .getfield 141, 3, 3, 15, 0), (47, .iload_n 1, 1, 0, 0, 0), (48, .iload_n 2, 1, 0, 0, 0)] (pc' := 49) (lc' := [(0, (2, 3, 0)), (1, (0, 0, x1)), (2, (0, 0, x2)), (3, (0, 0, x3))]) (st' := [(0, 0, x2), (0, 0, x1), (3, 274, 8), (2, 3, 0)]) (M' := M8) (C' := True) (by decide +kernel) rfl trivial ?_
        refine ax_cVm_r hX (G1 := gX3_writesOne) (d1 := d + 8) (i := 361) (n := 3) (as := [(3, 274, 8), (0, 0, x1), (0, 0, x2)]) (st := []) (c := 3) (a := 0) (by decide +kernel) ax_cls3 calX3_writesOne (by omega) rfl wt_1144 wt_1146 ws_83 (Nat.le_of_ble_eq_true rfl) rfl (fun hY => c_X3_writesOne d 8 x1 x2 M8 (by omega) hY) (fun y9 h_y9 hX => ?_)
        refine ax_fact (i := 0) (c := 3) (f := 20) (hi := 400) (s := 0) (by simp) rfl rfl rfl (fun hf10 => ?_)
        have hf10 : 0 ≤ (y9.2 0 20) ∧ (y9.2 0 20) ≤ 400 := hf10
        refine ax_lump ax_layM ok_kX3 [(52, .pop, 1, 0, 0, 0), (53, .aload_n 0, 1, 0, 0, 0), (54, .getfield 203, 3, 3, 20, 0), (57, .istore 4, 2, 0, 0, 0)] (pc' := 59) (lc' := [(4, (0, 0, (y9.2 0 20))), (0, (2, 3, 0)), (1, (0, 0, x1)), (2, (0, 0, x2)), (3, (0, 0, x3))]) (st' := []) (M' := y9.2) (C' := True) (by decide +kernel) rfl trivial ?_
        refine ax_bdI_s hX (lo := 0) (hi := 400) (e := (y9.2 0 20)) (fun y11 => [(4, (0, 0, y11)), (0, (2, 3, 0)), (1, (0, 0, x1)), (2, (0, 0, x2)), (3, (0, 0, x3))]) (fun y11 => []) (by omega) (fun y11 h_y11 hX => ?_)
        refine ax_lump ax_layM ok_kX3 [(59, .aload_n 0, 1, 0, 0, 0)] (pc' := 60) (lc' := [(4, (0, 0, y11)), (0, (2, 3, 0)), (1, (0, 0, x1)), (2, (0, 0, x2)), (3, (0, 0, x3))]) (st' := [(2, 3, 0)]) (M' := y9.2) (C' := True) (by decide +kernel) rfl trivial ?_
        refine ax_cVv_s hX (G1 := gX3_copiesAll) (d1 := d + 1) (i := 421) (n := 0) (as := []) (st := []) (c := 3) (a := 0) (by decide +kernel) ax_cls3 calX3_copiesAll (by omega) rfl wt_1380 wt_1382 ws_112 (Nat.le_of_ble_eq_true rfl) rfl (c_X3_copiesAll d  y9.2) (fun M12 hX => ?_)
        refine ax_lump ax_layM ok_kX3 [(63, .iconst 0, 1, 0, 0, 0), (64, .istore 5, 2, 0, 0, 0)] (pc' := 66) (lc' := [(5, (0, 0, 0)), (4, (0, 0, y11)), (0, (2, 3, 0)), (1, (0, 0, x1)), (2, (0, 0, x2)), (3, (0, 0, x3))]) (st' := []) (M' := M12) (C' := True) (by decide +kernel) rfl trivial ?_
        refine ax_pk [2,3,5,1,0] (lc' := [(0, (2, 3, 0)), (1, (0, 0, x1)), (3, (0, 0, x3)), (4, (0, 0, y11)), (5, (0, 0, 0))]) rfl ?_
        refine w_X3_cuts_L66 d x1 x3 y11 _ (by omega) (by omega) (by omega) (fun M23 hx_23 hX => ?_) (y11 - 0).toNat 0  M12 (by omega)  hX
        exact w_X3_cuts_J183 d x1 y11 M23 (by omega) (by omega) hX
      · refine ax_lump ax_layM ok_kX3 [(36, .iconst (-1), 1, 0, 0, 0)] (pc' := 37) (lc' := [(0, (2, 3, 0)), (1, (0, 0, x1)), (2, (0, 0, x2)), (3, (0, 0, x3))]) (st' := [(0, 0, (-1))]) (M' := M1) (C' := True) (by decide +kernel) rfl trivial ?_
        refine ax_rngS (fun hr => ?_)
        exact ax_iret (by decide +kernel) rfl ⟨rfl, rfl, hr.1, hr.2⟩
def f_X3_fits  (M : ax_M) : Prop × Int × ax_M := ax_bd (ax_up M 0 0 0) (fun M1 => ax_bd (f_X3_fitting M1) (fun y3 => ax_bd (ax_up M1 0 1 0) (fun M4 => ax_rc (f_X3_enters (f_J_bitCount y3 M4) M4) (fun M6 => (True, (y3, M6))))))
set_option maxRecDepth 100000 in
set_option maxHeartbeats 4000000 in
theorem c_X3_fits (d : Nat)  (M : ax_M)  (hX : (f_X3_fits  M).1) : ax_Met ax_LM gX3_fits (d + 4) [(2, 3, 0)] M ((ax_qm (-2147483648) 2147483647) (f_X3_fits  M).2) := by
  refine ax_body (by decide) (fun X => Nat.le_of_ble_eq_true rfl) (fun hok => ?_)
  show ax_W ax_LM gX3_fits (d + 4) 0 [(0, (2, 3, 0))] [] M _
  unfold f_X3_fits at hX ⊢
  refine ax_lump ax_layM ok_kX3 [(0, .aload_n 0, 1, 0, 0, 0), (1, .iconst 0, 1, 0, 0, 0), (2, .putfield 3, 3, 3, 0, 0)] (pc' := 5) (lc' := [(0, (2, 3, 0))]) (st' := []) (M' := (ax_up M 0 0 0)) (C' := (True ∧ (0 ≤ 0 ∧ 0 < ((2 : Nat) : Int)))) (by decide +kernel) rfl ⟨trivial, by omega⟩ ?_
  refine ax_bdMe_s hX (fun M1 hM_M1 hX => ?_)
  refine ax_lump ax_layM ok_kX3 [(5, .aload_n 0, 1, 0, 0, 0)] (pc' := 6) (lc' := [(0, (2, 3, 0))]) (st' := [(2, 3, 0)]) (M' := M1) (C' := True) (by decide +kernel) rfl trivial ?_
  refine ax_cVi (G1 := gX3_fitting) (d1 := d + 3) (i := 450) (n := 0) (as := []) (st := []) (c := 3) (a := 0) (by decide +kernel) ax_cls3 calX3_fitting (by omega) rfl wt_1438 wt_1440 ws_113 (Nat.le_of_ble_eq_true rfl) rfl (c_X3_fitting d  M1) (fun hc2 => ?_)
  refine ax_lump ax_layM ok_kX3 [(9, .istore_n 1, 1, 0, 0, 0)] (pc' := 10) (lc' := [(1, (0, 0, (f_X3_fitting M1))), (0, (2, 3, 0))]) (st' := []) (M' := M1) (C' := True) (by decide +kernel) rfl trivial ?_
  refine ax_bdI0_s hX (e := (f_X3_fitting M1)) (fun y3 => [(1, (0, 0, y3)), (0, (2, 3, 0))]) (fun y3 => []) (fun y3 hX => ?_)
  refine ax_lump ax_layM ok_kX3 [(10, .aload_n 0, 1, 0, 0, 0), (11, .iconst 0, 1, 0, 0, 0), (12, .putfield 15, 3, 3, 1, 0)] (pc' := 15) (lc' := [(1, (0, 0, y3)), (0, (2, 3, 0))]) (st' := []) (M' := (ax_up M1 0 1 0)) (C' := (True ∧ (0 ≤ 0 ∧ 0 < ((25 : Nat) : Int)))) (by decide +kernel) rfl ⟨trivial, by omega⟩ ?_
  refine ax_bdMe_s hX (fun M4 hM_M4 hX => ?_)
  refine ax_lump ax_layM ok_kX3 [(15, .aload_n 0, 1, 0, 0, 0), (16, .iload_n 1, 1, 0, 0, 0)] (pc' := 17) (lc' := [(1, (0, 0, y3)), (0, (2, 3, 0))]) (st' := [(0, 0, y3), (2, 3, 0)]) (M' := M4) (C' := True) (by decide +kernel) rfl trivial ?_
  refine ax_cSi (G1 := gJ_bitCount) (d1 := d + 0) (i := 416) (n := 1) (as := [(0, 0, y3)]) (st := [(2, 3, 0)]) (by decide +kernel) calJ_bitCount (by omega) rfl wt_1363 wt_468 (Nat.le_of_ble_eq_true rfl) rfl (c_J_bitCount ax_LM ax_layM d y3 M4) (fun hc5 => ?_)
  refine ax_lump ax_layM ok_kX3 [(20, .i2l, 1, 0, 0, 0)] (pc' := 21) (lc' := [(1, (0, 0, y3)), (0, (2, 3, 0))]) (st' := [(1, 0, (f_J_bitCount y3 M4)), (2, 3, 0)]) (M' := M4) (C' := True) (by decide +kernel) rfl trivial ?_
  refine ax_cVv_r hX (G1 := gX3_enters) (d1 := d + 0) (i := 345) (n := 1) (as := [(1, 0, (f_J_bitCount y3 M4))]) (st := []) (c := 3) (a := 0) (by decide +kernel) ax_cls3 calX3_enters (by omega) rfl wt_1256 wt_1258 ws_98 (Nat.le_of_ble_eq_true rfl) rfl (fun hY => c_X3_enters d (f_J_bitCount y3 M4) M4 hY) (fun M6 hX => ?_)
  refine ax_lump ax_layM ok_kX3 [(24, .iload_n 1, 1, 0, 0, 0)] (pc' := 25) (lc' := [(1, (0, 0, y3)), (0, (2, 3, 0))]) (st' := [(0, 0, y3)]) (M' := M6) (C' := True) (by decide +kernel) rfl trivial ?_
  refine ax_rngS (fun hr => ?_)
  exact ax_iret (by decide +kernel) rfl ⟨rfl, rfl, hr.1, hr.2⟩
def f_X3_asks_B51 (w1 : Int) (w2 : Int) (w3 : Int) (w4 : Int) (w5 : Int) (M : ax_M) (i : Nat) (v6 : Int) (kc : Int → Prop × Int × ax_M) (kx : Int → Prop × Int × ax_M) : Prop × Int × ax_M := (if (f_X3_has w1 (i : Int) M) = 0 then kc (v6 + (f_X3_flag 0 M)) else (if (f_X3_isSo (i : Int) w4 w5 M) = 0 then kc (v6 + (f_X3_flag 0 M)) else kc (v6 + (f_X3_flag 1 M))))
def f_X3_asks_L51 (w1 : Int) (w2 : Int) (w3 : Int) (w4 : Int) (w5 : Int) (M : ax_M) : Nat → Nat → Int → (Int → Prop × Int × ax_M) → Prop × Int × ax_M
  | 0, i, v6, kx => kx v6
  | n + 1, i, v6, kx => f_X3_asks_B51 w1 w2 w3 w4 w5 M i v6 (fun u6 => f_X3_asks_L51 w1 w2 w3 w4 w5 M n (i + 1) u6 kx) kx
set_option maxRecDepth 100000 in
set_option maxHeartbeats 4000000 in
theorem wb_X3_asks_B51 (d : Nat) (w1 : Int) (w2 : Int) (w3 : Int) (w4 : Int) (w5 : Int) (M : ax_M) (i : Nat) (v6 : Int) (kc : Int → Prop × Int × ax_M) (kx : Int → Prop × Int × ax_M) (hw_w4 : 0 ≤ w4 ∧ w4 ≤ 3) (hi : 0 ≤ i ∧ i < 16) (hv6 : 0 ≤ v6 ∧ v6 ≤ 0 + 1 * ((i : Int) - 0)) (hkc : ∀ (u6 : Int), 0 ≤ u6 ∧ u6 ≤ 0 + 1 * (((i : Int) + 1) - 0) → (kc u6).1 → ax_W ax_LM gX3_asks (d + 4) 51 [(0, (2, 3, 0)), (1, (0, 0, w1)), (2, (0, 0, w2)), (3, (0, 0, w3)), (4, (0, 0, w4)), (5, (0, 0, w5)), (6, (0, 0, u6)), (7, (0, 0, ((i : Int) + 1)))] [] M ((ax_qm (-2147483648) 2147483647) (kc u6).2)) (hkx : ∀ (x6 : Int), ((0 ≤ x6 ∧ x6 ≤ 16)) → (kx x6).1 → ax_W ax_LM gX3_asks (d + 4) 99 [(0, (2, 3, 0)), (1, (0, 0, w1)), (2, (0, 0, w2)), (3, (0, 0, w3)), (4, (0, 0, w4)), (5, (0, 0, w5)), (6, (0, 0, x6))] [] M ((ax_qm (-2147483648) 2147483647) (kx x6).2)) (hX : (f_X3_asks_B51 w1 w2 w3 w4 w5 M i v6 kc kx).1) : ax_W ax_LM gX3_asks (d + 4) 58 [(0, (2, 3, 0)), (1, (0, 0, w1)), (2, (0, 0, w2)), (3, (0, 0, w3)), (4, (0, 0, w4)), (5, (0, 0, w5)), (6, (0, 0, v6)), (7, (0, 0, (i : Int)))] [] M ((ax_qm (-2147483648) 2147483647) (f_X3_asks_B51 w1 w2 w3 w4 w5 M i v6 kc kx).2) := by
  unfold f_X3_asks_B51 at hX ⊢
  refine ax_lump ax_layM ok_kX3 [(58, .iload 6, 2, 0, 0, 0), (60, .iload_n 1, 1, 0, 0, 0), (61, .iload 7, 2, 0, 0, 0)] (pc' := 63) (lc' := [(0, (2, 3, 0)), (1, (0, 0, w1)), (2, (0, 0, w2)), (3, (0, 0, w3)), (4, (0, 0, w4)), (5, (0, 0, w5)), (6, (0, 0, v6)), (7, (0, 0, (i : Int)))]) (st' := [(0, 0, (i : Int)), (0, 0, w1), (0, 0, v6)]) (M' := M) (C' := True) (by decide +kernel) rfl trivial ?_
  refine ax_cSi (G1 := gX3_has) (d1 := d + 0) (i := 254) (n := 2) (as := [(0, 0, w1), (0, 0, (i : Int))]) (st := [(0, 0, v6)]) (by decide +kernel) calX3_has (by omega) rfl wt_1219 wt_1220 (Nat.le_of_ble_eq_true rfl) rfl (c_X3_has d w1 (i : Int) M) (fun hc7 => ?_)
  refine ax_zeq_s hX (off := 20) (tgt := 86) (by decide +kernel) (by decide) (fun h8 hX => ?_) (fun h8 hX => ?_)
  · refine ax_lump ax_layM ok_kX3 [(86, .iconst 0, 1, 0, 0, 0)] (pc' := 87) (lc' := [(0, (2, 3, 0)), (1, (0, 0, w1)), (2, (0, 0, w2)), (3, (0, 0, w3)), (4, (0, 0, w4)), (5, (0, 0, w5)), (6, (0, 0, v6)), (7, (0, 0, (i : Int)))]) (st' := [(0, 0, 0), (0, 0, v6)]) (M' := M) (C' := True) (by decide +kernel) rfl trivial ?_
    refine ax_cSi (G1 := gX3_flag) (d1 := d + 0) (i := 44) (n := 1) (as := [(0, 0, 0)]) (st := [(0, 0, v6)]) (by decide +kernel) calX3_flag (by omega) rfl wt_904 wt_905 (Nat.le_of_ble_eq_true rfl) rfl (c_X3_flag d 0 M (by omega)) (fun hc9 => ?_)
    refine ax_lump ax_layM ok_kX3 [(90, .iadd, 1, 1, 0, 0), (91, .istore 6, 2, 0, 0, 0), (93, .iinc 7 1, 3, 1, 0, 0), (96, .goto (-45), 3, 51, 0, 0)] (pc' := 51) (lc' := [(7, (0, 0, ((i : Int) + 1))), (6, (0, 0, (v6 + (f_X3_flag 0 M)))), (0, (2, 3, 0)), (1, (0, 0, w1)), (2, (0, 0, w2)), (3, (0, 0, w3)), (4, (0, 0, w4)), (5, (0, 0, w5))]) (st' := []) (M' := M) (C' := ((True ∧ ax_r32 (v6 + (f_X3_flag 0 M))) ∧ ax_r32 ((i : Int) + 1))) (by decide +kernel) rfl ⟨⟨trivial, ⟨by omega, by omega⟩⟩, ⟨by omega, by omega⟩⟩ ?_
    refine ax_pk [2,3,4,5,6,7,1,0] (lc' := [(0, (2, 3, 0)), (1, (0, 0, w1)), (2, (0, 0, w2)), (3, (0, 0, w3)), (4, (0, 0, w4)), (5, (0, 0, w5)), (6, (0, 0, (v6 + (f_X3_flag 0 M)))), (7, (0, 0, ((i : Int) + 1)))]) rfl ?_
    exact hkc (v6 + (f_X3_flag 0 M)) (by omega) hX
  · refine ax_lump ax_layM ok_kX3 [(69, .aload_n 0, 1, 0, 0, 0), (70, .iload 7, 2, 0, 0, 0), (72, .iload 4, 2, 0, 0, 0), (74, .iload 5, 2, 0, 0, 0)] (pc' := 76) (lc' := [(0, (2, 3, 0)), (1, (0, 0, w1)), (2, (0, 0, w2)), (3, (0, 0, w3)), (4, (0, 0, w4)), (5, (0, 0, w5)), (6, (0, 0, v6)), (7, (0, 0, (i : Int)))]) (st' := [(0, 0, w5), (0, 0, w4), (0, 0, (i : Int)), (2, 3, 0), (0, 0, v6)]) (M' := M) (C' := True) (by decide +kernel) rfl trivial ?_
    refine ax_cVi (G1 := gX3_isSo) (d1 := d + 2) (i := 446) (n := 3) (as := [(0, 0, (i : Int)), (0, 0, w4), (0, 0, w5)]) (st := [(0, 0, v6)]) (c := 3) (a := 0) (by decide +kernel) ax_cls3 calX3_isSo (by omega) rfl wt_1442 wt_1444 ws_114 (Nat.le_of_ble_eq_true rfl) rfl (c_X3_isSo d (i : Int) w4 w5 M (by omega)) (fun hc10 => ?_)
    refine ax_zeq_s hX (off := 7) (tgt := 86) (by decide +kernel) (by decide) (fun h11 hX => ?_) (fun h11 hX => ?_)
    · refine ax_lump ax_layM ok_kX3 [(86, .iconst 0, 1, 0, 0, 0)] (pc' := 87) (lc' := [(0, (2, 3, 0)), (1, (0, 0, w1)), (2, (0, 0, w2)), (3, (0, 0, w3)), (4, (0, 0, w4)), (5, (0, 0, w5)), (6, (0, 0, v6)), (7, (0, 0, (i : Int)))]) (st' := [(0, 0, 0), (0, 0, v6)]) (M' := M) (C' := True) (by decide +kernel) rfl trivial ?_
      refine ax_cSi (G1 := gX3_flag) (d1 := d + 0) (i := 44) (n := 1) (as := [(0, 0, 0)]) (st := [(0, 0, v6)]) (by decide +kernel) calX3_flag (by omega) rfl wt_904 wt_905 (Nat.le_of_ble_eq_true rfl) rfl (c_X3_flag d 0 M (by omega)) (fun hc12 => ?_)
      refine ax_lump ax_layM ok_kX3 [(90, .iadd, 1, 1, 0, 0), (91, .istore 6, 2, 0, 0, 0), (93, .iinc 7 1, 3, 1, 0, 0), (96, .goto (-45), 3, 51, 0, 0)] (pc' := 51) (lc' := [(7, (0, 0, ((i : Int) + 1))), (6, (0, 0, (v6 + (f_X3_flag 0 M)))), (0, (2, 3, 0)), (1, (0, 0, w1)), (2, (0, 0, w2)), (3, (0, 0, w3)), (4, (0, 0, w4)), (5, (0, 0, w5))]) (st' := []) (M' := M) (C' := ((True ∧ ax_r32 (v6 + (f_X3_flag 0 M))) ∧ ax_r32 ((i : Int) + 1))) (by decide +kernel) rfl ⟨⟨trivial, ⟨by omega, by omega⟩⟩, ⟨by omega, by omega⟩⟩ ?_
      refine ax_pk [2,3,4,5,6,7,1,0] (lc' := [(0, (2, 3, 0)), (1, (0, 0, w1)), (2, (0, 0, w2)), (3, (0, 0, w3)), (4, (0, 0, w4)), (5, (0, 0, w5)), (6, (0, 0, (v6 + (f_X3_flag 0 M)))), (7, (0, 0, ((i : Int) + 1)))]) rfl ?_
      exact hkc (v6 + (f_X3_flag 0 M)) (by omega) hX
    · refine ax_lump ax_layM ok_kX3 [(82, .iconst 1, 1, 0, 0, 0), (83, .goto 4, 3, 87, 0, 0)] (pc' := 87) (lc' := [(0, (2, 3, 0)), (1, (0, 0, w1)), (2, (0, 0, w2)), (3, (0, 0, w3)), (4, (0, 0, w4)), (5, (0, 0, w5)), (6, (0, 0, v6)), (7, (0, 0, (i : Int)))]) (st' := [(0, 0, 1), (0, 0, v6)]) (M' := M) (C' := True) (by decide +kernel) rfl trivial ?_
      refine ax_cSi (G1 := gX3_flag) (d1 := d + 0) (i := 44) (n := 1) (as := [(0, 0, 1)]) (st := [(0, 0, v6)]) (by decide +kernel) calX3_flag (by omega) rfl wt_904 wt_905 (Nat.le_of_ble_eq_true rfl) rfl (c_X3_flag d 1 M (by omega)) (fun hc13 => ?_)
      refine ax_lump ax_layM ok_kX3 [(90, .iadd, 1, 1, 0, 0), (91, .istore 6, 2, 0, 0, 0), (93, .iinc 7 1, 3, 1, 0, 0), (96, .goto (-45), 3, 51, 0, 0)] (pc' := 51) (lc' := [(7, (0, 0, ((i : Int) + 1))), (6, (0, 0, (v6 + (f_X3_flag 1 M)))), (0, (2, 3, 0)), (1, (0, 0, w1)), (2, (0, 0, w2)), (3, (0, 0, w3)), (4, (0, 0, w4)), (5, (0, 0, w5))]) (st' := []) (M' := M) (C' := ((True ∧ ax_r32 (v6 + (f_X3_flag 1 M))) ∧ ax_r32 ((i : Int) + 1))) (by decide +kernel) rfl ⟨⟨trivial, ⟨by omega, by omega⟩⟩, ⟨by omega, by omega⟩⟩ ?_
      refine ax_pk [2,3,4,5,6,7,1,0] (lc' := [(0, (2, 3, 0)), (1, (0, 0, w1)), (2, (0, 0, w2)), (3, (0, 0, w3)), (4, (0, 0, w4)), (5, (0, 0, w5)), (6, (0, 0, (v6 + (f_X3_flag 1 M)))), (7, (0, 0, ((i : Int) + 1)))]) rfl ?_
      exact hkc (v6 + (f_X3_flag 1 M)) (by omega) hX
set_option maxRecDepth 100000 in
set_option maxHeartbeats 4000000 in
theorem w_X3_asks_L51 (d : Nat) (w1 : Int) (w2 : Int) (w3 : Int) (w4 : Int) (w5 : Int) (M : ax_M) (kx : Int → Prop × Int × ax_M) (hw_w4 : 0 ≤ w4 ∧ w4 ≤ 3) (hkx : ∀ (x6 : Int), ((0 ≤ x6 ∧ x6 ≤ 16)) → (kx x6).1 → ax_W ax_LM gX3_asks (d + 4) 99 [(0, (2, 3, 0)), (1, (0, 0, w1)), (2, (0, 0, w2)), (3, (0, 0, w3)), (4, (0, 0, w4)), (5, (0, 0, w5)), (6, (0, 0, x6))] [] M ((ax_qm (-2147483648) 2147483647) (kx x6).2)) : ∀ (n : Nat) (i : Nat) (v6 : Int), 0 ≤ i ∧ i + n = 16 → 0 ≤ v6 ∧ v6 ≤ 0 + 1 * ((i : Int) - 0) → (f_X3_asks_L51 w1 w2 w3 w4 w5 M n i v6 kx).1 → ax_W ax_LM gX3_asks (d + 4) 51 [(0, (2, 3, 0)), (1, (0, 0, w1)), (2, (0, 0, w2)), (3, (0, 0, w3)), (4, (0, 0, w4)), (5, (0, 0, w5)), (6, (0, 0, v6)), (7, (0, 0, (i : Int)))] [] M ((ax_qm (-2147483648) 2147483647) (f_X3_asks_L51 w1 w2 w3 w4 w5 M n i v6 kx).2) := by
  intro n
  induction n with
  | zero =>
    intro i v6 hin hv6 hX
    refine ax_lump ax_layM ok_kX3 [(51, .iload 7, 2, 0, 0, 0), (53, .bipush 16, 2, 0, 0, 0)] (pc' := 55) (lc' := [(0, (2, 3, 0)), (1, (0, 0, w1)), (2, (0, 0, w2)), (3, (0, 0, w3)), (4, (0, 0, w4)), (5, (0, 0, w5)), (6, (0, 0, v6)), (7, (0, 0, (i : Int)))]) (st' := [(0, 0, 16), (0, 0, (i : Int))]) (M' := M) (C' := True) (by decide +kernel) rfl trivial ?_
    refine ax_icmp_ge (off := 44) (tgt := 99) (by decide +kernel) (by decide) (fun h => ?_) (fun h => ?_)
    · refine ax_pk [0,1,2,3,4,5,6] (lc' := [(0, (2, 3, 0)), (1, (0, 0, w1)), (2, (0, 0, w2)), (3, (0, 0, w3)), (4, (0, 0, w4)), (5, (0, 0, w5)), (6, (0, 0, v6))]) rfl ?_
      exact hkx v6 (by omega) hX
    · exfalso; omega
  | succ n ih =>
    intro i v6 hin hv6 hX
    refine ax_lump ax_layM ok_kX3 [(51, .iload 7, 2, 0, 0, 0), (53, .bipush 16, 2, 0, 0, 0)] (pc' := 55) (lc' := [(0, (2, 3, 0)), (1, (0, 0, w1)), (2, (0, 0, w2)), (3, (0, 0, w3)), (4, (0, 0, w4)), (5, (0, 0, w5)), (6, (0, 0, v6)), (7, (0, 0, (i : Int)))]) (st' := [(0, 0, 16), (0, 0, (i : Int))]) (M' := M) (C' := True) (by decide +kernel) rfl trivial ?_
    refine ax_icmp_ge (off := 44) (tgt := 99) (by decide +kernel) (by decide) (fun h => ?_) (fun h => ?_)
    · exfalso; omega
    · exact wb_X3_asks_B51 d w1 w2 w3 w4 w5 M i v6 _ kx hw_w4 (by omega) hv6 (fun u6 hu6 hX => ih (i + 1) u6 (by omega) (by omega) hX) hkx hX
def f_X3_asks_B35 (w1 : Int) (w4 : Int) (M : ax_M) (v2 : Int) (v3 : Int) (v5 : Int) (kc : Int → Int → Int → Prop × Int × ax_M) (kx : Int → Int → Prop × Int × ax_M) : Prop × Int × ax_M := (if (f_X3_highest w4 M) < v5 then kx v2 v3 else f_X3_asks_L51 w1 v2 v3 w4 v5 M 16 0 0 (fun z14 => ax_bd (if z14 < (ax_wr ((f_J_bitCount w1 M) - z14)) then (ax_wr ((f_J_bitCount w1 M) - z14)) else z14) (fun y16 => (if v3 ≤ y16 then ax_bd (if y16 < v3 then y16 else v3) (fun y18 => kc v2 y18 (v5 + 1)) else ax_bd ((10 * w4) + v5) (fun y21 => ax_bd (if y16 < v3 then y16 else v3) (fun y22 => kc y21 y22 (v5 + 1)))))))
def f_X3_asks_L35 (w1 : Int) (w4 : Int) (M : ax_M) : Nat → Int → Int → Int → (Int → Int → Prop × Int × ax_M) → Prop × Int × ax_M
  | 0, _, _, _, _ => (False, (0, fun _ _ => 0))
  | n + 1, v2, v3, v5, kx => f_X3_asks_B35 w1 w4 M v2 v3 v5 (fun u2 u3 u5 => f_X3_asks_L35 w1 w4 M n  u2 u3 u5 kx) kx
set_option maxRecDepth 100000 in
set_option maxHeartbeats 4000000 in
theorem wb_X3_asks_B35 (d : Nat) (w1 : Int) (w4 : Int) (M : ax_M) (v2 : Int) (v3 : Int) (v5 : Int) (kc : Int → Int → Int → Prop × Int × ax_M) (kx : Int → Int → Prop × Int × ax_M) (hw_w4 : 0 ≤ w4 ∧ w4 ≤ 3)   (hkc : ∀ (u2 : Int) (u3 : Int) (u5 : Int), (kc u2 u3 u5).1 → ax_W ax_LM gX3_asks (d + 4) 35 [(0, (2, 3, 0)), (1, (0, 0, w1)), (2, (0, 0, u2)), (3, (0, 0, u3)), (4, (0, 0, w4)), (5, (0, 0, u5))] [] M ((ax_qm (-2147483648) 2147483647) (kc u2 u3 u5).2)) (hkx : ∀ (x2 : Int) (x3 : Int), (True) → (kx x2 x3).1 → ax_W ax_LM gX3_asks (d + 4) 145 [(0, (2, 3, 0)), (1, (0, 0, w1)), (2, (0, 0, x2)), (3, (0, 0, x3)), (4, (0, 0, w4))] [] M ((ax_qm (-2147483648) 2147483647) (kx x2 x3).2)) (hX : (f_X3_asks_B35 w1 w4 M v2 v3 v5 kc kx).1) : ax_W ax_LM gX3_asks (d + 4) 35 [(0, (2, 3, 0)), (1, (0, 0, w1)), (2, (0, 0, v2)), (3, (0, 0, v3)), (4, (0, 0, w4)), (5, (0, 0, v5))] [] M ((ax_qm (-2147483648) 2147483647) (f_X3_asks_B35 w1 w4 M v2 v3 v5 kc kx).2) := by
  unfold f_X3_asks_B35 at hX ⊢
  refine ax_lump ax_layM ok_kX3 [(35, .iload 5, 2, 0, 0, 0), (37, .iload 4, 2, 0, 0, 0)] (pc' := 39) (lc' := [(0, (2, 3, 0)), (1, (0, 0, w1)), (2, (0, 0, v2)), (3, (0, 0, v3)), (4, (0, 0, w4)), (5, (0, 0, v5))]) (st' := [(0, 0, w4), (0, 0, v5)]) (M' := M) (C' := True) (by decide +kernel) rfl trivial ?_
  refine ax_cSi (G1 := gX3_highest) (d1 := d + 0) (i := 434) (n := 1) (as := [(0, 0, w4)]) (st := [(0, 0, v5)]) (by decide +kernel) calX3_highest (by omega) rfl wt_1427 wt_1428 (Nat.le_of_ble_eq_true rfl) rfl (c_X3_highest d w4 M) (fun hc5 => ?_)
  refine ax_jgt_s hX (off := 103) (tgt := 145) (by decide +kernel) (by decide) (fun h6 hX => ?_) (fun h6 hX => ?_)
  · refine ax_pk [0,1,2,3,4] (lc' := [(0, (2, 3, 0)), (1, (0, 0, w1)), (2, (0, 0, v2)), (3, (0, 0, v3)), (4, (0, 0, w4))]) rfl ?_
    exact hkx v2 v3 trivial hX
  · refine ax_lump ax_layM ok_kX3 [(45, .iconst 0, 1, 0, 0, 0), (46, .istore 6, 2, 0, 0, 0), (48, .iconst 0, 1, 0, 0, 0), (49, .istore 7, 2, 0, 0, 0)] (pc' := 51) (lc' := [(7, (0, 0, 0)), (6, (0, 0, 0)), (0, (2, 3, 0)), (1, (0, 0, w1)), (2, (0, 0, v2)), (3, (0, 0, v3)), (4, (0, 0, w4)), (5, (0, 0, v5))]) (st' := []) (M' := M) (C' := True) (by decide +kernel) rfl trivial ?_
    refine ax_pk [2,3,4,5,6,7,1,0] (lc' := [(0, (2, 3, 0)), (1, (0, 0, w1)), (2, (0, 0, v2)), (3, (0, 0, v3)), (4, (0, 0, w4)), (5, (0, 0, v5)), (6, (0, 0, 0)), (7, (0, 0, 0))]) rfl ?_
    refine w_X3_asks_L51 d w1 v2 v3 w4 v5 M _ (by omega) (fun z14 hx_14 hX => ?_) 16 0 0 (by omega) (by omega) hX
    refine ax_lump ax_layM ok_kX3 [(99, .iload 6, 2, 0, 0, 0), (101, .iload_n 1, 1, 0, 0, 0)] (pc' := 102) (lc' := [(0, (2, 3, 0)), (1, (0, 0, w1)), (2, (0, 0, v2)), (3, (0, 0, v3)), (4, (0, 0, w4)), (5, (0, 0, v5)), (6, (0, 0, z14))]) (st' := [(0, 0, w1), (0, 0, z14)]) (M' := M) (C' := True) (by decide +kernel) rfl trivial ?_
    refine ax_cSi (G1 := gJ_bitCount) (d1 := d + 0) (i := 416) (n := 1) (as := [(0, 0, w1)]) (st := [(0, 0, z14)]) (by decide +kernel) calJ_bitCount (by omega) rfl wt_1363 wt_468 (Nat.le_of_ble_eq_true rfl) rfl (c_J_bitCount ax_LM ax_layM d w1 M) (fun hc15 => ?_)
    refine ax_lump ax_layM ok_kX3 [(105, .iload 6, 2, 0, 0, 0), (107, .isub, 1, 0, 0, 0)] (pc' := 108) (lc' := [(0, (2, 3, 0)), (1, (0, 0, w1)), (2, (0, 0, v2)), (3, (0, 0, v3)), (4, (0, 0, w4)), (5, (0, 0, v5)), (6, (0, 0, z14))]) (st' := [(0, 0, (ax_wr ((f_J_bitCount w1 M) - z14))), (0, 0, z14)]) (M' := M) (C' := True) (by decide +kernel) rfl trivial ?_
    refine ax_mmax (i := 333) (by decide +kernel) (by omega) (Nat.le_of_ble_eq_true rfl) wt_1123 wt_263 wt_8 wt_264 ?_
    refine ax_lump ax_layM ok_kX3 [(111, .istore 7, 2, 0, 0, 0)] (pc' := 113) (lc' := [(7, (0, 0, (if z14 < (ax_wr ((f_J_bitCount w1 M) - z14)) then (ax_wr ((f_J_bitCount w1 M) - z14)) else z14))), (0, (2, 3, 0)), (1, (0, 0, w1)), (2, (0, 0, v2)), (3, (0, 0, v3)), (4, (0, 0, w4)), (5, (0, 0, v5)), (6, (0, 0, z14))]) (st' := []) (M' := M) (C' := True) (by decide +kernel) rfl trivial ?_
    refine ax_bdI0_s hX (e := (if z14 < (ax_wr ((f_J_bitCount w1 M) - z14)) then (ax_wr ((f_J_bitCount w1 M) - z14)) else z14)) (fun y16 => [(7, (0, 0, y16)), (0, (2, 3, 0)), (1, (0, 0, w1)), (2, (0, 0, v2)), (3, (0, 0, v3)), (4, (0, 0, w4)), (5, (0, 0, v5)), (6, (0, 0, z14))]) (fun y16 => []) (fun y16 hX => ?_)
    refine ax_lump ax_layM ok_kX3 [(113, .iload 7, 2, 0, 0, 0), (115, .iload_n 3, 1, 0, 0, 0)] (pc' := 116) (lc' := [(7, (0, 0, y16)), (0, (2, 3, 0)), (1, (0, 0, w1)), (2, (0, 0, v2)), (3, (0, 0, v3)), (4, (0, 0, w4)), (5, (0, 0, v5)), (6, (0, 0, z14))]) (st' := [(0, 0, v3), (0, 0, y16)]) (M' := M) (C' := True) (by decide +kernel) rfl trivial ?_
    refine ax_jge_s hX (off := 14) (tgt := 130) (by decide +kernel) (by decide) (fun h17 hX => ?_) (fun h17 hX => ?_)
    · refine ax_lump ax_layM ok_kX3 [(130, .iload_n 2, 1, 0, 0, 0), (131, .istore_n 2, 1, 0, 0, 0), (132, .iload_n 3, 1, 0, 0, 0), (133, .iload 7, 2, 0, 0, 0)] (pc' := 135) (lc' := [(2, (0, 0, v2)), (7, (0, 0, y16)), (0, (2, 3, 0)), (1, (0, 0, w1)), (3, (0, 0, v3)), (4, (0, 0, w4)), (5, (0, 0, v5)), (6, (0, 0, z14))]) (st' := [(0, 0, y16), (0, 0, v3)]) (M' := M) (C' := True) (by decide +kernel) rfl trivial ?_
      refine ax_mmin (i := 35) (by decide +kernel) (by omega) (Nat.le_of_ble_eq_true rfl) wt_891 wt_266 wt_8 wt_267 ?_
      refine ax_lump ax_layM ok_kX3 [(138, .istore_n 3, 1, 0, 0, 0)] (pc' := 139) (lc' := [(3, (0, 0, (if y16 < v3 then y16 else v3))), (2, (0, 0, v2)), (7, (0, 0, y16)), (0, (2, 3, 0)), (1, (0, 0, w1)), (4, (0, 0, w4)), (5, (0, 0, v5)), (6, (0, 0, z14))]) (st' := []) (M' := M) (C' := True) (by decide +kernel) rfl trivial ?_
      refine ax_bdI0_s hX (e := (if y16 < v3 then y16 else v3)) (fun y18 => [(3, (0, 0, y18)), (2, (0, 0, v2)), (7, (0, 0, y16)), (0, (2, 3, 0)), (1, (0, 0, w1)), (4, (0, 0, w4)), (5, (0, 0, v5)), (6, (0, 0, z14))]) (fun y18 => []) (fun y18 hX => ?_)
      refine ax_rngL (i := 5) (u := 0) (n := v5) (by simp) (fun hq19 => ?_)
      have hq19 : (-2147483648) ≤ v5 ∧ v5 ≤ 2147483647 := hq19
      refine ax_lump ax_layM ok_kX3 [(139, .iinc 5 1, 3, 1, 0, 0), (142, .goto (-107), 3, 35, 0, 0)] (pc' := 35) (lc' := [(5, (0, 0, (v5 + 1))), (3, (0, 0, y18)), (2, (0, 0, v2)), (7, (0, 0, y16)), (0, (2, 3, 0)), (1, (0, 0, w1)), (4, (0, 0, w4)), (6, (0, 0, z14))]) (st' := []) (M' := M) (C' := (True ∧ ax_r32 (v5 + 1))) (by decide +kernel) rfl ⟨trivial, ⟨by omega, by omega⟩⟩ ?_
      refine ax_pk [4,5,2,1,6,0] (lc' := [(0, (2, 3, 0)), (1, (0, 0, w1)), (2, (0, 0, v2)), (3, (0, 0, y18)), (4, (0, 0, w4)), (5, (0, 0, (v5 + 1)))]) rfl ?_
      exact hkc v2 y18 (v5 + 1)  hX
    · refine ax_rngL (i := 5) (u := 0) (n := v5) (by simp) (fun hq20 => ?_)
      have hq20 : (-2147483648) ≤ v5 ∧ v5 ≤ 2147483647 := hq20
      refine ax_lump ax_layM ok_kX3 [(119, .bipush 10, 2, 0, 0, 0), (121, .iload 4, 2, 0, 0, 0), (123, .imul, 1, 1, 0, 0), (124, .iload 5, 2, 0, 0, 0), (126, .iadd, 1, 1, 0, 0), (127, .goto 4, 3, 131, 0, 0), (131, .istore_n 2, 1, 0, 0, 0)] (pc' := 132) (lc' := [(2, (0, 0, ((10 * w4) + v5))), (7, (0, 0, y16)), (0, (2, 3, 0)), (1, (0, 0, w1)), (3, (0, 0, v3)), (4, (0, 0, w4)), (5, (0, 0, v5)), (6, (0, 0, z14))]) (st' := []) (M' := M) (C' := ((True ∧ ax_r32 (10 * w4)) ∧ ax_r32 ((10 * w4) + v5))) (by decide +kernel) rfl ⟨⟨trivial, ⟨by omega, by omega⟩⟩, ⟨by omega, by omega⟩⟩ ?_
      refine ax_bdI0_s hX (e := ((10 * w4) + v5)) (fun y21 => [(2, (0, 0, y21)), (7, (0, 0, y16)), (0, (2, 3, 0)), (1, (0, 0, w1)), (3, (0, 0, v3)), (4, (0, 0, w4)), (5, (0, 0, v5)), (6, (0, 0, z14))]) (fun y21 => []) (fun y21 hX => ?_)
      refine ax_lump ax_layM ok_kX3 [(132, .iload_n 3, 1, 0, 0, 0), (133, .iload 7, 2, 0, 0, 0)] (pc' := 135) (lc' := [(2, (0, 0, y21)), (7, (0, 0, y16)), (0, (2, 3, 0)), (1, (0, 0, w1)), (3, (0, 0, v3)), (4, (0, 0, w4)), (5, (0, 0, v5)), (6, (0, 0, z14))]) (st' := [(0, 0, y16), (0, 0, v3)]) (M' := M) (C' := True) (by decide +kernel) rfl trivial ?_
      refine ax_mmin (i := 35) (by decide +kernel) (by omega) (Nat.le_of_ble_eq_true rfl) wt_891 wt_266 wt_8 wt_267 ?_
      refine ax_lump ax_layM ok_kX3 [(138, .istore_n 3, 1, 0, 0, 0)] (pc' := 139) (lc' := [(3, (0, 0, (if y16 < v3 then y16 else v3))), (2, (0, 0, y21)), (7, (0, 0, y16)), (0, (2, 3, 0)), (1, (0, 0, w1)), (4, (0, 0, w4)), (5, (0, 0, v5)), (6, (0, 0, z14))]) (st' := []) (M' := M) (C' := True) (by decide +kernel) rfl trivial ?_
      refine ax_bdI0_s hX (e := (if y16 < v3 then y16 else v3)) (fun y22 => [(3, (0, 0, y22)), (2, (0, 0, y21)), (7, (0, 0, y16)), (0, (2, 3, 0)), (1, (0, 0, w1)), (4, (0, 0, w4)), (5, (0, 0, v5)), (6, (0, 0, z14))]) (fun y22 => []) (fun y22 hX => ?_)
      refine ax_lump ax_layM ok_kX3 [(139, .iinc 5 1, 3, 1, 0, 0), (142, .goto (-107), 3, 35, 0, 0)] (pc' := 35) (lc' := [(5, (0, 0, (v5 + 1))), (3, (0, 0, y22)), (2, (0, 0, y21)), (7, (0, 0, y16)), (0, (2, 3, 0)), (1, (0, 0, w1)), (4, (0, 0, w4)), (6, (0, 0, z14))]) (st' := []) (M' := M) (C' := (True ∧ ax_r32 (v5 + 1))) (by decide +kernel) rfl ⟨trivial, ⟨by omega, by omega⟩⟩ ?_
      refine ax_pk [4,5,2,1,6,0] (lc' := [(0, (2, 3, 0)), (1, (0, 0, w1)), (2, (0, 0, y21)), (3, (0, 0, y22)), (4, (0, 0, w4)), (5, (0, 0, (v5 + 1)))]) rfl ?_
      exact hkc y21 y22 (v5 + 1)  hX
set_option maxRecDepth 100000 in
set_option maxHeartbeats 4000000 in
theorem w_X3_asks_L35 (d : Nat) (w1 : Int) (w4 : Int) (M : ax_M) (kx : Int → Int → Prop × Int × ax_M) (hw_w4 : 0 ≤ w4 ∧ w4 ≤ 3) (hkx : ∀ (x2 : Int) (x3 : Int), (True) → (kx x2 x3).1 → ax_W ax_LM gX3_asks (d + 4) 145 [(0, (2, 3, 0)), (1, (0, 0, w1)), (2, (0, 0, x2)), (3, (0, 0, x3)), (4, (0, 0, w4))] [] M ((ax_qm (-2147483648) 2147483647) (kx x2 x3).2)) : ∀ (n : Nat) (v2 : Int) (v3 : Int) (v5 : Int), (f_X3_asks_L35 w1 w4 M n v2 v3 v5 kx).1 → ax_W ax_LM gX3_asks (d + 4) 35 [(0, (2, 3, 0)), (1, (0, 0, w1)), (2, (0, 0, v2)), (3, (0, 0, v3)), (4, (0, 0, w4)), (5, (0, 0, v5))] [] M ((ax_qm (-2147483648) 2147483647) (f_X3_asks_L35 w1 w4 M n v2 v3 v5 kx).2) := by
  intro n
  induction n with
  | zero =>
    intro v2 v3 v5 hX
    exact False.elim hX
  | succ n ih =>
    intro v2 v3 v5 hX
    exact wb_X3_asks_B35 d w1 w4 M v2 v3 v5 _ kx hw_w4   (fun u2 u3 u5 hX => ih u2 u3 u5   hX) hkx hX
def f_X3_asks_B26 (w1 : Int) (M : ax_M) (i : Nat) (v2 : Int) (v3 : Int) (kc : Int → Int → Prop × Int × ax_M) (kx : Int → Int → Prop × Int × ax_M) : Prop × Int × ax_M := f_X3_asks_L35 w1 (i : Int) M 100  v2 v3 0 (fun z23 z24 => kc z23 z24)
def f_X3_asks_L26 (w1 : Int) (M : ax_M) : Nat → Nat → Int → Int → (Int → Int → Prop × Int × ax_M) → Prop × Int × ax_M
  | 0, i, v2, v3, kx => kx v2 v3
  | n + 1, i, v2, v3, kx => f_X3_asks_B26 w1 M i v2 v3 (fun u2 u3 => f_X3_asks_L26 w1 M n (i + 1) u2 u3 kx) kx
set_option maxRecDepth 100000 in
set_option maxHeartbeats 4000000 in
theorem wb_X3_asks_B26 (d : Nat) (w1 : Int) (M : ax_M) (i : Nat) (v2 : Int) (v3 : Int) (kc : Int → Int → Prop × Int × ax_M) (kx : Int → Int → Prop × Int × ax_M)  (hi : 0 ≤ i ∧ i < 4)  (hkc : ∀ (u2 : Int) (u3 : Int), (kc u2 u3).1 → ax_W ax_LM gX3_asks (d + 4) 26 [(0, (2, 3, 0)), (1, (0, 0, w1)), (2, (0, 0, u2)), (3, (0, 0, u3)), (4, (0, 0, ((i : Int) + 1)))] [] M ((ax_qm (-2147483648) 2147483647) (kc u2 u3).2)) (hkx : ∀ (x2 : Int) (x3 : Int), (True) → (kx x2 x3).1 → ax_W ax_LM gX3_asks (d + 4) 151 [(0, (2, 3, 0)), (2, (0, 0, x2)), (3, (0, 0, x3))] [] M ((ax_qm (-2147483648) 2147483647) (kx x2 x3).2)) (hX : (f_X3_asks_B26 w1 M i v2 v3 kc kx).1) : ax_W ax_LM gX3_asks (d + 4) 32 [(0, (2, 3, 0)), (1, (0, 0, w1)), (2, (0, 0, v2)), (3, (0, 0, v3)), (4, (0, 0, (i : Int)))] [] M ((ax_qm (-2147483648) 2147483647) (f_X3_asks_B26 w1 M i v2 v3 kc kx).2) := by
  unfold f_X3_asks_B26 at hX ⊢
  refine ax_lump ax_layM ok_kX3 [(32, .iconst 0, 1, 0, 0, 0), (33, .istore 5, 2, 0, 0, 0)] (pc' := 35) (lc' := [(5, (0, 0, 0)), (0, (2, 3, 0)), (1, (0, 0, w1)), (2, (0, 0, v2)), (3, (0, 0, v3)), (4, (0, 0, (i : Int)))]) (st' := []) (M' := M) (C' := True) (by decide +kernel) rfl trivial ?_
  refine ax_pk [1,2,3,4,5,0] (lc' := [(0, (2, 3, 0)), (1, (0, 0, w1)), (2, (0, 0, v2)), (3, (0, 0, v3)), (4, (0, 0, (i : Int))), (5, (0, 0, 0))]) rfl ?_
  refine w_X3_asks_L35 d w1 (i : Int) M _ (by omega) (fun z23 z24 hx_24 hX => ?_) 100  v2 v3 0   hX
  refine ax_lump ax_layM ok_kX3 [(145, .iinc 4 1, 3, 1, 0, 0), (148, .goto (-122), 3, 26, 0, 0)] (pc' := 26) (lc' := [(4, (0, 0, ((i : Int) + 1))), (0, (2, 3, 0)), (1, (0, 0, w1)), (2, (0, 0, z23)), (3, (0, 0, z24))]) (st' := []) (M' := M) (C' := (True ∧ ax_r32 ((i : Int) + 1))) (by decide +kernel) rfl ⟨trivial, ⟨by omega, by omega⟩⟩ ?_
  refine ax_pk [1,2,3,4,0] (lc' := [(0, (2, 3, 0)), (1, (0, 0, w1)), (2, (0, 0, z23)), (3, (0, 0, z24)), (4, (0, 0, ((i : Int) + 1)))]) rfl ?_
  exact hkc z23 z24  hX
set_option maxRecDepth 100000 in
set_option maxHeartbeats 4000000 in
theorem w_X3_asks_L26 (d : Nat) (w1 : Int) (M : ax_M) (kx : Int → Int → Prop × Int × ax_M)  (hkx : ∀ (x2 : Int) (x3 : Int), (True) → (kx x2 x3).1 → ax_W ax_LM gX3_asks (d + 4) 151 [(0, (2, 3, 0)), (2, (0, 0, x2)), (3, (0, 0, x3))] [] M ((ax_qm (-2147483648) 2147483647) (kx x2 x3).2)) : ∀ (n : Nat) (i : Nat) (v2 : Int) (v3 : Int), 0 ≤ i ∧ i + n = 4 → (f_X3_asks_L26 w1 M n i v2 v3 kx).1 → ax_W ax_LM gX3_asks (d + 4) 26 [(0, (2, 3, 0)), (1, (0, 0, w1)), (2, (0, 0, v2)), (3, (0, 0, v3)), (4, (0, 0, (i : Int)))] [] M ((ax_qm (-2147483648) 2147483647) (f_X3_asks_L26 w1 M n i v2 v3 kx).2) := by
  intro n
  induction n with
  | zero =>
    intro i v2 v3 hin hX
    refine ax_lump ax_layM ok_kX3 [(26, .iload 4, 2, 0, 0, 0), (28, .iconst 4, 1, 0, 0, 0)] (pc' := 29) (lc' := [(0, (2, 3, 0)), (1, (0, 0, w1)), (2, (0, 0, v2)), (3, (0, 0, v3)), (4, (0, 0, (i : Int)))]) (st' := [(0, 0, 4), (0, 0, (i : Int))]) (M' := M) (C' := True) (by decide +kernel) rfl trivial ?_
    refine ax_icmp_ge (off := 122) (tgt := 151) (by decide +kernel) (by decide) (fun h => ?_) (fun h => ?_)
    · refine ax_pk [0,2,3] (lc' := [(0, (2, 3, 0)), (2, (0, 0, v2)), (3, (0, 0, v3))]) rfl ?_
      exact hkx v2 v3 trivial hX
    · exfalso; omega
  | succ n ih =>
    intro i v2 v3 hin hX
    refine ax_lump ax_layM ok_kX3 [(26, .iload 4, 2, 0, 0, 0), (28, .iconst 4, 1, 0, 0, 0)] (pc' := 29) (lc' := [(0, (2, 3, 0)), (1, (0, 0, w1)), (2, (0, 0, v2)), (3, (0, 0, v3)), (4, (0, 0, (i : Int)))]) (st' := [(0, 0, 4), (0, 0, (i : Int))]) (M' := M) (C' := True) (by decide +kernel) rfl trivial ?_
    refine ax_icmp_ge (off := 122) (tgt := 151) (by decide +kernel) (by decide) (fun h => ?_) (fun h => ?_)
    · exfalso; omega
    · exact wb_X3_asks_B26 d w1 M i v2 v3 _ kx  (by omega)  (fun u2 u3 hX => ih (i + 1) u2 u3 (by omega)  hX) hkx hX
def f_X3_asks  (M : ax_M) : Prop × Int × ax_M := ax_bd (ax_up M 0 0 0) (fun M1 => ax_bd (f_X3_fitting M1) (fun y3 => (if y3 ≠ 0 then f_X3_asks_L26 y3 M1 4 0 (-1) 1000000 (fun z25 z26 => ax_bd (ax_up M1 0 1 0) (fun M27 => ax_rc (f_X3_enters z26 M27) (fun M28 => (True, (z25, M28))))) else (True, ((-2), M1)))))
set_option maxRecDepth 100000 in
set_option maxHeartbeats 4000000 in
theorem c_X3_asks (d : Nat)  (M : ax_M)  (hX : (f_X3_asks  M).1) : ax_Met ax_LM gX3_asks (d + 4) [(2, 3, 0)] M ((ax_qm (-2147483648) 2147483647) (f_X3_asks  M).2) := by
  refine ax_body (by decide) (fun X => Nat.le_of_ble_eq_true rfl) (fun hok => ?_)
  show ax_W ax_LM gX3_asks (d + 4) 0 [(0, (2, 3, 0))] [] M _
  unfold f_X3_asks at hX ⊢
  refine ax_lump ax_layM ok_kX3 [(0, .aload_n 0, 1, 0, 0, 0), (1, .iconst 0, 1, 0, 0, 0), (2, .putfield 3, 3, 3, 0, 0)] (pc' := 5) (lc' := [(0, (2, 3, 0))]) (st' := []) (M' := (ax_up M 0 0 0)) (C' := (True ∧ (0 ≤ 0 ∧ 0 < ((2 : Nat) : Int)))) (by decide +kernel) rfl ⟨trivial, by omega⟩ ?_
  refine ax_bdMe_s hX (fun M1 hM_M1 hX => ?_)
  refine ax_lump ax_layM ok_kX3 [(5, .aload_n 0, 1, 0, 0, 0)] (pc' := 6) (lc' := [(0, (2, 3, 0))]) (st' := [(2, 3, 0)]) (M' := M1) (C' := True) (by decide +kernel) rfl trivial ?_
  refine ax_cVi (G1 := gX3_fitting) (d1 := d + 3) (i := 450) (n := 0) (as := []) (st := []) (c := 3) (a := 0) (by decide +kernel) ax_cls3 calX3_fitting (by omega) rfl wt_1438 wt_1440 ws_113 (Nat.le_of_ble_eq_true rfl) rfl (c_X3_fitting d  M1) (fun hc2 => ?_)
  refine ax_lump ax_layM ok_kX3 [(9, .istore_n 1, 1, 0, 0, 0)] (pc' := 10) (lc' := [(1, (0, 0, (f_X3_fitting M1))), (0, (2, 3, 0))]) (st' := []) (M' := M1) (C' := True) (by decide +kernel) rfl trivial ?_
  refine ax_bdI0_s hX (e := (f_X3_fitting M1)) (fun y3 => [(1, (0, 0, y3)), (0, (2, 3, 0))]) (fun y3 => []) (fun y3 hX => ?_)
  refine ax_lump ax_layM ok_kX3 [(10, .iload_n 1, 1, 0, 0, 0)] (pc' := 11) (lc' := [(1, (0, 0, y3)), (0, (2, 3, 0))]) (st' := [(0, 0, y3)]) (M' := M1) (C' := True) (by decide +kernel) rfl trivial ?_
  refine ax_zne_s hX (off := 6) (tgt := 17) (by decide +kernel) (by decide) (fun h4 hX => ?_) (fun h4 hX => ?_)
  · refine ax_lump ax_layM ok_kX3 [(17, .iconst (-1), 1, 0, 0, 0), (18, .istore_n 2, 1, 0, 0, 0), (19, .ldc_w 453, 3, 0, 0, 1000000), (22, .istore_n 3, 1, 0, 0, 0), (23, .iconst 0, 1, 0, 0, 0), (24, .istore 4, 2, 0, 0, 0)] (pc' := 26) (lc' := [(4, (0, 0, 0)), (3, (0, 0, 1000000)), (2, (0, 0, (-1))), (1, (0, 0, y3)), (0, (2, 3, 0))]) (st' := []) (M' := M1) (C' := True) (by decide +kernel) rfl trivial ?_
    refine ax_pk [4,3,2,1,0] (lc' := [(0, (2, 3, 0)), (1, (0, 0, y3)), (2, (0, 0, (-1))), (3, (0, 0, 1000000)), (4, (0, 0, 0))]) rfl ?_
    refine w_X3_asks_L26 d y3 M1 _  (fun z25 z26 hx_26 hX => ?_) 4 0 (-1) 1000000 (by omega)  hX
    refine ax_lump ax_layM ok_kX3 [(151, .aload_n 0, 1, 0, 0, 0), (152, .iconst 0, 1, 0, 0, 0), (153, .putfield 15, 3, 3, 1, 0)] (pc' := 156) (lc' := [(0, (2, 3, 0)), (2, (0, 0, z25)), (3, (0, 0, z26))]) (st' := []) (M' := (ax_up M1 0 1 0)) (C' := (True ∧ (0 ≤ 0 ∧ 0 < ((25 : Nat) : Int)))) (by decide +kernel) rfl ⟨trivial, by omega⟩ ?_
    refine ax_bdMe_s hX (fun M27 hM_M27 hX => ?_)
    refine ax_lump ax_layM ok_kX3 [(156, .aload_n 0, 1, 0, 0, 0), (157, .iload_n 3, 1, 0, 0, 0), (158, .i2l, 1, 0, 0, 0)] (pc' := 159) (lc' := [(0, (2, 3, 0)), (2, (0, 0, z25)), (3, (0, 0, z26))]) (st' := [(1, 0, z26), (2, 3, 0)]) (M' := M27) (C' := True) (by decide +kernel) rfl trivial ?_
    refine ax_cVv_r hX (G1 := gX3_enters) (d1 := d + 0) (i := 345) (n := 1) (as := [(1, 0, z26)]) (st := []) (c := 3) (a := 0) (by decide +kernel) ax_cls3 calX3_enters (by omega) rfl wt_1256 wt_1258 ws_98 (Nat.le_of_ble_eq_true rfl) rfl (fun hY => c_X3_enters d z26 M27 hY) (fun M28 hX => ?_)
    refine ax_lump ax_layM ok_kX3 [(162, .iload_n 2, 1, 0, 0, 0)] (pc' := 163) (lc' := [(0, (2, 3, 0)), (2, (0, 0, z25)), (3, (0, 0, z26))]) (st' := [(0, 0, z25)]) (M' := M28) (C' := True) (by decide +kernel) rfl trivial ?_
    refine ax_rngS (fun hr => ?_)
    exact ax_iret (by decide +kernel) rfl ⟨rfl, rfl, hr.1, hr.2⟩
  · refine ax_lump ax_layM ok_kX3 [(14, .bipush (-2), 2, 0, 0, 0)] (pc' := 16) (lc' := [(1, (0, 0, y3)), (0, (2, 3, 0))]) (st' := [(0, 0, (-2))]) (M' := M1) (C' := True) (by decide +kernel) rfl trivial ?_
    refine ax_rngS (fun hr => ?_)
    exact ax_iret (by decide +kernel) rfl ⟨rfl, rfl, hr.1, hr.2⟩
def f_X3_drawnWrites_B11 (w2 : Int) (i : Int)  (M : ax_M) (kc : ax_M → Prop × ax_M) (kx : ax_M → Prop × ax_M) : Prop × ax_M := ax_bd (f_X3_draws 4 M) (fun y3 => (if 3 ≤ y3.1 then ax_bd (f_X3_draws 4 y3.2) (fun y5 => ax_bd (f_X3_draws 100 y5.2) (fun y6 => ax_rq ((0 ≤ y5.1 ∧ y5.1 ≤ 23)) (ax_rc (f_X3_writesOne 8 y5.1 y6.1 y6.2) (fun y8 => kc y8.2)))) else ax_bd (f_X3_draws 24 y3.2) (fun y9 => ax_bd (f_X3_draws 100 y9.2) (fun y10 => ax_rq ((0 ≤ y9.1 ∧ y9.1 ≤ 23)) (ax_rc (f_X3_writesOne 8 y9.1 y10.1 y10.2) (fun y12 => kc y12.2))))))
def f_X3_drawnWrites_L11 (w2 : Int) : Nat → Int → ax_M → (ax_M → Prop × ax_M) → Prop × ax_M
  | 0, i, M, kx => kx M
  | n + 1, i, M, kx => f_X3_drawnWrites_B11 w2 i  M (fun M9 => f_X3_drawnWrites_L11 w2 n (i + 1) M9 kx) kx
set_option maxRecDepth 100000 in
set_option maxHeartbeats 4000000 in
theorem wb_X3_drawnWrites_B11 (d : Nat) (w2 : Int) (i : Int)  (M : ax_M) (kc : ax_M → Prop × ax_M) (kx : ax_M → Prop × ax_M) (hw_w2 : 1 ≤ w2 ∧ w2 ≤ 60) (hi : 0 ≤ i ∧ i < w2)  (hkc : ∀ (M9 : ax_M), (kc M9).1 → ax_W ax_LM gX3_drawnWrites (d + 9) 11 [(0, (2, 3, 0)), (2, (0, 0, w2)), (3, (0, 0, (i + 1)))] [] M9 (ax_qv (kc M9).2)) (hkx : ∀ (M9 : ax_M), (True) → (kx M9).1 → ax_W ax_LM gX3_drawnWrites (d + 9) 64 [] [] M9 (ax_qv (kx M9).2)) (hX : (f_X3_drawnWrites_B11 w2 i  M kc kx).1) : ax_W ax_LM gX3_drawnWrites (d + 9) 16 [(0, (2, 3, 0)), (2, (0, 0, w2)), (3, (0, 0, i))] [] M (ax_qv (f_X3_drawnWrites_B11 w2 i  M kc kx).2) := by
  unfold f_X3_drawnWrites_B11 at hX ⊢
  refine ax_lump ax_layM ok_kX3 [(16, .aload_n 0, 1, 0, 0, 0), (17, .iconst 4, 1, 0, 0, 0)] (pc' := 18) (lc' := [(0, (2, 3, 0)), (2, (0, 0, w2)), (3, (0, 0, i))]) (st' := [(0, 0, 4), (2, 3, 0)]) (M' := M) (C' := True) (by decide +kernel) rfl trivial ?_
  refine ax_cVm_s hX (G1 := gX3_draws) (d1 := d + 0) (i := 458) (n := 1) (as := [(0, 0, 4)]) (st := []) (c := 3) (a := 0) (by decide +kernel) ax_cls3 calX3_draws (by omega) rfl wt_1467 wt_1469 ws_118 (Nat.le_of_ble_eq_true rfl) rfl (c_X3_draws d 4 M (by omega)) (fun y3 h_y3 hX => ?_)
  refine ax_lump ax_layM ok_kX3 [(21, .iconst 3, 1, 0, 0, 0)] (pc' := 22) (lc' := [(0, (2, 3, 0)), (2, (0, 0, w2)), (3, (0, 0, i))]) (st' := [(0, 0, 3), (0, 0, y3.1)]) (M' := y3.2) (C' := True) (by decide +kernel) rfl trivial ?_
  refine ax_jge_s hX (off := 12) (tgt := 34) (by decide +kernel) (by decide) (fun h4 hX => ?_) (fun h4 hX => ?_)
  · refine ax_lump ax_layM ok_kX3 [(34, .aload_n 0, 1, 0, 0, 0), (35, .iconst 4, 1, 0, 0, 0)] (pc' := 36) (lc' := [(0, (2, 3, 0)), (2, (0, 0, w2)), (3, (0, 0, i))]) (st' := [(0, 0, 4), (2, 3, 0)]) (M' := y3.2) (C' := True) (by decide +kernel) rfl trivial ?_
    refine ax_cVm_s hX (G1 := gX3_draws) (d1 := d + 0) (i := 458) (n := 1) (as := [(0, 0, 4)]) (st := []) (c := 3) (a := 0) (by decide +kernel) ax_cls3 calX3_draws (by omega) rfl wt_1467 wt_1469 ws_118 (Nat.le_of_ble_eq_true rfl) rfl (c_X3_draws d 4 y3.2 (by omega)) (fun y5 h_y5 hX => ?_)
    refine ax_lump ax_layM ok_kX3 [(39, .istore 4, 2, 0, 0, 0), (41, .aload_n 0, 1, 0, 0, 0), (42, .aload_n 0, 1, 0, 0, 0), (43, .getfield 141, 3, 3, 15, 0), (46, .iload 4, 2, 0, 0, 0), (48, .aload_n 0, 1, 0, 0, 0), (49, .bipush 100, 2, 0, 0, 0)] (pc' := 51) (lc' := [(4, (0, 0, y5.1)), (0, (2, 3, 0)), (2, (0, 0, w2)), (3, (0, 0, i))]) (st' := [(0, 0, 100), (2, 3, 0), (0, 0, y5.1), (3, 274, 8), (2, 3, 0)]) (M' := y5.2) (C' := True) (by decide +kernel) rfl trivial ?_
    refine ax_cVm_s hX (G1 := gX3_draws) (d1 := d + 0) (i := 458) (n := 1) (as := [(0, 0, 100)]) (st := [(0, 0, y5.1), (3, 274, 8), (2, 3, 0)]) (c := 3) (a := 0) (by decide +kernel) ax_cls3 calX3_draws (by omega) rfl wt_1467 wt_1469 ws_118 (Nat.le_of_ble_eq_true rfl) rfl (c_X3_draws d 100 y5.2 (by omega)) (fun y6 h_y6 hX => ?_)
    refine ax_rq_s hX (fun hS7 hX => ?_)
    refine ax_cVm_r hX (G1 := gX3_writesOne) (d1 := d + 8) (i := 361) (n := 3) (as := [(3, 274, 8), (0, 0, y5.1), (0, 0, y6.1)]) (st := []) (c := 3) (a := 0) (by decide +kernel) ax_cls3 calX3_writesOne (by omega) rfl wt_1144 wt_1146 ws_83 (Nat.le_of_ble_eq_true rfl) rfl (fun hY => c_X3_writesOne d 8 y5.1 y6.1 y6.2 (hS7) hY) (fun y8 h_y8 hX => ?_)
    refine ax_lump ax_layM ok_kX3 [(57, .pop, 1, 0, 0, 0), (58, .iinc 3 1, 3, 1, 0, 0), (61, .goto (-50), 3, 11, 0, 0)] (pc' := 11) (lc' := [(3, (0, 0, (i + 1))), (4, (0, 0, y5.1)), (0, (2, 3, 0)), (2, (0, 0, w2))]) (st' := []) (M' := y8.2) (C' := (True ∧ ax_r32 (i + 1))) (by decide +kernel) rfl ⟨trivial, ⟨by omega, by omega⟩⟩ ?_
    refine ax_pk [2,3,0] (lc' := [(0, (2, 3, 0)), (2, (0, 0, w2)), (3, (0, 0, (i + 1)))]) rfl ?_
    exact hkc y8.2  hX
  · refine ax_lump ax_layM ok_kX3 [(25, .aload_n 0, 1, 0, 0, 0), (26, .bipush 24, 2, 0, 0, 0)] (pc' := 28) (lc' := [(0, (2, 3, 0)), (2, (0, 0, w2)), (3, (0, 0, i))]) (st' := [(0, 0, 24), (2, 3, 0)]) (M' := y3.2) (C' := True) (by decide +kernel) rfl trivial ?_
    refine ax_cVm_s hX (G1 := gX3_draws) (d1 := d + 0) (i := 458) (n := 1) (as := [(0, 0, 24)]) (st := []) (c := 3) (a := 0) (by decide +kernel) ax_cls3 calX3_draws (by omega) rfl wt_1467 wt_1469 ws_118 (Nat.le_of_ble_eq_true rfl) rfl (c_X3_draws d 24 y3.2 (by omega)) (fun y9 h_y9 hX => ?_)
    refine ax_lump ax_layM ok_kX3 [(31, .goto 8, 3, 39, 0, 0), (39, .istore 4, 2, 0, 0, 0), (41, .aload_n 0, 1, 0, 0, 0), (42, .aload_n 0, 1, 0, 0, 0), (43, .getfield 141, 3, 3, 15, 0), (46, .iload 4, 2, 0, 0, 0), (48, .aload_n 0, 1, 0, 0, 0), (49, .bipush 100, 2, 0, 0, 0)] (pc' := 51) (lc' := [(4, (0, 0, y9.1)), (0, (2, 3, 0)), (2, (0, 0, w2)), (3, (0, 0, i))]) (st' := [(0, 0, 100), (2, 3, 0), (0, 0, y9.1), (3, 274, 8), (2, 3, 0)]) (M' := y9.2) (C' := True) (by decide +kernel) rfl trivial ?_
    refine ax_cVm_s hX (G1 := gX3_draws) (d1 := d + 0) (i := 458) (n := 1) (as := [(0, 0, 100)]) (st := [(0, 0, y9.1), (3, 274, 8), (2, 3, 0)]) (c := 3) (a := 0) (by decide +kernel) ax_cls3 calX3_draws (by omega) rfl wt_1467 wt_1469 ws_118 (Nat.le_of_ble_eq_true rfl) rfl (c_X3_draws d 100 y9.2 (by omega)) (fun y10 h_y10 hX => ?_)
    refine ax_rq_s hX (fun hS11 hX => ?_)
    refine ax_cVm_r hX (G1 := gX3_writesOne) (d1 := d + 8) (i := 361) (n := 3) (as := [(3, 274, 8), (0, 0, y9.1), (0, 0, y10.1)]) (st := []) (c := 3) (a := 0) (by decide +kernel) ax_cls3 calX3_writesOne (by omega) rfl wt_1144 wt_1146 ws_83 (Nat.le_of_ble_eq_true rfl) rfl (fun hY => c_X3_writesOne d 8 y9.1 y10.1 y10.2 (hS11) hY) (fun y12 h_y12 hX => ?_)
    refine ax_lump ax_layM ok_kX3 [(57, .pop, 1, 0, 0, 0), (58, .iinc 3 1, 3, 1, 0, 0), (61, .goto (-50), 3, 11, 0, 0)] (pc' := 11) (lc' := [(3, (0, 0, (i + 1))), (4, (0, 0, y9.1)), (0, (2, 3, 0)), (2, (0, 0, w2))]) (st' := []) (M' := y12.2) (C' := (True ∧ ax_r32 (i + 1))) (by decide +kernel) rfl ⟨trivial, ⟨by omega, by omega⟩⟩ ?_
    refine ax_pk [2,3,0] (lc' := [(0, (2, 3, 0)), (2, (0, 0, w2)), (3, (0, 0, (i + 1)))]) rfl ?_
    exact hkc y12.2  hX
set_option maxRecDepth 100000 in
set_option maxHeartbeats 4000000 in
theorem w_X3_drawnWrites_L11 (d : Nat) (w2 : Int) (kx : ax_M → Prop × ax_M) (hw_w2 : 1 ≤ w2 ∧ w2 ≤ 60) (hkx : ∀ (M9 : ax_M), (True) → (kx M9).1 → ax_W ax_LM gX3_drawnWrites (d + 9) 64 [] [] M9 (ax_qv (kx M9).2)) : ∀ (n : Nat) (i : Int) (M : ax_M), 0 ≤ i ∧ n = (w2 - i).toNat → (f_X3_drawnWrites_L11 w2 n i  M kx).1 → ax_W ax_LM gX3_drawnWrites (d + 9) 11 [(0, (2, 3, 0)), (2, (0, 0, w2)), (3, (0, 0, i))] [] M (ax_qv (f_X3_drawnWrites_L11 w2 n i  M kx).2) := by
  intro n
  induction n with
  | zero =>
    intro i M hin hX
    refine ax_lump ax_layM ok_kX3 [(11, .iload_n 3, 1, 0, 0, 0), (12, .iload_n 2, 1, 0, 0, 0)] (pc' := 13) (lc' := [(0, (2, 3, 0)), (2, (0, 0, w2)), (3, (0, 0, i))]) (st' := [(0, 0, w2), (0, 0, i)]) (M' := M) (C' := True) (by decide +kernel) rfl trivial ?_
    refine ax_icmp_ge (off := 51) (tgt := 64) (by decide +kernel) (by decide) (fun h => ?_) (fun h => ?_)
    · refine ax_pk [] (lc' := []) rfl ?_
      exact hkx M trivial hX
    · exfalso; omega
  | succ n ih =>
    intro i M hin hX
    refine ax_lump ax_layM ok_kX3 [(11, .iload_n 3, 1, 0, 0, 0), (12, .iload_n 2, 1, 0, 0, 0)] (pc' := 13) (lc' := [(0, (2, 3, 0)), (2, (0, 0, w2)), (3, (0, 0, i))]) (st' := [(0, 0, w2), (0, 0, i)]) (M' := M) (C' := True) (by decide +kernel) rfl trivial ?_
    refine ax_icmp_ge (off := 51) (tgt := 64) (by decide +kernel) (by decide) (fun h => ?_) (fun h => ?_)
    · exfalso; omega
    · exact wb_X3_drawnWrites_B11 d w2 i  M _ kx hw_w2 (by omega)  (fun M9 hX => ih (i + 1)  M9 (by omega)  hX) hkx hX
def f_X3_drawnWrites (x1 : Int) (x2 : Int) (M : ax_M) : Prop × ax_M := ax_bd (ax_up M 0 35 x1) (fun M1 => ax_bd (f_X3_copiesAll M1) (fun M2 => f_X3_drawnWrites_L11 x2 (x2 - 0).toNat 0  M2 (fun M13 => (True, M13))))
set_option maxRecDepth 100000 in
set_option maxHeartbeats 4000000 in
theorem c_X3_drawnWrites (d : Nat) (x1 : Int) (x2 : Int) (M : ax_M) (hp1 : 1 ≤ x2 ∧ x2 ≤ 60) (hX : (f_X3_drawnWrites x1 x2 M).1) : ax_Met ax_LM gX3_drawnWrites (d + 9) [(2, 3, 0), (0, 0, x1), (0, 0, x2)] M (ax_qv (f_X3_drawnWrites x1 x2 M).2) := by
  refine ax_body (by decide) (fun X => Nat.le_of_ble_eq_true rfl) (fun hok => ?_)
  have hr_x1 : (-2147483648) ≤ x1 ∧ x1 ≤ 2147483647 := hok (0, 0, x1) (by simp)
  have hr_x2 : (-2147483648) ≤ x2 ∧ x2 ≤ 2147483647 := hok (0, 0, x2) (by simp)
  show ax_W ax_LM gX3_drawnWrites (d + 9) 0 [(0, (2, 3, 0)), (1, (0, 0, x1)), (2, (0, 0, x2))] [] M _
  unfold f_X3_drawnWrites at hX ⊢
  refine ax_lump ax_layM ok_kX3 [(0, .aload_n 0, 1, 0, 0, 0), (1, .iload_n 1, 1, 0, 0, 0), (2, .putfield 454, 3, 3, 35, 0)] (pc' := 5) (lc' := [(0, (2, 3, 0)), (1, (0, 0, x1)), (2, (0, 0, x2))]) (st' := []) (M' := (ax_up M 0 35 x1)) (C' := True) (by decide +kernel) rfl trivial ?_
  refine ax_bdMe_s hX (fun M1 hM_M1 hX => ?_)
  refine ax_lump ax_layM ok_kX3 [(5, .aload_n 0, 1, 0, 0, 0)] (pc' := 6) (lc' := [(0, (2, 3, 0)), (1, (0, 0, x1)), (2, (0, 0, x2))]) (st' := [(2, 3, 0)]) (M' := M1) (C' := True) (by decide +kernel) rfl trivial ?_
  refine ax_cVv_s hX (G1 := gX3_copiesAll) (d1 := d + 1) (i := 421) (n := 0) (as := []) (st := []) (c := 3) (a := 0) (by decide +kernel) ax_cls3 calX3_copiesAll (by omega) rfl wt_1380 wt_1382 ws_112 (Nat.le_of_ble_eq_true rfl) rfl (c_X3_copiesAll d  M1) (fun M2 hX => ?_)
  refine ax_lump ax_layM ok_kX3 [(9, .iconst 0, 1, 0, 0, 0), (10, .istore_n 3, 1, 0, 0, 0)] (pc' := 11) (lc' := [(3, (0, 0, 0)), (0, (2, 3, 0)), (1, (0, 0, x1)), (2, (0, 0, x2))]) (st' := []) (M' := M2) (C' := True) (by decide +kernel) rfl trivial ?_
  refine ax_pk [1,3,0] (lc' := [(0, (2, 3, 0)), (2, (0, 0, x2)), (3, (0, 0, 0))]) rfl ?_
  refine w_X3_drawnWrites_L11 d x2 _ (by omega) (fun M13 hx_13 hX => ?_) (x2 - 0).toNat 0  M2 (by omega)  hX
  exact ax_vret (by decide +kernel) rfl ⟨rfl, rfl⟩
def f_X3_years (x1 : Int) (x2 : Int) (M : ax_M) : Prop × Int × ax_M := ax_bd (ax_up M 0 0 0) (fun M1 => (if (f_X3_in x2 1 60 M1) ≠ 0 then ax_rc (f_X3_drawnWrites x1 x2 M1) (fun M4 => ax_bd (ax_up M4 0 1 0) (fun M5 => ax_rc (f_X3_enters (ax_wr ((M5 8 266) - (M5 0 27))) M5) (fun M6 => ax_rc (f_X3_enters (ax_wr ((M6 8 269) - (M6 7 269))) M6) (fun M7 => ax_rc (f_X3_enters (f_X3_sumOf 8 M7) M7) (fun M9 => (True, ((ax_wr ((M9 8 265) - (M9 0 26))), M9))))))) else (True, ((-1), M1))))
set_option maxRecDepth 100000 in
set_option maxHeartbeats 4000000 in
theorem c_X3_years (d : Nat) (x1 : Int) (x2 : Int) (M : ax_M)  (hX : (f_X3_years x1 x2 M).1) : ax_Met ax_LM gX3_years (d + 10) [(2, 3, 0), (0, 0, x1), (0, 0, x2)] M ((ax_qm (-2147483648) 2147483647) (f_X3_years x1 x2 M).2) := by
  refine ax_body (by decide) (fun X => Nat.le_of_ble_eq_true rfl) (fun hok => ?_)
  have hr_x1 : (-2147483648) ≤ x1 ∧ x1 ≤ 2147483647 := hok (0, 0, x1) (by simp)
  have hr_x2 : (-2147483648) ≤ x2 ∧ x2 ≤ 2147483647 := hok (0, 0, x2) (by simp)
  show ax_W ax_LM gX3_years (d + 10) 0 [(0, (2, 3, 0)), (1, (0, 0, x1)), (2, (0, 0, x2))] [] M _
  unfold f_X3_years at hX ⊢
  refine ax_lump ax_layM ok_kX3 [(0, .aload_n 0, 1, 0, 0, 0), (1, .iconst 0, 1, 0, 0, 0), (2, .putfield 3, 3, 3, 0, 0)] (pc' := 5) (lc' := [(0, (2, 3, 0)), (1, (0, 0, x1)), (2, (0, 0, x2))]) (st' := []) (M' := (ax_up M 0 0 0)) (C' := (True ∧ (0 ≤ 0 ∧ 0 < ((2 : Nat) : Int)))) (by decide +kernel) rfl ⟨trivial, by omega⟩ ?_
  refine ax_bdMe_s hX (fun M1 hM_M1 hX => ?_)
  refine ax_lump ax_layM ok_kX3 [(5, .iload_n 2, 1, 0, 0, 0), (6, .i2l, 1, 0, 0, 0), (7, .lconst 1, 1, 0, 0, 0), (8, .ldc2_w 465, 3, 0, 0, 60)] (pc' := 11) (lc' := [(0, (2, 3, 0)), (1, (0, 0, x1)), (2, (0, 0, x2))]) (st' := [(1, 0, 60), (1, 0, 1), (1, 0, x2)]) (M' := M1) (C' := True) (by decide +kernel) rfl trivial ?_
  refine ax_cSi (G1 := gX3_in) (d1 := d + 0) (i := 25) (n := 3) (as := [(1, 0, x2), (1, 0, 1), (1, 0, 60)]) (st := []) (by decide +kernel) calX3_in (by omega) rfl wt_875 wt_876 (Nat.le_of_ble_eq_true rfl) rfl (c_X3_in d x2 1 60 M1) (fun hc2 => ?_)
  refine ax_zne_s hX (off := 5) (tgt := 19) (by decide +kernel) (by decide) (fun h3 hX => ?_) (fun h3 hX => ?_)
  · have hgh3 := g_X3_in h3
    refine ax_lump ax_layM ok_kX3 [(19, .aload_n 0, 1, 0, 0, 0), (20, .iload_n 1, 1, 0, 0, 0), (21, .iload_n 2, 1, 0, 0, 0)] (pc' := 22) (lc' := [(0, (2, 3, 0)), (1, (0, 0, x1)), (2, (0, 0, x2))]) (st' := [(0, 0, x2), (0, 0, x1), (2, 3, 0)]) (M' := M1) (C' := True) (by decide +kernel) rfl trivial ?_
    refine ax_cVv_r hX (G1 := gX3_drawnWrites) (d1 := d + 9) (i := 461) (n := 2) (as := [(0, 0, x1), (0, 0, x2)]) (st := []) (c := 3) (a := 0) (by decide +kernel) ax_cls3 calX3_drawnWrites (by omega) rfl wt_1463 wt_1465 ws_117 (Nat.le_of_ble_eq_true rfl) rfl (fun hY => c_X3_drawnWrites d x1 x2 M1 (by omega) hY) (fun M4 hX => ?_)
    refine ax_lump ax_layM ok_kX3 [(25, .aload_n 0, 1, 0, 0, 0), (26, .iconst 0, 1, 0, 0, 0), (27, .putfield 15, 3, 3, 1, 0)] (pc' := 30) (lc' := [(0, (2, 3, 0)), (1, (0, 0, x1)), (2, (0, 0, x2))]) (st' := []) (M' := (ax_up M4 0 1 0)) (C' := (True ∧ (0 ≤ 0 ∧ 0 < ((25 : Nat) : Int)))) (by decide +kernel) rfl ⟨trivial, by omega⟩ ?_
    refine ax_bdMe_s hX (fun M5 hM_M5 hX => ?_)
    refine ax_lump ax_layM ok_kX3 [(30, .aload_n 0, 1, 0, 0, 0), (31, .aload_n 0, 1, 0, 0, 0), (32, .getfield 141, 3, 3, 15, 0), (35, .sipush 266, 3, 0, 0, 0), (38, .iaload, 1, 0, 0, 0), (39, .aload_n 0, 1, 0, 0, 0), (40, .getfield 342, 3, 3, 27, 0), (43, .isub, 1, 0, 0, 0), (44, .i2l, 1, 0, 0, 0)] (pc' := 45) (lc' := [(0, (2, 3, 0)), (1, (0, 0, x1)), (2, (0, 0, x2))]) (st' := [(1, 0, (ax_wr ((M5 8 266) - (M5 0 27)))), (2, 3, 0)]) (M' := M5) (C' := (True ∧ (0 ≤ 266 ∧ 266 < ((274 : Nat) : Int)))) (by decide +kernel) rfl ⟨trivial, by omega⟩ ?_
    refine ax_cVv_r hX (G1 := gX3_enters) (d1 := d + 0) (i := 345) (n := 1) (as := [(1, 0, (ax_wr ((M5 8 266) - (M5 0 27))))]) (st := []) (c := 3) (a := 0) (by decide +kernel) ax_cls3 calX3_enters (by omega) rfl wt_1256 wt_1258 ws_98 (Nat.le_of_ble_eq_true rfl) rfl (fun hY => c_X3_enters d (ax_wr ((M5 8 266) - (M5 0 27))) M5 hY) (fun M6 hX => ?_)
    refine ax_lump ax_layM ok_kX3 [(48, .aload_n 0, 1, 0, 0, 0), (49, .aload_n 0, 1, 0, 0, 0), (50, .getfield 141, 3, 3, 15, 0), (53, .sipush 269, 3, 0, 0, 0), (56, .iaload, 1, 0, 0, 0), (57, .aload_n 0, 1, 0, 0, 0), (58, .getfield 138, 3, 3, 14, 0), (61, .sipush 269, 3, 0, 0, 0), (64, .iaload, 1, 0, 0, 0), (65, .isub, 1, 0, 0, 0), (66, .i2l, 1, 0, 0, 0)] (pc' := 67) (lc' := [(0, (2, 3, 0)), (1, (0, 0, x1)), (2, (0, 0, x2))]) (st' := [(1, 0, (ax_wr ((M6 8 269) - (M6 7 269)))), (2, 3, 0)]) (M' := M6) (C' := ((True ∧ (0 ≤ 269 ∧ 269 < ((274 : Nat) : Int))) ∧ (0 ≤ 269 ∧ 269 < ((274 : Nat) : Int)))) (by decide +kernel) rfl ⟨⟨trivial, by omega⟩, by omega⟩ ?_
    refine ax_cVv_r hX (G1 := gX3_enters) (d1 := d + 0) (i := 345) (n := 1) (as := [(1, 0, (ax_wr ((M6 8 269) - (M6 7 269))))]) (st := []) (c := 3) (a := 0) (by decide +kernel) ax_cls3 calX3_enters (by omega) rfl wt_1256 wt_1258 ws_98 (Nat.le_of_ble_eq_true rfl) rfl (fun hY => c_X3_enters d (ax_wr ((M6 8 269) - (M6 7 269))) M6 hY) (fun M7 hX => ?_)
    refine ax_lump ax_layM ok_kX3 [(70, .aload_n 0, 1, 0, 0, 0), (71, .aload_n 0, 1, 0, 0, 0), (72, .getfield 141, 3, 3, 15, 0)] (pc' := 75) (lc' := [(0, (2, 3, 0)), (1, (0, 0, x1)), (2, (0, 0, x2))]) (st' := [(3, 274, 8), (2, 3, 0)]) (M' := M7) (C' := True) (by decide +kernel) rfl trivial ?_
    refine ax_cSi (G1 := gX3_sumOf) (d1 := d + 1) (i := 467) (n := 1) (as := [(3, 274, 8)]) (st := [(2, 3, 0)]) (by decide +kernel) calX3_sumOf (by omega) rfl wt_1477 wt_1478 (Nat.le_of_ble_eq_true rfl) rfl (c_X3_sumOf d 8 M7) (fun hc8 => ?_)
    refine ax_lump ax_layM ok_kX3 [(78, .i2l, 1, 0, 0, 0)] (pc' := 79) (lc' := [(0, (2, 3, 0)), (1, (0, 0, x1)), (2, (0, 0, x2))]) (st' := [(1, 0, (f_X3_sumOf 8 M7)), (2, 3, 0)]) (M' := M7) (C' := True) (by decide +kernel) rfl trivial ?_
    refine ax_cVv_r hX (G1 := gX3_enters) (d1 := d + 0) (i := 345) (n := 1) (as := [(1, 0, (f_X3_sumOf 8 M7))]) (st := []) (c := 3) (a := 0) (by decide +kernel) ax_cls3 calX3_enters (by omega) rfl wt_1256 wt_1258 ws_98 (Nat.le_of_ble_eq_true rfl) rfl (fun hY => c_X3_enters d (f_X3_sumOf 8 M7) M7 hY) (fun M9 hX => ?_)
    refine ax_lump ax_layM ok_kX3 [(82, .aload_n 0, 1, 0, 0, 0), (83, .getfield 141, 3, 3, 15, 0), (86, .sipush 265, 3, 0, 0, 0), (89, .iaload, 1, 0, 0, 0), (90, .aload_n 0, 1, 0, 0, 0), (91, .getfield 339, 3, 3, 26, 0), (94, .isub, 1, 0, 0, 0)] (pc' := 95) (lc' := [(0, (2, 3, 0)), (1, (0, 0, x1)), (2, (0, 0, x2))]) (st' := [(0, 0, (ax_wr ((M9 8 265) - (M9 0 26))))]) (M' := M9) (C' := (True ∧ (0 ≤ 265 ∧ 265 < ((274 : Nat) : Int)))) (by decide +kernel) rfl ⟨trivial, by omega⟩ ?_
    refine ax_rngS (fun hr => ?_)
    exact ax_iret (by decide +kernel) rfl ⟨rfl, rfl, hr.1, hr.2⟩
  · refine ax_lump ax_layM ok_kX3 [(17, .iconst (-1), 1, 0, 0, 0)] (pc' := 18) (lc' := [(0, (2, 3, 0)), (1, (0, 0, x1)), (2, (0, 0, x2))]) (st' := [(0, 0, (-1))]) (M' := M1) (C' := True) (by decide +kernel) rfl trivial ?_
    refine ax_rngS (fun hr => ?_)
    exact ax_iret (by decide +kernel) rfl ⟨rfl, rfl, hr.1, hr.2⟩
def f_X0_carry (b : Nat) (n1 : Nat) (a1 : Nat) (x2 : Int) (x3 : Int) (M : ax_M) : ax_M := (if x2 < 0 then M else (if x2 ≤ ((n1 : Int) - 274) then ax_bd (f_X0_carryPart 64 (b + 1) n1 a1 x2 x3 M) (fun y3 => ax_bd (f_X0_carryPart 64 (b + 2) n1 a1 y3.1 x3 y3.2) (fun y4 => ax_bd (f_X0_carryPart 64 (b + 3) n1 a1 y4.1 x3 y4.2) (fun y5 => ax_bd (f_X0_carryPart 16 (b + 4) n1 a1 y5.1 x3 y5.2) (fun y6 => ax_bd (f_X0_carryPart 16 (b + 5) n1 a1 y6.1 x3 y6.2) (fun y7 => ax_bd (f_X0_carryPart 16 (b + 6) n1 a1 y7.1 x3 y7.2) (fun y8 => ax_bd (f_X0_carryPart 24 (b + 7) n1 a1 y8.1 x3 y8.2) (fun y9 => ax_bd (f_X0_carryPart 3 (b + 8) n1 a1 y9.1 x3 y9.2) (fun y10 => ax_bd (f_X0_carryPart 7 (b + 9) n1 a1 y10.1 x3 y10.2) (fun y11 => y11.2))))))))) else M))
set_option maxRecDepth 100000 in
set_option maxHeartbeats 4000000 in
theorem c_X0_carry (d : Nat) (b : Nat) (n1 : Nat) (a1 : Nat) (x2 : Int) (x3 : Int) (M : ax_M) (hl_n1 : (n1 : Int) ≤ 100000) (hp2 : 0 ≤ x3 ∧ x3 ≤ 1) : ax_Met ax_LC gX0_carry (d + 2) [(2, 0, (b : Int)), (3, n1, (a1 : Int)), (0, 0, x2), (0, 0, x3)] M (ax_qv (f_X0_carry b n1 a1 x2 x3 M)) := by
  refine ax_body (by decide) (fun X => Nat.le_of_ble_eq_true rfl) (fun hok => ?_)
  have hr_x2 : (-2147483648) ≤ x2 ∧ x2 ≤ 2147483647 := hok (0, 0, x2) (by simp)
  have hr_x3 : (-2147483648) ≤ x3 ∧ x3 ≤ 2147483647 := hok (0, 0, x3) (by simp)
  show ax_W ax_LC gX0_carry (d + 2) 0 [(0, (2, 0, (b : Int))), (1, (3, n1, (a1 : Int))), (2, (0, 0, x2)), (3, (0, 0, x3))] [] M _
  unfold f_X0_carry
  refine ax_lump ax_layC ok_kX0 [(0, .iload_n 2, 1, 0, 0, 0)] (pc' := 1) (lc' := [(0, (2, 0, (b : Int))), (1, (3, n1, (a1 : Int))), (2, (0, 0, x2)), (3, (0, 0, x3))]) (st' := [(0, 0, x2)]) (M' := M) (C' := True) (by decide +kernel) rfl trivial ?_
  refine ax_zlt (off := 13) (tgt := 14) (by decide +kernel) (by decide) (fun h1 => ?_) (fun h1 => ?_)
  · exact ax_vret (by decide +kernel) rfl ⟨rfl, rfl⟩
  · refine ax_lump ax_layC ok_kX0 [(4, .iload_n 2, 1, 0, 0, 0), (5, .aload_n 1, 1, 0, 0, 0), (6, .arraylength, 1, 0, 0, 0), (7, .sipush 274, 3, 0, 0, 0), (10, .isub, 1, 1, 0, 0)] (pc' := 11) (lc' := [(0, (2, 0, (b : Int))), (1, (3, n1, (a1 : Int))), (2, (0, 0, x2)), (3, (0, 0, x3))]) (st' := [(0, 0, ((n1 : Int) - 274)), (0, 0, x2)]) (M' := M) (C' := ((True ∧ ((n1 : Nat) : Int) ≤ 2147483647) ∧ ax_r32 ((n1 : Int) - 274))) (by decide +kernel) rfl ⟨⟨trivial, by omega⟩, ⟨by omega, by omega⟩⟩ ?_
    refine ax_jle (off := 4) (tgt := 15) (by decide +kernel) (by decide) (fun h2 => ?_) (fun h2 => ?_)
    · refine ax_lump ax_layC ok_kX0 [(15, .aload_n 0, 1, 0, 0, 0), (16, .getfield 9, 3, 0, 0, 0), (19, .aload_n 1, 1, 0, 0, 0), (20, .iload_n 2, 1, 0, 0, 0), (21, .iload_n 3, 1, 0, 0, 0)] (pc' := 22) (lc' := [(0, (2, 0, (b : Int))), (1, (3, n1, (a1 : Int))), (2, (0, 0, x2)), (3, (0, 0, x3))]) (st' := [(0, 0, x3), (0, 0, x2), (3, n1, (a1 : Int)), (3, 64, ((b : Int) + 1))]) (M' := M) (C' := True) (by decide +kernel) rfl trivial ?_
      refine ax_cSm (G1 := gX0_carryPart) (d1 := d + 1) (i := 81) (n := 4) (as := [(3, 64, ((b : Int) + 1)), (3, n1, (a1 : Int)), (0, 0, x2), (0, 0, x3)]) (st := []) (by decide +kernel) calX0_carryPart (by omega) rfl wt_374 wt_375 (Nat.le_of_ble_eq_true rfl) rfl (c_X0_carryPart d 64 (b + 1) n1 a1 x2 x3 M (by omega) (by omega) (by omega)) (fun y3 h_y3 => ?_)
      refine ax_lump ax_layC ok_kX0 [(25, .istore 4, 2, 0, 0, 0), (27, .aload_n 0, 1, 0, 0, 0), (28, .getfield 15, 3, 0, 1, 0), (31, .aload_n 1, 1, 0, 0, 0), (32, .iload 4, 2, 0, 0, 0), (34, .iload_n 3, 1, 0, 0, 0)] (pc' := 35) (lc' := [(4, (0, 0, y3.1)), (0, (2, 0, (b : Int))), (1, (3, n1, (a1 : Int))), (2, (0, 0, x2)), (3, (0, 0, x3))]) (st' := [(0, 0, x3), (0, 0, y3.1), (3, n1, (a1 : Int)), (3, 64, ((b : Int) + 2))]) (M' := y3.2) (C' := True) (by decide +kernel) rfl trivial ?_
      refine ax_cSm (G1 := gX0_carryPart) (d1 := d + 1) (i := 81) (n := 4) (as := [(3, 64, ((b : Int) + 2)), (3, n1, (a1 : Int)), (0, 0, y3.1), (0, 0, x3)]) (st := []) (by decide +kernel) calX0_carryPart (by omega) rfl wt_374 wt_375 (Nat.le_of_ble_eq_true rfl) rfl (c_X0_carryPart d 64 (b + 2) n1 a1 y3.1 x3 y3.2 (by omega) (by omega) (by omega)) (fun y4 h_y4 => ?_)
      refine ax_lump ax_layC ok_kX0 [(38, .istore 4, 2, 0, 0, 0), (40, .aload_n 0, 1, 0, 0, 0), (41, .getfield 18, 3, 0, 2, 0), (44, .aload_n 1, 1, 0, 0, 0), (45, .iload 4, 2, 0, 0, 0), (47, .iload_n 3, 1, 0, 0, 0)] (pc' := 48) (lc' := [(4, (0, 0, y4.1)), (0, (2, 0, (b : Int))), (1, (3, n1, (a1 : Int))), (2, (0, 0, x2)), (3, (0, 0, x3))]) (st' := [(0, 0, x3), (0, 0, y4.1), (3, n1, (a1 : Int)), (3, 64, ((b : Int) + 3))]) (M' := y4.2) (C' := True) (by decide +kernel) rfl trivial ?_
      refine ax_cSm (G1 := gX0_carryPart) (d1 := d + 1) (i := 81) (n := 4) (as := [(3, 64, ((b : Int) + 3)), (3, n1, (a1 : Int)), (0, 0, y4.1), (0, 0, x3)]) (st := []) (by decide +kernel) calX0_carryPart (by omega) rfl wt_374 wt_375 (Nat.le_of_ble_eq_true rfl) rfl (c_X0_carryPart d 64 (b + 3) n1 a1 y4.1 x3 y4.2 (by omega) (by omega) (by omega)) (fun y5 h_y5 => ?_)
      refine ax_lump ax_layC ok_kX0 [(51, .istore 4, 2, 0, 0, 0), (53, .aload_n 0, 1, 0, 0, 0), (54, .getfield 21, 3, 0, 3, 0), (57, .aload_n 1, 1, 0, 0, 0), (58, .iload 4, 2, 0, 0, 0), (60, .iload_n 3, 1, 0, 0, 0)] (pc' := 61) (lc' := [(4, (0, 0, y5.1)), (0, (2, 0, (b : Int))), (1, (3, n1, (a1 : Int))), (2, (0, 0, x2)), (3, (0, 0, x3))]) (st' := [(0, 0, x3), (0, 0, y5.1), (3, n1, (a1 : Int)), (3, 16, ((b : Int) + 4))]) (M' := y5.2) (C' := True) (by decide +kernel) rfl trivial ?_
      refine ax_cSm (G1 := gX0_carryPart) (d1 := d + 1) (i := 81) (n := 4) (as := [(3, 16, ((b : Int) + 4)), (3, n1, (a1 : Int)), (0, 0, y5.1), (0, 0, x3)]) (st := []) (by decide +kernel) calX0_carryPart (by omega) rfl wt_374 wt_375 (Nat.le_of_ble_eq_true rfl) rfl (c_X0_carryPart d 16 (b + 4) n1 a1 y5.1 x3 y5.2 (by omega) (by omega) (by omega)) (fun y6 h_y6 => ?_)
      refine ax_lump ax_layC ok_kX0 [(64, .istore 4, 2, 0, 0, 0), (66, .aload_n 0, 1, 0, 0, 0), (67, .getfield 24, 3, 0, 4, 0), (70, .aload_n 1, 1, 0, 0, 0), (71, .iload 4, 2, 0, 0, 0), (73, .iload_n 3, 1, 0, 0, 0)] (pc' := 74) (lc' := [(4, (0, 0, y6.1)), (0, (2, 0, (b : Int))), (1, (3, n1, (a1 : Int))), (2, (0, 0, x2)), (3, (0, 0, x3))]) (st' := [(0, 0, x3), (0, 0, y6.1), (3, n1, (a1 : Int)), (3, 16, ((b : Int) + 5))]) (M' := y6.2) (C' := True) (by decide +kernel) rfl trivial ?_
      refine ax_cSm (G1 := gX0_carryPart) (d1 := d + 1) (i := 81) (n := 4) (as := [(3, 16, ((b : Int) + 5)), (3, n1, (a1 : Int)), (0, 0, y6.1), (0, 0, x3)]) (st := []) (by decide +kernel) calX0_carryPart (by omega) rfl wt_374 wt_375 (Nat.le_of_ble_eq_true rfl) rfl (c_X0_carryPart d 16 (b + 5) n1 a1 y6.1 x3 y6.2 (by omega) (by omega) (by omega)) (fun y7 h_y7 => ?_)
      refine ax_lump ax_layC ok_kX0 [(77, .istore 4, 2, 0, 0, 0), (79, .aload_n 0, 1, 0, 0, 0), (80, .getfield 27, 3, 0, 5, 0), (83, .aload_n 1, 1, 0, 0, 0), (84, .iload 4, 2, 0, 0, 0), (86, .iload_n 3, 1, 0, 0, 0)] (pc' := 87) (lc' := [(4, (0, 0, y7.1)), (0, (2, 0, (b : Int))), (1, (3, n1, (a1 : Int))), (2, (0, 0, x2)), (3, (0, 0, x3))]) (st' := [(0, 0, x3), (0, 0, y7.1), (3, n1, (a1 : Int)), (3, 16, ((b : Int) + 6))]) (M' := y7.2) (C' := True) (by decide +kernel) rfl trivial ?_
      refine ax_cSm (G1 := gX0_carryPart) (d1 := d + 1) (i := 81) (n := 4) (as := [(3, 16, ((b : Int) + 6)), (3, n1, (a1 : Int)), (0, 0, y7.1), (0, 0, x3)]) (st := []) (by decide +kernel) calX0_carryPart (by omega) rfl wt_374 wt_375 (Nat.le_of_ble_eq_true rfl) rfl (c_X0_carryPart d 16 (b + 6) n1 a1 y7.1 x3 y7.2 (by omega) (by omega) (by omega)) (fun y8 h_y8 => ?_)
      refine ax_lump ax_layC ok_kX0 [(90, .istore 4, 2, 0, 0, 0), (92, .aload_n 0, 1, 0, 0, 0), (93, .getfield 30, 3, 0, 6, 0), (96, .aload_n 1, 1, 0, 0, 0), (97, .iload 4, 2, 0, 0, 0), (99, .iload_n 3, 1, 0, 0, 0)] (pc' := 100) (lc' := [(4, (0, 0, y8.1)), (0, (2, 0, (b : Int))), (1, (3, n1, (a1 : Int))), (2, (0, 0, x2)), (3, (0, 0, x3))]) (st' := [(0, 0, x3), (0, 0, y8.1), (3, n1, (a1 : Int)), (3, 24, ((b : Int) + 7))]) (M' := y8.2) (C' := True) (by decide +kernel) rfl trivial ?_
      refine ax_cSm (G1 := gX0_carryPart) (d1 := d + 1) (i := 81) (n := 4) (as := [(3, 24, ((b : Int) + 7)), (3, n1, (a1 : Int)), (0, 0, y8.1), (0, 0, x3)]) (st := []) (by decide +kernel) calX0_carryPart (by omega) rfl wt_374 wt_375 (Nat.le_of_ble_eq_true rfl) rfl (c_X0_carryPart d 24 (b + 7) n1 a1 y8.1 x3 y8.2 (by omega) (by omega) (by omega)) (fun y9 h_y9 => ?_)
      refine ax_lump ax_layC ok_kX0 [(103, .istore 4, 2, 0, 0, 0), (105, .aload_n 0, 1, 0, 0, 0), (106, .getfield 33, 3, 0, 7, 0), (109, .aload_n 1, 1, 0, 0, 0), (110, .iload 4, 2, 0, 0, 0), (112, .iload_n 3, 1, 0, 0, 0)] (pc' := 113) (lc' := [(4, (0, 0, y9.1)), (0, (2, 0, (b : Int))), (1, (3, n1, (a1 : Int))), (2, (0, 0, x2)), (3, (0, 0, x3))]) (st' := [(0, 0, x3), (0, 0, y9.1), (3, n1, (a1 : Int)), (3, 3, ((b : Int) + 8))]) (M' := y9.2) (C' := True) (by decide +kernel) rfl trivial ?_
      refine ax_cSm (G1 := gX0_carryPart) (d1 := d + 1) (i := 81) (n := 4) (as := [(3, 3, ((b : Int) + 8)), (3, n1, (a1 : Int)), (0, 0, y9.1), (0, 0, x3)]) (st := []) (by decide +kernel) calX0_carryPart (by omega) rfl wt_374 wt_375 (Nat.le_of_ble_eq_true rfl) rfl (c_X0_carryPart d 3 (b + 8) n1 a1 y9.1 x3 y9.2 (by omega) (by omega) (by omega)) (fun y10 h_y10 => ?_)
      refine ax_lump ax_layC ok_kX0 [(116, .istore 4, 2, 0, 0, 0), (118, .aload_n 0, 1, 0, 0, 0), (119, .getfield 36, 3, 0, 8, 0), (122, .aload_n 1, 1, 0, 0, 0), (123, .iload 4, 2, 0, 0, 0), (125, .iload_n 3, 1, 0, 0, 0)] (pc' := 126) (lc' := [(4, (0, 0, y10.1)), (0, (2, 0, (b : Int))), (1, (3, n1, (a1 : Int))), (2, (0, 0, x2)), (3, (0, 0, x3))]) (st' := [(0, 0, x3), (0, 0, y10.1), (3, n1, (a1 : Int)), (3, 7, ((b : Int) + 9))]) (M' := y10.2) (C' := True) (by decide +kernel) rfl trivial ?_
      refine ax_cSm (G1 := gX0_carryPart) (d1 := d + 1) (i := 81) (n := 4) (as := [(3, 7, ((b : Int) + 9)), (3, n1, (a1 : Int)), (0, 0, y10.1), (0, 0, x3)]) (st := []) (by decide +kernel) calX0_carryPart (by omega) rfl wt_374 wt_375 (Nat.le_of_ble_eq_true rfl) rfl (c_X0_carryPart d 7 (b + 9) n1 a1 y10.1 x3 y10.2 (by omega) (by omega) (by omega)) (fun y11 h_y11 => ?_)
      refine ax_lump ax_layC ok_kX0 [(129, .pop, 1, 0, 0, 0)] (pc' := 130) (lc' := [(4, (0, 0, y10.1)), (0, (2, 0, (b : Int))), (1, (3, n1, (a1 : Int))), (2, (0, 0, x2)), (3, (0, 0, x3))]) (st' := []) (M' := y11.2) (C' := True) (by decide +kernel) rfl trivial ?_
      exact ax_vret (by decide +kernel) rfl ⟨rfl, rfl⟩
    · exact ax_vret (by decide +kernel) rfl ⟨rfl, rfl⟩
def f_X0_take (b : Nat) (x1 : Int) (x2 : Int) (M : ax_M) : Int × ax_M := ax_bd (f_X0_leastWornFree b M) (fun y2 => (if y2 = (-1) then (y2, M) else ax_bd (ax_up M (b + 4) y2.toNat x1) (fun M4 => ax_bd (ax_up M4 (b + 5) y2.toNat x2) (fun M5 => (y2, M5)))))
set_option maxRecDepth 100000 in
set_option maxHeartbeats 4000000 in
theorem c_X0_take (d : Nat) (b : Nat) (x1 : Int) (x2 : Int) (M : ax_M)  : ax_Met ax_LC gX0_take (d + 1) [(2, 0, (b : Int)), (0, 0, x1), (0, 0, x2)] M ((ax_qm (-1) 15) (f_X0_take b x1 x2 M)) := by
  refine ax_body (by decide) (fun X => Nat.le_of_ble_eq_true rfl) (fun hok => ?_)
  have hr_x1 : (-2147483648) ≤ x1 ∧ x1 ≤ 2147483647 := hok (0, 0, x1) (by simp)
  have hr_x2 : (-2147483648) ≤ x2 ∧ x2 ≤ 2147483647 := hok (0, 0, x2) (by simp)
  show ax_W ax_LC gX0_take (d + 1) 0 [(0, (2, 0, (b : Int))), (1, (0, 0, x1)), (2, (0, 0, x2))] [] M _
  unfold f_X0_take
  refine ax_lump ax_layC ok_kX0 [(0, .aload_n 0, 1, 0, 0, 0)] (pc' := 1) (lc' := [(0, (2, 0, (b : Int))), (1, (0, 0, x1)), (2, (0, 0, x2))]) (st' := [(2, 0, (b : Int))]) (M' := M) (C' := True) (by decide +kernel) rfl trivial ?_
  refine ax_cVi (G1 := gX0_leastWornFree) (d1 := d + 0) (i := 106) (n := 0) (as := []) (st := []) (c := 0) (a := (b : Int)) (by decide +kernel) ax_cls0 calX0_leastWornFree (by omega) rfl wt_390 wt_392 ws_18 (Nat.le_of_ble_eq_true rfl) rfl (c_X0_leastWornFree d b M) (fun hc1 => ?_)
  refine ax_lump ax_layC ok_kX0 [(4, .istore_n 3, 1, 0, 0, 0)] (pc' := 5) (lc' := [(3, (0, 0, (f_X0_leastWornFree b M))), (0, (2, 0, (b : Int))), (1, (0, 0, x1)), (2, (0, 0, x2))]) (st' := []) (M' := M) (C' := True) (by decide +kernel) rfl trivial ?_
  refine ax_bdI (lo := (-1)) (hi := 15) (e := (f_X0_leastWornFree b M)) (fun y2 => [(3, (0, 0, y2)), (0, (2, 0, (b : Int))), (1, (0, 0, x1)), (2, (0, 0, x2))]) (fun y2 => []) (by omega) (fun y2 h_y2 => ?_)
  refine ax_lump ax_layC ok_kX0 [(5, .iload_n 3, 1, 0, 0, 0), (6, .iconst (-1), 1, 0, 0, 0)] (pc' := 7) (lc' := [(3, (0, 0, y2)), (0, (2, 0, (b : Int))), (1, (0, 0, x1)), (2, (0, 0, x2))]) (st' := [(0, 0, (-1)), (0, 0, y2)]) (M' := M) (C' := True) (by decide +kernel) rfl trivial ?_
  refine ax_jeq (off := 17) (tgt := 24) (by decide +kernel) (by decide) (fun h3 => ?_) (fun h3 => ?_)
  · refine ax_lump ax_layC ok_kX0 [(24, .iload_n 3, 1, 0, 0, 0)] (pc' := 25) (lc' := [(3, (0, 0, y2)), (0, (2, 0, (b : Int))), (1, (0, 0, x1)), (2, (0, 0, x2))]) (st' := [(0, 0, y2)]) (M' := M) (C' := True) (by decide +kernel) rfl trivial ?_
    exact ax_iret (by decide +kernel) rfl ⟨rfl, rfl, (show ((-1) : Int) ≤ y2 from by omega), (show y2 ≤ (15 : Int) from by omega)⟩
  · refine ax_lump ax_layC ok_kX0 [(10, .aload_n 0, 1, 0, 0, 0), (11, .getfield 21, 3, 0, 3, 0), (14, .iload_n 3, 1, 0, 0, 0), (15, .iload_n 1, 1, 0, 0, 0), (16, .iastore, 1, 0, 0, 0)] (pc' := 17) (lc' := [(3, (0, 0, y2)), (0, (2, 0, (b : Int))), (1, (0, 0, x1)), (2, (0, 0, x2))]) (st' := []) (M' := (ax_up M (b + 4) y2.toNat x1)) (C' := (True ∧ (0 ≤ y2 ∧ y2 < ((16 : Nat) : Int)))) (by decide +kernel) rfl ⟨trivial, by omega⟩ ?_
    refine ax_bdMe (fun M4 hM_M4 => ?_)
    refine ax_lump ax_layC ok_kX0 [(17, .aload_n 0, 1, 0, 0, 0), (18, .getfield 24, 3, 0, 4, 0), (21, .iload_n 3, 1, 0, 0, 0), (22, .iload_n 2, 1, 0, 0, 0), (23, .iastore, 1, 0, 0, 0)] (pc' := 24) (lc' := [(3, (0, 0, y2)), (0, (2, 0, (b : Int))), (1, (0, 0, x1)), (2, (0, 0, x2))]) (st' := []) (M' := (ax_up M4 (b + 5) y2.toNat x2)) (C' := (True ∧ (0 ≤ y2 ∧ y2 < ((16 : Nat) : Int)))) (by decide +kernel) rfl ⟨trivial, by omega⟩ ?_
    refine ax_bdMe (fun M5 hM_M5 => ?_)
    refine ax_lump ax_layC ok_kX0 [(24, .iload_n 3, 1, 0, 0, 0)] (pc' := 25) (lc' := [(3, (0, 0, y2)), (0, (2, 0, (b : Int))), (1, (0, 0, x1)), (2, (0, 0, x2))]) (st' := [(0, 0, y2)]) (M' := M5) (C' := True) (by decide +kernel) rfl trivial ?_
    exact ax_iret (by decide +kernel) rfl ⟨rfl, rfl, (show ((-1) : Int) ≤ y2 from by omega), (show y2 ≤ (15 : Int) from by omega)⟩
def f_X0_coolAll_B4 (b : Nat) (i : Nat) (v1 : Int) (M : ax_M) (kc : Int → ax_M → Int × ax_M) (kx : Int → ax_M → Int × ax_M) : Int × ax_M := ax_bd (ax_up M (b + 7) i (ax_div (M (b + 7) i) 2)) (fun M1 => (if (f_X0_isHot b (i : Int) M1) = 0 then kc (v1 + 0) M1 else kc (v1 + 1) M1))
def f_X0_coolAll_L4 (b : Nat) : Nat → Nat → Int → ax_M → (Int → ax_M → Int × ax_M) → Int × ax_M
  | 0, i, v1, M, kx => kx v1 M
  | n + 1, i, v1, M, kx => f_X0_coolAll_B4 b i v1 M (fun u1 M9 => f_X0_coolAll_L4 b n (i + 1) u1 M9 kx) kx
set_option maxRecDepth 100000 in
set_option maxHeartbeats 4000000 in
theorem wb_X0_coolAll_B4 (d : Nat) (b : Nat) (i : Nat) (v1 : Int) (M : ax_M) (kc : Int → ax_M → Int × ax_M) (kx : Int → ax_M → Int × ax_M)  (hi : 0 ≤ i ∧ i < 24) (hv1 : 0 ≤ v1 ∧ v1 ≤ 0 + 1 * ((i : Int) - 0)) (hkc : ∀ (u1 : Int) (M9 : ax_M), 0 ≤ u1 ∧ u1 ≤ 0 + 1 * (((i : Int) + 1) - 0) → ax_W ax_LC gX0_coolAll (d + 1) 4 [(0, (2, 0, (b : Int))), (1, (0, 0, u1)), (2, (0, 0, ((i : Int) + 1)))] [] M9 ((ax_qm 0 24) (kc u1 M9))) (hkx : ∀ (x1 : Int) (M9 : ax_M), ((0 ≤ x1 ∧ x1 ≤ 24)) → ax_W ax_LC gX0_coolAll (d + 1) 42 [(1, (0, 0, x1))] [] M9 ((ax_qm 0 24) (kx x1 M9))) : ax_W ax_LC gX0_coolAll (d + 1) 10 [(0, (2, 0, (b : Int))), (1, (0, 0, v1)), (2, (0, 0, (i : Int)))] [] M ((ax_qm 0 24) (f_X0_coolAll_B4 b i v1 M kc kx)) := by
  unfold f_X0_coolAll_B4
  refine ax_lump ax_layC ok_kX0 [(10, .aload_n 0, 1, 0, 0, 0), (11, .getfield 30, 3, 0, 6, 0), (14, .iload_n 2, 1, 0, 0, 0), (15, .dup2, 1, 0, 0, 0), (16, .iaload, 1, 0, 0, 0), (17, .iconst 2, 1, 0, 0, 0), (18, .idiv, 1, 0, 0, 0), (19, .iastore, 1, 0, 0, 0)] (pc' := 20) (lc' := [(0, (2, 0, (b : Int))), (1, (0, 0, v1)), (2, (0, 0, (i : Int)))]) (st' := []) (M' := (ax_up M (b + 7) i (ax_div (M (b + 7) i) 2))) (C' := (((True ∧ (0 ≤ (i : Int) ∧ (i : Int) < ((24 : Nat) : Int))) ∧ 2 ≠ 0) ∧ (0 ≤ (i : Int) ∧ (i : Int) < ((24 : Nat) : Int)))) (by decide +kernel) rfl ⟨⟨⟨trivial, by omega⟩, by omega⟩, by omega⟩ ?_
  refine ax_bdMe (fun M1 hM_M1 => ?_)
  refine ax_lump ax_layC ok_kX0 [(20, .iload_n 1, 1, 0, 0, 0), (21, .aload_n 0, 1, 0, 0, 0), (22, .iload_n 2, 1, 0, 0, 0)] (pc' := 23) (lc' := [(0, (2, 0, (b : Int))), (1, (0, 0, v1)), (2, (0, 0, (i : Int)))]) (st' := [(0, 0, (i : Int)), (2, 0, (b : Int)), (0, 0, v1)]) (M' := M1) (C' := True) (by decide +kernel) rfl trivial ?_
  refine ax_cVi (G1 := gX0_isHot) (d1 := d + 0) (i := 127) (n := 1) (as := [(0, 0, (i : Int))]) (st := [(0, 0, v1)]) (c := 0) (a := (b : Int)) (by decide +kernel) ax_cls0 calX0_isHot (by omega) rfl wt_447 wt_449 ws_32 (Nat.le_of_ble_eq_true rfl) rfl (c_X0_isHot d b (i : Int) M1) (fun hc2 => ?_)
  refine ax_zeq (off := 7) (tgt := 33) (by decide +kernel) (by decide) (fun h3 => ?_) (fun h3 => ?_)
  · refine ax_lump ax_layC ok_kX0 [(33, .iconst 0, 1, 0, 0, 0), (34, .iadd, 1, 1, 0, 0), (35, .istore_n 1, 1, 0, 0, 0), (36, .iinc 2 1, 3, 1, 0, 0), (39, .goto (-35), 3, 4, 0, 0)] (pc' := 4) (lc' := [(2, (0, 0, ((i : Int) + 1))), (1, (0, 0, (v1 + 0))), (0, (2, 0, (b : Int)))]) (st' := []) (M' := M1) (C' := ((True ∧ ax_r32 (v1 + 0)) ∧ ax_r32 ((i : Int) + 1))) (by decide +kernel) rfl ⟨⟨trivial, ⟨by omega, by omega⟩⟩, ⟨by omega, by omega⟩⟩ ?_
    refine ax_pk [2,1,0] (lc' := [(0, (2, 0, (b : Int))), (1, (0, 0, (v1 + 0))), (2, (0, 0, ((i : Int) + 1)))]) rfl ?_
    exact hkc (v1 + 0) M1 (by omega)
  · refine ax_lump ax_layC ok_kX0 [(29, .iconst 1, 1, 0, 0, 0), (30, .goto 4, 3, 34, 0, 0), (34, .iadd, 1, 1, 0, 0), (35, .istore_n 1, 1, 0, 0, 0), (36, .iinc 2 1, 3, 1, 0, 0), (39, .goto (-35), 3, 4, 0, 0)] (pc' := 4) (lc' := [(2, (0, 0, ((i : Int) + 1))), (1, (0, 0, (v1 + 1))), (0, (2, 0, (b : Int)))]) (st' := []) (M' := M1) (C' := ((True ∧ ax_r32 (v1 + 1)) ∧ ax_r32 ((i : Int) + 1))) (by decide +kernel) rfl ⟨⟨trivial, ⟨by omega, by omega⟩⟩, ⟨by omega, by omega⟩⟩ ?_
    refine ax_pk [2,1,0] (lc' := [(0, (2, 0, (b : Int))), (1, (0, 0, (v1 + 1))), (2, (0, 0, ((i : Int) + 1)))]) rfl ?_
    exact hkc (v1 + 1) M1 (by omega)
set_option maxRecDepth 100000 in
set_option maxHeartbeats 4000000 in
theorem w_X0_coolAll_L4 (d : Nat) (b : Nat) (kx : Int → ax_M → Int × ax_M)  (hkx : ∀ (x1 : Int) (M9 : ax_M), ((0 ≤ x1 ∧ x1 ≤ 24)) → ax_W ax_LC gX0_coolAll (d + 1) 42 [(1, (0, 0, x1))] [] M9 ((ax_qm 0 24) (kx x1 M9))) : ∀ (n : Nat) (i : Nat) (v1 : Int) (M : ax_M), 0 ≤ i ∧ i + n = 24 → 0 ≤ v1 ∧ v1 ≤ 0 + 1 * ((i : Int) - 0) → ax_W ax_LC gX0_coolAll (d + 1) 4 [(0, (2, 0, (b : Int))), (1, (0, 0, v1)), (2, (0, 0, (i : Int)))] [] M ((ax_qm 0 24) (f_X0_coolAll_L4 b n i v1 M kx)) := by
  intro n
  induction n with
  | zero =>
    intro i v1 M hin hv1
    refine ax_lump ax_layC ok_kX0 [(4, .iload_n 2, 1, 0, 0, 0), (5, .bipush 24, 2, 0, 0, 0)] (pc' := 7) (lc' := [(0, (2, 0, (b : Int))), (1, (0, 0, v1)), (2, (0, 0, (i : Int)))]) (st' := [(0, 0, 24), (0, 0, (i : Int))]) (M' := M) (C' := True) (by decide +kernel) rfl trivial ?_
    refine ax_icmp_ge (off := 35) (tgt := 42) (by decide +kernel) (by decide) (fun h => ?_) (fun h => ?_)
    · refine ax_pk [1] (lc' := [(1, (0, 0, v1))]) rfl ?_
      exact hkx v1 M (by omega)
    · exfalso; omega
  | succ n ih =>
    intro i v1 M hin hv1
    refine ax_lump ax_layC ok_kX0 [(4, .iload_n 2, 1, 0, 0, 0), (5, .bipush 24, 2, 0, 0, 0)] (pc' := 7) (lc' := [(0, (2, 0, (b : Int))), (1, (0, 0, v1)), (2, (0, 0, (i : Int)))]) (st' := [(0, 0, 24), (0, 0, (i : Int))]) (M' := M) (C' := True) (by decide +kernel) rfl trivial ?_
    refine ax_icmp_ge (off := 35) (tgt := 42) (by decide +kernel) (by decide) (fun h => ?_) (fun h => ?_)
    · exfalso; omega
    · exact wb_X0_coolAll_B4 d b i v1 M _ kx  (by omega) hv1 (fun u1 M9 hu1 => ih (i + 1) u1 M9 (by omega) (by omega)) hkx
def f_X0_coolAll (b : Nat) (M : ax_M) : Int × ax_M := f_X0_coolAll_L4 b 24 0 0 M (fun z4 M5 => (z4, M5))
set_option maxRecDepth 100000 in
set_option maxHeartbeats 4000000 in
theorem c_X0_coolAll (d : Nat) (b : Nat) (M : ax_M)  : ax_Met ax_LC gX0_coolAll (d + 1) [(2, 0, (b : Int))] M ((ax_qm 0 24) (f_X0_coolAll b M)) := by
  refine ax_body (by decide) (fun X => Nat.le_of_ble_eq_true rfl) (fun hok => ?_)
  show ax_W ax_LC gX0_coolAll (d + 1) 0 [(0, (2, 0, (b : Int)))] [] M _
  unfold f_X0_coolAll
  refine ax_lump ax_layC ok_kX0 [(0, .iconst 0, 1, 0, 0, 0), (1, .istore_n 1, 1, 0, 0, 0), (2, .iconst 0, 1, 0, 0, 0), (3, .istore_n 2, 1, 0, 0, 0)] (pc' := 4) (lc' := [(2, (0, 0, 0)), (1, (0, 0, 0)), (0, (2, 0, (b : Int)))]) (st' := []) (M' := M) (C' := True) (by decide +kernel) rfl trivial ?_
  refine ax_pk [2,1,0] (lc' := [(0, (2, 0, (b : Int))), (1, (0, 0, 0)), (2, (0, 0, 0))]) rfl ?_
  refine w_X0_coolAll_L4 d b _  (fun z4 M5 hx_5 => ?_) 24 0 0 M (by omega) (by omega)
  refine ax_lump ax_layC ok_kX0 [(42, .iload_n 1, 1, 0, 0, 0)] (pc' := 43) (lc' := [(1, (0, 0, z4))]) (st' := [(0, 0, z4)]) (M' := M5) (C' := True) (by decide +kernel) rfl trivial ?_
  exact ax_iret (by decide +kernel) rfl ⟨rfl, rfl, (show (0 : Int) ≤ z4 from by omega), (show z4 ≤ (24 : Int) from by omega)⟩
def f_X0_roomInLogs (b : Nat) (x1 : Int) (M : ax_M) : Int := ax_bd (f_X0_owned b x1 ((f_X0_howMany b x1 M) - 1) M) (fun y3 => ax_bd (f_X0_filled b y3 M) (fun y5 => (if y3 = (-1) then (-1) else (if y5 ≠ 4 then ((y3 * 4) + y5) else (-1)))))
set_option maxRecDepth 100000 in
set_option maxHeartbeats 4000000 in
theorem c_X0_roomInLogs (d : Nat) (b : Nat) (x1 : Int) (M : ax_M)  : ax_Met ax_LC gX0_roomInLogs (d + 1) [(2, 0, (b : Int)), (0, 0, x1)] M ((ax_qi (-1) 63 M) (f_X0_roomInLogs b x1 M)) := by
  refine ax_body (by decide) (fun X => Nat.le_of_ble_eq_true rfl) (fun hok => ?_)
  have hr_x1 : (-2147483648) ≤ x1 ∧ x1 ≤ 2147483647 := hok (0, 0, x1) (by simp)
  show ax_W ax_LC gX0_roomInLogs (d + 1) 0 [(0, (2, 0, (b : Int))), (1, (0, 0, x1))] [] M _
  unfold f_X0_roomInLogs
  refine ax_lump ax_layC ok_kX0 [(0, .aload_n 0, 1, 0, 0, 0), (1, .iload_n 1, 1, 0, 0, 0), (2, .aload_n 0, 1, 0, 0, 0), (3, .iload_n 1, 1, 0, 0, 0)] (pc' := 4) (lc' := [(0, (2, 0, (b : Int))), (1, (0, 0, x1))]) (st' := [(0, 0, x1), (2, 0, (b : Int)), (0, 0, x1), (2, 0, (b : Int))]) (M' := M) (C' := True) (by decide +kernel) rfl trivial ?_
  refine ax_cVi (G1 := gX0_howMany) (d1 := d + 0) (i := 133) (n := 1) (as := [(0, 0, x1)]) (st := [(0, 0, x1), (2, 0, (b : Int))]) (c := 0) (a := (b : Int)) (by decide +kernel) ax_cls0 calX0_howMany (by omega) rfl wt_455 wt_457 ws_34 (Nat.le_of_ble_eq_true rfl) rfl (c_X0_howMany d b x1 M) (fun hc1 => ?_)
  refine ax_lump ax_layC ok_kX0 [(7, .iconst 1, 1, 0, 0, 0), (8, .isub, 1, 1, 0, 0)] (pc' := 9) (lc' := [(0, (2, 0, (b : Int))), (1, (0, 0, x1))]) (st' := [(0, 0, ((f_X0_howMany b x1 M) - 1)), (0, 0, x1), (2, 0, (b : Int))]) (M' := M) (C' := (True ∧ ax_r32 ((f_X0_howMany b x1 M) - 1))) (by decide +kernel) rfl ⟨trivial, ⟨by omega, by omega⟩⟩ ?_
  refine ax_cVi (G1 := gX0_owned) (d1 := d + 0) (i := 110) (n := 2) (as := [(0, 0, x1), (0, 0, ((f_X0_howMany b x1 M) - 1))]) (st := []) (c := 0) (a := (b : Int)) (by decide +kernel) ax_cls0 calX0_owned (by omega) rfl wt_382 wt_384 ws_16 (Nat.le_of_ble_eq_true rfl) rfl (c_X0_owned d b x1 ((f_X0_howMany b x1 M) - 1) M) (fun hc2 => ?_)
  refine ax_lump ax_layC ok_kX0 [(12, .istore_n 2, 1, 0, 0, 0)] (pc' := 13) (lc' := [(2, (0, 0, (f_X0_owned b x1 ((f_X0_howMany b x1 M) - 1) M))), (0, (2, 0, (b : Int))), (1, (0, 0, x1))]) (st' := []) (M' := M) (C' := True) (by decide +kernel) rfl trivial ?_
  refine ax_bdI (lo := (-1)) (hi := 15) (e := (f_X0_owned b x1 ((f_X0_howMany b x1 M) - 1) M)) (fun y3 => [(2, (0, 0, y3)), (0, (2, 0, (b : Int))), (1, (0, 0, x1))]) (fun y3 => []) (by omega) (fun y3 h_y3 => ?_)
  refine ax_lump ax_layC ok_kX0 [(13, .aload_n 0, 1, 0, 0, 0), (14, .iload_n 2, 1, 0, 0, 0)] (pc' := 15) (lc' := [(2, (0, 0, y3)), (0, (2, 0, (b : Int))), (1, (0, 0, x1))]) (st' := [(0, 0, y3), (2, 0, (b : Int))]) (M' := M) (C' := True) (by decide +kernel) rfl trivial ?_
  refine ax_cVi (G1 := gX0_filled) (d1 := d + 0) (i := 123) (n := 1) (as := [(0, 0, y3)]) (st := []) (c := 0) (a := (b : Int)) (by decide +kernel) ax_cls0 calX0_filled (by omega) rfl wt_406 wt_408 ws_22 (Nat.le_of_ble_eq_true rfl) rfl (c_X0_filled d b y3 M) (fun hc4 => ?_)
  refine ax_lump ax_layC ok_kX0 [(18, .istore_n 3, 1, 0, 0, 0)] (pc' := 19) (lc' := [(3, (0, 0, (f_X0_filled b y3 M))), (2, (0, 0, y3)), (0, (2, 0, (b : Int))), (1, (0, 0, x1))]) (st' := []) (M' := M) (C' := True) (by decide +kernel) rfl trivial ?_
  refine ax_bdI (lo := 0) (hi := 4) (e := (f_X0_filled b y3 M)) (fun y5 => [(3, (0, 0, y5)), (2, (0, 0, y3)), (0, (2, 0, (b : Int))), (1, (0, 0, x1))]) (fun y5 => []) (by omega) (fun y5 h_y5 => ?_)
  refine ax_lump ax_layC ok_kX0 [(19, .iload_n 2, 1, 0, 0, 0), (20, .iconst (-1), 1, 0, 0, 0)] (pc' := 21) (lc' := [(3, (0, 0, y5)), (2, (0, 0, y3)), (0, (2, 0, (b : Int))), (1, (0, 0, x1))]) (st' := [(0, 0, (-1)), (0, 0, y3)]) (M' := M) (C' := True) (by decide +kernel) rfl trivial ?_
  refine ax_jeq (off := 8) (tgt := 29) (by decide +kernel) (by decide) (fun h6 => ?_) (fun h6 => ?_)
  · refine ax_lump ax_layC ok_kX0 [(29, .iconst (-1), 1, 0, 0, 0), (30, .goto 8, 3, 38, 0, 0)] (pc' := 38) (lc' := [(3, (0, 0, y5)), (2, (0, 0, y3)), (0, (2, 0, (b : Int))), (1, (0, 0, x1))]) (st' := [(0, 0, (-1))]) (M' := M) (C' := True) (by decide +kernel) rfl trivial ?_
    exact ax_iret (by decide +kernel) rfl ⟨rfl, rfl, (show ((-1) : Int) ≤ (-1) from by omega), (show (-1) ≤ (63 : Int) from by omega)⟩
  · refine ax_lump ax_layC ok_kX0 [(24, .iload_n 3, 1, 0, 0, 0), (25, .iconst 4, 1, 0, 0, 0)] (pc' := 26) (lc' := [(3, (0, 0, y5)), (2, (0, 0, y3)), (0, (2, 0, (b : Int))), (1, (0, 0, x1))]) (st' := [(0, 0, 4), (0, 0, y5)]) (M' := M) (C' := True) (by decide +kernel) rfl trivial ?_
    refine ax_jne (off := 7) (tgt := 33) (by decide +kernel) (by decide) (fun h7 => ?_) (fun h7 => ?_)
    · refine ax_lump ax_layC ok_kX0 [(33, .iload_n 2, 1, 0, 0, 0), (34, .iconst 4, 1, 0, 0, 0), (35, .imul, 1, 1, 0, 0), (36, .iload_n 3, 1, 0, 0, 0), (37, .iadd, 1, 1, 0, 0)] (pc' := 38) (lc' := [(3, (0, 0, y5)), (2, (0, 0, y3)), (0, (2, 0, (b : Int))), (1, (0, 0, x1))]) (st' := [(0, 0, ((y3 * 4) + y5))]) (M' := M) (C' := ((True ∧ ax_r32 (y3 * 4)) ∧ ax_r32 ((y3 * 4) + y5))) (by decide +kernel) rfl ⟨⟨trivial, ⟨by omega, by omega⟩⟩, ⟨by omega, by omega⟩⟩ ?_
      exact ax_iret (by decide +kernel) rfl ⟨rfl, rfl, (show ((-1) : Int) ≤ ((y3 * 4) + y5) from by omega), (show ((y3 * 4) + y5) ≤ (63 : Int) from by omega)⟩
    · refine ax_lump ax_layC ok_kX0 [(29, .iconst (-1), 1, 0, 0, 0), (30, .goto 8, 3, 38, 0, 0)] (pc' := 38) (lc' := [(3, (0, 0, y5)), (2, (0, 0, y3)), (0, (2, 0, (b : Int))), (1, (0, 0, x1))]) (st' := [(0, 0, (-1))]) (M' := M) (C' := True) (by decide +kernel) rfl trivial ?_
      exact ax_iret (by decide +kernel) rfl ⟨rfl, rfl, (show ((-1) : Int) ≤ (-1) from by omega), (show (-1) ≤ (63 : Int) from by omega)⟩
def f_X0_isSo (b : Nat) (x1 : Int) (x2 : Int) (x3 : Int) (M : ax_M) : Int := (if x1 < 0 then 0 else (if x1 < 16 then (if x2 = 0 then (if (M (b + 4) x1.toNat) ≠ x3 then 0 else 1) else (if x2 = 1 then (if (M (b + 6) x1.toNat) < x3 then 0 else 1) else (if x2 = 2 then (if (f_J_bitCount (f_X0_writtenIn b x1 M) M) < x3 then 0 else 1) else (if (ax_and (ax_shr (f_X0_foldersIn b x1 (f_X0_writtenIn b x1 M) M) x3) 1) = 0 then 0 else 1)))) else 0))
set_option maxRecDepth 100000 in
set_option maxHeartbeats 4000000 in
theorem c_X0_isSo (d : Nat) (b : Nat) (x1 : Int) (x2 : Int) (x3 : Int) (M : ax_M)  : ax_Met ax_LC gX0_isSo (d + 1) [(2, 0, (b : Int)), (0, 0, x1), (0, 0, x2), (0, 0, x3)] M ((ax_qi 0 1 M) (f_X0_isSo b x1 x2 x3 M)) := by
  refine ax_body (by decide) (fun X => Nat.le_of_ble_eq_true rfl) (fun hok => ?_)
  have hr_x1 : (-2147483648) ≤ x1 ∧ x1 ≤ 2147483647 := hok (0, 0, x1) (by simp)
  have hr_x2 : (-2147483648) ≤ x2 ∧ x2 ≤ 2147483647 := hok (0, 0, x2) (by simp)
  have hr_x3 : (-2147483648) ≤ x3 ∧ x3 ≤ 2147483647 := hok (0, 0, x3) (by simp)
  show ax_W ax_LC gX0_isSo (d + 1) 0 [(0, (2, 0, (b : Int))), (1, (0, 0, x1)), (2, (0, 0, x2)), (3, (0, 0, x3))] [] M _
  unfold f_X0_isSo
  refine ax_lump ax_layC ok_kX0 [(0, .iload_n 1, 1, 0, 0, 0)] (pc' := 1) (lc' := [(0, (2, 0, (b : Int))), (1, (0, 0, x1)), (2, (0, 0, x2)), (3, (0, 0, x3))]) (st' := [(0, 0, x1)]) (M' := M) (C' := True) (by decide +kernel) rfl trivial ?_
  refine ax_zlt (off := 9) (tgt := 10) (by decide +kernel) (by decide) (fun h1 => ?_) (fun h1 => ?_)
  · refine ax_lump ax_layC ok_kX0 [(10, .iconst 0, 1, 0, 0, 0)] (pc' := 11) (lc' := [(0, (2, 0, (b : Int))), (1, (0, 0, x1)), (2, (0, 0, x2)), (3, (0, 0, x3))]) (st' := [(0, 0, 0)]) (M' := M) (C' := True) (by decide +kernel) rfl trivial ?_
    exact ax_zret (by decide +kernel) rfl (by omega) ⟨rfl, rfl, (show (0 : Int) ≤ 0 from by omega), (show 0 ≤ (1 : Int) from by omega)⟩
  · refine ax_lump ax_layC ok_kX0 [(4, .iload_n 1, 1, 0, 0, 0), (5, .bipush 16, 2, 0, 0, 0)] (pc' := 7) (lc' := [(0, (2, 0, (b : Int))), (1, (0, 0, x1)), (2, (0, 0, x2)), (3, (0, 0, x3))]) (st' := [(0, 0, 16), (0, 0, x1)]) (M' := M) (C' := True) (by decide +kernel) rfl trivial ?_
    refine ax_jlt (off := 5) (tgt := 12) (by decide +kernel) (by decide) (fun h2 => ?_) (fun h2 => ?_)
    · refine ax_lump ax_layC ok_kX0 [(12, .iload_n 2, 1, 0, 0, 0)] (pc' := 13) (lc' := [(0, (2, 0, (b : Int))), (1, (0, 0, x1)), (2, (0, 0, x2)), (3, (0, 0, x3))]) (st' := [(0, 0, x2)]) (M' := M) (C' := True) (by decide +kernel) rfl trivial ?_
      refine ax_ite (fun h3 => ?_) (fun h3 => ?_)
      · refine ax_swIn (dflt := 77) (lo := 0) (hi := 2) (off := 27) (offs := #[27, 43, 59]) (len := 27) (tgt := 40) (by decide +kernel) (by omega) (by omega) (by rw [h3]; rfl) (by decide) ?_
        refine ax_lump ax_layC ok_kX0 [(40, .aload_n 0, 1, 0, 0, 0), (41, .getfield 21, 3, 0, 3, 0), (44, .iload_n 1, 1, 0, 0, 0), (45, .iaload, 1, 0, 0, 0), (46, .iload_n 3, 1, 0, 0, 0)] (pc' := 47) (lc' := [(0, (2, 0, (b : Int))), (1, (0, 0, x1)), (2, (0, 0, x2)), (3, (0, 0, x3))]) (st' := [(0, 0, x3), (0, 0, (M (b + 4) x1.toNat))]) (M' := M) (C' := (True ∧ (0 ≤ x1 ∧ x1 < ((16 : Nat) : Int)))) (by decide +kernel) rfl ⟨trivial, by omega⟩ ?_
        refine ax_jne (off := 7) (tgt := 54) (by decide +kernel) (by decide) (fun h4 => ?_) (fun h4 => ?_)
        · refine ax_lump ax_layC ok_kX0 [(54, .iconst 0, 1, 0, 0, 0)] (pc' := 55) (lc' := [(0, (2, 0, (b : Int))), (1, (0, 0, x1)), (2, (0, 0, x2)), (3, (0, 0, x3))]) (st' := [(0, 0, 0)]) (M' := M) (C' := True) (by decide +kernel) rfl trivial ?_
          exact ax_zret (by decide +kernel) rfl (by omega) ⟨rfl, rfl, (show (0 : Int) ≤ 0 from by omega), (show 0 ≤ (1 : Int) from by omega)⟩
        · refine ax_lump ax_layC ok_kX0 [(50, .iconst 1, 1, 0, 0, 0), (51, .goto 4, 3, 55, 0, 0)] (pc' := 55) (lc' := [(0, (2, 0, (b : Int))), (1, (0, 0, x1)), (2, (0, 0, x2)), (3, (0, 0, x3))]) (st' := [(0, 0, 1)]) (M' := M) (C' := True) (by decide +kernel) rfl trivial ?_
          exact ax_zret (by decide +kernel) rfl (by omega) ⟨rfl, rfl, (show (0 : Int) ≤ 1 from by omega), (show 1 ≤ (1 : Int) from by omega)⟩
      · refine ax_ite (fun h5 => ?_) (fun h5 => ?_)
        · refine ax_swIn (dflt := 77) (lo := 0) (hi := 2) (off := 43) (offs := #[27, 43, 59]) (len := 27) (tgt := 56) (by decide +kernel) (by omega) (by omega) (by rw [h5]; rfl) (by decide) ?_
          refine ax_lump ax_layC ok_kX0 [(56, .aload_n 0, 1, 0, 0, 0), (57, .getfield 27, 3, 0, 5, 0), (60, .iload_n 1, 1, 0, 0, 0), (61, .iaload, 1, 0, 0, 0), (62, .iload_n 3, 1, 0, 0, 0)] (pc' := 63) (lc' := [(0, (2, 0, (b : Int))), (1, (0, 0, x1)), (2, (0, 0, x2)), (3, (0, 0, x3))]) (st' := [(0, 0, x3), (0, 0, (M (b + 6) x1.toNat))]) (M' := M) (C' := (True ∧ (0 ≤ x1 ∧ x1 < ((16 : Nat) : Int)))) (by decide +kernel) rfl ⟨trivial, by omega⟩ ?_
          refine ax_jlt (off := 7) (tgt := 70) (by decide +kernel) (by decide) (fun h6 => ?_) (fun h6 => ?_)
          · refine ax_lump ax_layC ok_kX0 [(70, .iconst 0, 1, 0, 0, 0)] (pc' := 71) (lc' := [(0, (2, 0, (b : Int))), (1, (0, 0, x1)), (2, (0, 0, x2)), (3, (0, 0, x3))]) (st' := [(0, 0, 0)]) (M' := M) (C' := True) (by decide +kernel) rfl trivial ?_
            exact ax_zret (by decide +kernel) rfl (by omega) ⟨rfl, rfl, (show (0 : Int) ≤ 0 from by omega), (show 0 ≤ (1 : Int) from by omega)⟩
          · refine ax_lump ax_layC ok_kX0 [(66, .iconst 1, 1, 0, 0, 0), (67, .goto 4, 3, 71, 0, 0)] (pc' := 71) (lc' := [(0, (2, 0, (b : Int))), (1, (0, 0, x1)), (2, (0, 0, x2)), (3, (0, 0, x3))]) (st' := [(0, 0, 1)]) (M' := M) (C' := True) (by decide +kernel) rfl trivial ?_
            exact ax_zret (by decide +kernel) rfl (by omega) ⟨rfl, rfl, (show (0 : Int) ≤ 1 from by omega), (show 1 ≤ (1 : Int) from by omega)⟩
        · refine ax_ite (fun h7 => ?_) (fun h7 => ?_)
          · refine ax_swIn (dflt := 77) (lo := 0) (hi := 2) (off := 59) (offs := #[27, 43, 59]) (len := 27) (tgt := 72) (by decide +kernel) (by omega) (by omega) (by rw [h7]; rfl) (by decide) ?_
            refine ax_lump ax_layC ok_kX0 [(72, .aload_n 0, 1, 0, 0, 0), (73, .iload_n 1, 1, 0, 0, 0)] (pc' := 74) (lc' := [(0, (2, 0, (b : Int))), (1, (0, 0, x1)), (2, (0, 0, x2)), (3, (0, 0, x3))]) (st' := [(0, 0, x1), (2, 0, (b : Int))]) (M' := M) (C' := True) (by decide +kernel) rfl trivial ?_
            refine ax_cVi (G1 := gX0_writtenIn) (d1 := d + 0) (i := 172) (n := 1) (as := [(0, 0, x1)]) (st := []) (c := 0) (a := (b : Int)) (by decide +kernel) ax_cls0 calX0_writtenIn (by omega) rfl wt_422 wt_424 ws_26 (Nat.le_of_ble_eq_true rfl) rfl (c_X0_writtenIn d b x1 M) (fun hc8 => ?_)
            refine ax_cSi (G1 := gJ_bitCount) (d1 := d + 0) (i := 178) (n := 1) (as := [(0, 0, (f_X0_writtenIn b x1 M))]) (st := []) (by decide +kernel) calJ_bitCount (by omega) rfl wt_467 wt_468 (Nat.le_of_ble_eq_true rfl) rfl (c_J_bitCount ax_LC ax_layC d (f_X0_writtenIn b x1 M) M) (fun hc9 => ?_)
            refine ax_lump ax_layC ok_kX0 [(80, .iload_n 3, 1, 0, 0, 0)] (pc' := 81) (lc' := [(0, (2, 0, (b : Int))), (1, (0, 0, x1)), (2, (0, 0, x2)), (3, (0, 0, x3))]) (st' := [(0, 0, x3), (0, 0, (f_J_bitCount (f_X0_writtenIn b x1 M) M))]) (M' := M) (C' := True) (by decide +kernel) rfl trivial ?_
            refine ax_jlt (off := 7) (tgt := 88) (by decide +kernel) (by decide) (fun h10 => ?_) (fun h10 => ?_)
            · refine ax_lump ax_layC ok_kX0 [(88, .iconst 0, 1, 0, 0, 0)] (pc' := 89) (lc' := [(0, (2, 0, (b : Int))), (1, (0, 0, x1)), (2, (0, 0, x2)), (3, (0, 0, x3))]) (st' := [(0, 0, 0)]) (M' := M) (C' := True) (by decide +kernel) rfl trivial ?_
              exact ax_zret (by decide +kernel) rfl (by omega) ⟨rfl, rfl, (show (0 : Int) ≤ 0 from by omega), (show 0 ≤ (1 : Int) from by omega)⟩
            · refine ax_lump ax_layC ok_kX0 [(84, .iconst 1, 1, 0, 0, 0), (85, .goto 4, 3, 89, 0, 0)] (pc' := 89) (lc' := [(0, (2, 0, (b : Int))), (1, (0, 0, x1)), (2, (0, 0, x2)), (3, (0, 0, x3))]) (st' := [(0, 0, 1)]) (M' := M) (C' := True) (by decide +kernel) rfl trivial ?_
              exact ax_zret (by decide +kernel) rfl (by omega) ⟨rfl, rfl, (show (0 : Int) ≤ 1 from by omega), (show 1 ≤ (1 : Int) from by omega)⟩
          · refine ax_swOut (dflt := 77) (lo := 0) (hi := 2) (offs := #[27, 43, 59]) (len := 27) (tgt := 90) (by decide +kernel) (by omega) (by decide) ?_
            refine ax_lump ax_layC ok_kX0 [(90, .aload_n 0, 1, 0, 0, 0), (91, .iload_n 1, 1, 0, 0, 0), (92, .aload_n 0, 1, 0, 0, 0), (93, .iload_n 1, 1, 0, 0, 0)] (pc' := 94) (lc' := [(0, (2, 0, (b : Int))), (1, (0, 0, x1)), (2, (0, 0, x2)), (3, (0, 0, x3))]) (st' := [(0, 0, x1), (2, 0, (b : Int)), (0, 0, x1), (2, 0, (b : Int))]) (M' := M) (C' := True) (by decide +kernel) rfl trivial ?_
            refine ax_cVi (G1 := gX0_writtenIn) (d1 := d + 0) (i := 172) (n := 1) (as := [(0, 0, x1)]) (st := [(0, 0, x1), (2, 0, (b : Int))]) (c := 0) (a := (b : Int)) (by decide +kernel) ax_cls0 calX0_writtenIn (by omega) rfl wt_422 wt_424 ws_26 (Nat.le_of_ble_eq_true rfl) rfl (c_X0_writtenIn d b x1 M) (fun hc11 => ?_)
            refine ax_cVi (G1 := gX0_foldersIn) (d1 := d + 0) (i := 175) (n := 2) (as := [(0, 0, x1), (0, 0, (f_X0_writtenIn b x1 M))]) (st := []) (c := 0) (a := (b : Int)) (by decide +kernel) ax_cls0 calX0_foldersIn (by omega) rfl wt_463 wt_465 ws_36 (Nat.le_of_ble_eq_true rfl) rfl (c_X0_foldersIn d b x1 (f_X0_writtenIn b x1 M) M) (fun hc12 => ?_)
            refine ax_lump ax_layC ok_kX0 [(100, .iload_n 3, 1, 0, 0, 0), (101, .ishr, 1, 0, 0, 0), (102, .iconst 1, 1, 0, 0, 0), (103, .iand, 1, 0, 0, 0)] (pc' := 104) (lc' := [(0, (2, 0, (b : Int))), (1, (0, 0, x1)), (2, (0, 0, x2)), (3, (0, 0, x3))]) (st' := [(0, 0, (ax_and (ax_shr (f_X0_foldersIn b x1 (f_X0_writtenIn b x1 M) M) x3) 1))]) (M' := M) (C' := True) (by decide +kernel) rfl trivial ?_
            refine ax_zeq (off := 7) (tgt := 111) (by decide +kernel) (by decide) (fun h13 => ?_) (fun h13 => ?_)
            · refine ax_lump ax_layC ok_kX0 [(111, .iconst 0, 1, 0, 0, 0)] (pc' := 112) (lc' := [(0, (2, 0, (b : Int))), (1, (0, 0, x1)), (2, (0, 0, x2)), (3, (0, 0, x3))]) (st' := [(0, 0, 0)]) (M' := M) (C' := True) (by decide +kernel) rfl trivial ?_
              exact ax_zret (by decide +kernel) rfl (by omega) ⟨rfl, rfl, (show (0 : Int) ≤ 0 from by omega), (show 0 ≤ (1 : Int) from by omega)⟩
            · refine ax_lump ax_layC ok_kX0 [(107, .iconst 1, 1, 0, 0, 0), (108, .goto 4, 3, 112, 0, 0)] (pc' := 112) (lc' := [(0, (2, 0, (b : Int))), (1, (0, 0, x1)), (2, (0, 0, x2)), (3, (0, 0, x3))]) (st' := [(0, 0, 1)]) (M' := M) (C' := True) (by decide +kernel) rfl trivial ?_
              exact ax_zret (by decide +kernel) rfl (by omega) ⟨rfl, rfl, (show (0 : Int) ≤ 1 from by omega), (show 1 ≤ (1 : Int) from by omega)⟩
    · refine ax_lump ax_layC ok_kX0 [(10, .iconst 0, 1, 0, 0, 0)] (pc' := 11) (lc' := [(0, (2, 0, (b : Int))), (1, (0, 0, x1)), (2, (0, 0, x2)), (3, (0, 0, x3))]) (st' := [(0, 0, 0)]) (M' := M) (C' := True) (by decide +kernel) rfl trivial ?_
      exact ax_zret (by decide +kernel) rfl (by omega) ⟨rfl, rfl, (show (0 : Int) ≤ 0 from by omega), (show 0 ≤ (1 : Int) from by omega)⟩
def f_X0_latestOf_B4 (b : Nat) (w1 : Int) (M : ax_M) (i : Nat) (v2 : Int) (kc : Int → Int) (kx : Int → Int) : Int := (if (M (b + 1) i) ≠ w1 then kc v2 else (if v2 = (-1) then kc (i : Int) else (if (f_X0_isLater b (i : Int) v2 M) = 0 then kc v2 else kc (i : Int))))
def f_X0_latestOf_L4 (b : Nat) (w1 : Int) (M : ax_M) : Nat → Nat → Int → (Int → Int) → Int
  | 0, i, v2, kx => kx v2
  | n + 1, i, v2, kx => f_X0_latestOf_B4 b w1 M i v2 (fun u2 => f_X0_latestOf_L4 b w1 M n (i + 1) u2 kx) kx
set_option maxRecDepth 100000 in
set_option maxHeartbeats 4000000 in
theorem wb_X0_latestOf_B4 (d : Nat) (b : Nat) (w1 : Int) (M : ax_M) (i : Nat) (v2 : Int) (kc : Int → Int) (kx : Int → Int)  (hi : 0 ≤ i ∧ i < 64) (hv2 : (-1) ≤ v2 ∧ v2 ≤ 63) (hkc : ∀ (u2 : Int), (-1) ≤ u2 ∧ u2 ≤ 63 → ax_W ax_LC gX0_latestOf (d + 2) 4 [(0, (2, 0, (b : Int))), (1, (0, 0, w1)), (2, (0, 0, u2)), (3, (0, 0, ((i : Int) + 1)))] [] M ((ax_qi (-1) 63 M) (kc u2))) (hkx : ∀ (x2 : Int), (((-1) ≤ x2 ∧ x2 ≤ 63)) → ax_W ax_LC gX0_latestOf (d + 2) 42 [(2, (0, 0, x2))] [] M ((ax_qi (-1) 63 M) (kx x2))) : ax_W ax_LC gX0_latestOf (d + 2) 10 [(0, (2, 0, (b : Int))), (1, (0, 0, w1)), (2, (0, 0, v2)), (3, (0, 0, (i : Int)))] [] M ((ax_qi (-1) 63 M) (f_X0_latestOf_B4 b w1 M i v2 kc kx)) := by
  unfold f_X0_latestOf_B4
  refine ax_lump ax_layC ok_kX0 [(10, .aload_n 0, 1, 0, 0, 0), (11, .getfield 9, 3, 0, 0, 0), (14, .iload_n 3, 1, 0, 0, 0), (15, .iaload, 1, 0, 0, 0), (16, .iload_n 1, 1, 0, 0, 0)] (pc' := 17) (lc' := [(0, (2, 0, (b : Int))), (1, (0, 0, w1)), (2, (0, 0, v2)), (3, (0, 0, (i : Int)))]) (st' := [(0, 0, w1), (0, 0, (M (b + 1) i))]) (M' := M) (C' := (True ∧ (0 ≤ (i : Int) ∧ (i : Int) < ((64 : Nat) : Int)))) (by decide +kernel) rfl ⟨trivial, by omega⟩ ?_
  refine ax_jne (off := 19) (tgt := 36) (by decide +kernel) (by decide) (fun h1 => ?_) (fun h1 => ?_)
  · refine ax_lump ax_layC ok_kX0 [(36, .iinc 3 1, 3, 1, 0, 0), (39, .goto (-35), 3, 4, 0, 0)] (pc' := 4) (lc' := [(3, (0, 0, ((i : Int) + 1))), (0, (2, 0, (b : Int))), (1, (0, 0, w1)), (2, (0, 0, v2))]) (st' := []) (M' := M) (C' := (True ∧ ax_r32 ((i : Int) + 1))) (by decide +kernel) rfl ⟨trivial, ⟨by omega, by omega⟩⟩ ?_
    refine ax_pk [1,2,3,0] (lc' := [(0, (2, 0, (b : Int))), (1, (0, 0, w1)), (2, (0, 0, v2)), (3, (0, 0, ((i : Int) + 1)))]) rfl ?_
    exact hkc v2 (by omega)
  · refine ax_lump ax_layC ok_kX0 [(20, .iload_n 2, 1, 0, 0, 0), (21, .iconst (-1), 1, 0, 0, 0)] (pc' := 22) (lc' := [(0, (2, 0, (b : Int))), (1, (0, 0, w1)), (2, (0, 0, v2)), (3, (0, 0, (i : Int)))]) (st' := [(0, 0, (-1)), (0, 0, v2)]) (M' := M) (C' := True) (by decide +kernel) rfl trivial ?_
    refine ax_jeq (off := 12) (tgt := 34) (by decide +kernel) (by decide) (fun h2 => ?_) (fun h2 => ?_)
    · refine ax_lump ax_layC ok_kX0 [(34, .iload_n 3, 1, 0, 0, 0), (35, .istore_n 2, 1, 0, 0, 0), (36, .iinc 3 1, 3, 1, 0, 0), (39, .goto (-35), 3, 4, 0, 0)] (pc' := 4) (lc' := [(3, (0, 0, ((i : Int) + 1))), (2, (0, 0, (i : Int))), (0, (2, 0, (b : Int))), (1, (0, 0, w1))]) (st' := []) (M' := M) (C' := (True ∧ ax_r32 ((i : Int) + 1))) (by decide +kernel) rfl ⟨trivial, ⟨by omega, by omega⟩⟩ ?_
      refine ax_pk [2,3,1,0] (lc' := [(0, (2, 0, (b : Int))), (1, (0, 0, w1)), (2, (0, 0, (i : Int))), (3, (0, 0, ((i : Int) + 1)))]) rfl ?_
      exact hkc (i : Int) (by omega)
    · refine ax_lump ax_layC ok_kX0 [(25, .aload_n 0, 1, 0, 0, 0), (26, .iload_n 3, 1, 0, 0, 0), (27, .iload_n 2, 1, 0, 0, 0)] (pc' := 28) (lc' := [(0, (2, 0, (b : Int))), (1, (0, 0, w1)), (2, (0, 0, v2)), (3, (0, 0, (i : Int)))]) (st' := [(0, 0, v2), (0, 0, (i : Int)), (2, 0, (b : Int))]) (M' := M) (C' := True) (by decide +kernel) rfl trivial ?_
      refine ax_cVi (G1 := gX0_isLater) (d1 := d + 1) (i := 193) (n := 2) (as := [(0, 0, (i : Int)), (0, 0, v2)]) (st := []) (c := 0) (a := (b : Int)) (by decide +kernel) ax_cls0 calX0_isLater (by omega) rfl wt_418 wt_420 ws_25 (Nat.le_of_ble_eq_true rfl) rfl (c_X0_isLater d b (i : Int) v2 M) (fun hc3 => ?_)
      refine ax_zeq (off := 5) (tgt := 36) (by decide +kernel) (by decide) (fun h4 => ?_) (fun h4 => ?_)
      · refine ax_lump ax_layC ok_kX0 [(36, .iinc 3 1, 3, 1, 0, 0), (39, .goto (-35), 3, 4, 0, 0)] (pc' := 4) (lc' := [(3, (0, 0, ((i : Int) + 1))), (0, (2, 0, (b : Int))), (1, (0, 0, w1)), (2, (0, 0, v2))]) (st' := []) (M' := M) (C' := (True ∧ ax_r32 ((i : Int) + 1))) (by decide +kernel) rfl ⟨trivial, ⟨by omega, by omega⟩⟩ ?_
        refine ax_pk [1,2,3,0] (lc' := [(0, (2, 0, (b : Int))), (1, (0, 0, w1)), (2, (0, 0, v2)), (3, (0, 0, ((i : Int) + 1)))]) rfl ?_
        exact hkc v2 (by omega)
      · refine ax_lump ax_layC ok_kX0 [(34, .iload_n 3, 1, 0, 0, 0), (35, .istore_n 2, 1, 0, 0, 0), (36, .iinc 3 1, 3, 1, 0, 0), (39, .goto (-35), 3, 4, 0, 0)] (pc' := 4) (lc' := [(3, (0, 0, ((i : Int) + 1))), (2, (0, 0, (i : Int))), (0, (2, 0, (b : Int))), (1, (0, 0, w1))]) (st' := []) (M' := M) (C' := (True ∧ ax_r32 ((i : Int) + 1))) (by decide +kernel) rfl ⟨trivial, ⟨by omega, by omega⟩⟩ ?_
        refine ax_pk [2,3,1,0] (lc' := [(0, (2, 0, (b : Int))), (1, (0, 0, w1)), (2, (0, 0, (i : Int))), (3, (0, 0, ((i : Int) + 1)))]) rfl ?_
        exact hkc (i : Int) (by omega)
set_option maxRecDepth 100000 in
set_option maxHeartbeats 4000000 in
theorem w_X0_latestOf_L4 (d : Nat) (b : Nat) (w1 : Int) (M : ax_M) (kx : Int → Int)  (hkx : ∀ (x2 : Int), (((-1) ≤ x2 ∧ x2 ≤ 63)) → ax_W ax_LC gX0_latestOf (d + 2) 42 [(2, (0, 0, x2))] [] M ((ax_qi (-1) 63 M) (kx x2))) : ∀ (n : Nat) (i : Nat) (v2 : Int), 0 ≤ i ∧ i + n = 64 → (-1) ≤ v2 ∧ v2 ≤ 63 → ax_W ax_LC gX0_latestOf (d + 2) 4 [(0, (2, 0, (b : Int))), (1, (0, 0, w1)), (2, (0, 0, v2)), (3, (0, 0, (i : Int)))] [] M ((ax_qi (-1) 63 M) (f_X0_latestOf_L4 b w1 M n i v2 kx)) := by
  intro n
  induction n with
  | zero =>
    intro i v2 hin hv2
    refine ax_lump ax_layC ok_kX0 [(4, .iload_n 3, 1, 0, 0, 0), (5, .bipush 64, 2, 0, 0, 0)] (pc' := 7) (lc' := [(0, (2, 0, (b : Int))), (1, (0, 0, w1)), (2, (0, 0, v2)), (3, (0, 0, (i : Int)))]) (st' := [(0, 0, 64), (0, 0, (i : Int))]) (M' := M) (C' := True) (by decide +kernel) rfl trivial ?_
    refine ax_icmp_ge (off := 35) (tgt := 42) (by decide +kernel) (by decide) (fun h => ?_) (fun h => ?_)
    · refine ax_pk [2] (lc' := [(2, (0, 0, v2))]) rfl ?_
      exact hkx v2 (by omega)
    · exfalso; omega
  | succ n ih =>
    intro i v2 hin hv2
    refine ax_lump ax_layC ok_kX0 [(4, .iload_n 3, 1, 0, 0, 0), (5, .bipush 64, 2, 0, 0, 0)] (pc' := 7) (lc' := [(0, (2, 0, (b : Int))), (1, (0, 0, w1)), (2, (0, 0, v2)), (3, (0, 0, (i : Int)))]) (st' := [(0, 0, 64), (0, 0, (i : Int))]) (M' := M) (C' := True) (by decide +kernel) rfl trivial ?_
    refine ax_icmp_ge (off := 35) (tgt := 42) (by decide +kernel) (by decide) (fun h => ?_) (fun h => ?_)
    · exfalso; omega
    · exact wb_X0_latestOf_B4 d b w1 M i v2 _ kx  (by omega) hv2 (fun u2 hu2 => ih (i + 1) u2 (by omega) hu2) hkx
def f_X0_latestOf (b : Nat) (x1 : Int) (M : ax_M) : Int := f_X0_latestOf_L4 b x1 M 64 0 (-1) (fun z5 => z5)
set_option maxRecDepth 100000 in
set_option maxHeartbeats 4000000 in
theorem c_X0_latestOf (d : Nat) (b : Nat) (x1 : Int) (M : ax_M)  : ax_Met ax_LC gX0_latestOf (d + 2) [(2, 0, (b : Int)), (0, 0, x1)] M ((ax_qi (-1) 63 M) (f_X0_latestOf b x1 M)) := by
  refine ax_body (by decide) (fun X => Nat.le_of_ble_eq_true rfl) (fun hok => ?_)
  have hr_x1 : (-2147483648) ≤ x1 ∧ x1 ≤ 2147483647 := hok (0, 0, x1) (by simp)
  show ax_W ax_LC gX0_latestOf (d + 2) 0 [(0, (2, 0, (b : Int))), (1, (0, 0, x1))] [] M _
  unfold f_X0_latestOf
  refine ax_lump ax_layC ok_kX0 [(0, .iconst (-1), 1, 0, 0, 0), (1, .istore_n 2, 1, 0, 0, 0), (2, .iconst 0, 1, 0, 0, 0), (3, .istore_n 3, 1, 0, 0, 0)] (pc' := 4) (lc' := [(3, (0, 0, 0)), (2, (0, 0, (-1))), (0, (2, 0, (b : Int))), (1, (0, 0, x1))]) (st' := []) (M' := M) (C' := True) (by decide +kernel) rfl trivial ?_
  refine ax_pk [2,3,1,0] (lc' := [(0, (2, 0, (b : Int))), (1, (0, 0, x1)), (2, (0, 0, (-1))), (3, (0, 0, 0))]) rfl ?_
  refine w_X0_latestOf_L4 d b x1 M _  (fun z5 hx_5 => ?_) 64 0 (-1) (by omega) (by omega)
  refine ax_lump ax_layC ok_kX0 [(42, .iload_n 2, 1, 0, 0, 0)] (pc' := 43) (lc' := [(2, (0, 0, z5))]) (st' := [(0, 0, z5)]) (M' := M) (C' := True) (by decide +kernel) rfl trivial ?_
  exact ax_iret (by decide +kernel) rfl ⟨rfl, rfl, (show ((-1) : Int) ≤ z5 from by omega), (show z5 ≤ (63 : Int) from by omega)⟩
