def f_X3_undo_B26  (i : Nat)  (M : ax_M) (kc : ax_M → Prop × Int × ax_M) (kx : ax_M → Prop × Int × ax_M) : Prop × Int × ax_M := ax_rq ((0 ≤ ((274 * (M 0 24)) + (i : Int)) ∧ ((274 * (M 0 24)) + (i : Int)) < ((2466 : Nat) : Int))) (ax_bd (ax_up M 7 i (M 13 ((274 * (M 0 24)) + (i : Int)).toNat)) (fun M8 => kc M8))
def f_X3_undo_L26  : Nat → Nat → ax_M → (ax_M → Prop × Int × ax_M) → Prop × Int × ax_M
  | 0, i, M, kx => kx M
  | n + 1, i, M, kx => f_X3_undo_B26  i  M (fun M9 => f_X3_undo_L26  n (i + 1) M9 kx) kx
set_option maxRecDepth 100000 in
set_option maxHeartbeats 4000000 in
theorem wb_X3_undo_B26 (d : Nat)  (i : Nat)  (M : ax_M) (kc : ax_M → Prop × Int × ax_M) (kx : ax_M → Prop × Int × ax_M)  (hi : 0 ≤ i ∧ i < 274)  (hkc : ∀ (M9 : ax_M), (kc M9).1 → ax_W ax_LM gX3_undo (d + 0) 26 [(0, (2, 3, 0)), (1, (0, 0, ((i : Int) + 1)))] [] M9 ((ax_qm (-1) 9) (kc M9).2)) (hkx : ∀ (M9 : ax_M), (True) → (kx M9).1 → ax_W ax_LM gX3_undo (d + 0) 60 [(0, (2, 3, 0))] [] M9 ((ax_qm (-1) 9) (kx M9).2)) (hX : (f_X3_undo_B26  i  M kc kx).1) : ax_W ax_LM gX3_undo (d + 0) 33 [(0, (2, 3, 0)), (1, (0, 0, (i : Int)))] [] M ((ax_qm (-1) 9) (f_X3_undo_B26  i  M kc kx).2) := by
  unfold f_X3_undo_B26 at hX ⊢
  refine ax_rq_s hX (fun hS7 hX => ?_)
  refine ax_fact (i := 0) (c := 3) (f := 24) (hi := 9) (s := 0) (by simp) rfl rfl rfl (fun hf6 => ?_)
  have hf6 : 0 ≤ (M 0 24) ∧ (M 0 24) ≤ 9 := hf6
  refine ax_lump ax_layM ok_kX3 [(33, .aload_n 0, 1, 0, 0, 0), (34, .getfield 138, 3, 3, 14, 0), (37, .iload_n 1, 1, 0, 0, 0), (38, .aload_n 0, 1, 0, 0, 0), (39, .getfield 156, 3, 3, 25, 0), (42, .sipush 274, 3, 0, 0, 0), (45, .aload_n 0, 1, 0, 0, 0), (46, .getfield 318, 3, 3, 24, 0), (49, .imul, 1, 1, 0, 0), (50, .iload_n 1, 1, 0, 0, 0), (51, .iadd, 1, 1, 0, 0), (52, .iaload, 1, 0, 0, 0), (53, .iastore, 1, 0, 0, 0)] (pc' := 54) (lc' := [(0, (2, 3, 0)), (1, (0, 0, (i : Int)))]) (st' := []) (M' := (ax_up M 7 i (M 13 ((274 * (M 0 24)) + (i : Int)).toNat))) (C' := ((((True ∧ ax_r32 (274 * (M 0 24))) ∧ ax_r32 ((274 * (M 0 24)) + (i : Int))) ∧ (0 ≤ ((274 * (M 0 24)) + (i : Int)) ∧ ((274 * (M 0 24)) + (i : Int)) < ((2466 : Nat) : Int))) ∧ (0 ≤ (i : Int) ∧ (i : Int) < ((274 : Nat) : Int)))) (by decide +kernel) rfl ⟨⟨⟨⟨trivial, ⟨by omega, by omega⟩⟩, ⟨by omega, by omega⟩⟩, hS7⟩, by omega⟩ ?_
  refine ax_bdMe_s hX (fun M8 hM_M8 hX => ?_)
  have hk_k9 : (M8 0 24) = (M 0 24) := by rw [hM_M8]; exact ax_up_o1 (by omega)
  refine ax_lump ax_layM ok_kX3 [(54, .iinc 1 1, 3, 1, 0, 0), (57, .goto (-31), 3, 26, 0, 0)] (pc' := 26) (lc' := [(1, (0, 0, ((i : Int) + 1))), (0, (2, 3, 0))]) (st' := []) (M' := M8) (C' := (True ∧ ax_r32 ((i : Int) + 1))) (by decide +kernel) rfl ⟨trivial, ⟨by omega, by omega⟩⟩ ?_
  refine ax_pk [1,0] (lc' := [(0, (2, 3, 0)), (1, (0, 0, ((i : Int) + 1)))]) rfl ?_
  exact hkc M8  hX
set_option maxRecDepth 100000 in
set_option maxHeartbeats 4000000 in
theorem w_X3_undo_L26 (d : Nat)  (kx : ax_M → Prop × Int × ax_M)  (hkx : ∀ (M9 : ax_M), (True) → (kx M9).1 → ax_W ax_LM gX3_undo (d + 0) 60 [(0, (2, 3, 0))] [] M9 ((ax_qm (-1) 9) (kx M9).2)) : ∀ (n : Nat) (i : Nat) (M : ax_M), 0 ≤ i ∧ i + n = 274 → (f_X3_undo_L26  n i  M kx).1 → ax_W ax_LM gX3_undo (d + 0) 26 [(0, (2, 3, 0)), (1, (0, 0, (i : Int)))] [] M ((ax_qm (-1) 9) (f_X3_undo_L26  n i  M kx).2) := by
  intro n
  induction n with
  | zero =>
    intro i M hin hX
    refine ax_lump ax_layM ok_kX3 [(26, .iload_n 1, 1, 0, 0, 0), (27, .sipush 274, 3, 0, 0, 0)] (pc' := 30) (lc' := [(0, (2, 3, 0)), (1, (0, 0, (i : Int)))]) (st' := [(0, 0, 274), (0, 0, (i : Int))]) (M' := M) (C' := True) (by decide +kernel) rfl trivial ?_
    refine ax_icmp_ge (off := 30) (tgt := 60) (by decide +kernel) (by decide) (fun h => ?_) (fun h => ?_)
    · refine ax_pk [0] (lc' := [(0, (2, 3, 0))]) rfl ?_
      exact hkx M trivial hX
    · exfalso; omega
  | succ n ih =>
    intro i M hin hX
    refine ax_lump ax_layM ok_kX3 [(26, .iload_n 1, 1, 0, 0, 0), (27, .sipush 274, 3, 0, 0, 0)] (pc' := 30) (lc' := [(0, (2, 3, 0)), (1, (0, 0, (i : Int)))]) (st' := [(0, 0, 274), (0, 0, (i : Int))]) (M' := M) (C' := True) (by decide +kernel) rfl trivial ?_
    refine ax_icmp_ge (off := 30) (tgt := 60) (by decide +kernel) (by decide) (fun h => ?_) (fun h => ?_)
    · exfalso; omega
    · exact wb_X3_undo_B26 d  i  M _ kx  (by omega)  (fun M9 hX => ih (i + 1)  M9 (by omega)  hX) hkx hX
def f_X3_undo  (M : ax_M) : Prop × Int × ax_M := ax_bd (ax_up M 0 0 0) (fun M1 => (if (M1 0 24) ≠ 0 then ax_bd (ax_up M1 0 24 ((M1 0 24) - 1)) (fun M4 => f_X3_undo_L26  274 0  M4 (fun M10 => (True, ((M10 0 24), M10)))) else (True, ((-1), M1))))
set_option maxRecDepth 100000 in
set_option maxHeartbeats 4000000 in
theorem c_X3_undo (d : Nat)  (M : ax_M)  (hX : (f_X3_undo  M).1) : ax_Met ax_LM gX3_undo (d + 0) [(2, 3, 0)] M ((ax_qm (-1) 9) (f_X3_undo  M).2) := by
  refine ax_body (by decide) (fun X => Nat.le_of_ble_eq_true rfl) (fun hok => ?_)
  show ax_W ax_LM gX3_undo (d + 0) 0 [(0, (2, 3, 0))] [] M _
  unfold f_X3_undo at hX ⊢
  refine ax_lump ax_layM ok_kX3 [(0, .aload_n 0, 1, 0, 0, 0), (1, .iconst 0, 1, 0, 0, 0), (2, .putfield 3, 3, 3, 0, 0)] (pc' := 5) (lc' := [(0, (2, 3, 0))]) (st' := []) (M' := (ax_up M 0 0 0)) (C' := (True ∧ (0 ≤ 0 ∧ 0 < ((2 : Nat) : Int)))) (by decide +kernel) rfl ⟨trivial, by omega⟩ ?_
  refine ax_bdMe_s hX (fun M1 hM_M1 hX => ?_)
  refine ax_fact (i := 0) (c := 3) (f := 24) (hi := 9) (s := 0) (by simp) rfl rfl rfl (fun hf2 => ?_)
  have hf2 : 0 ≤ (M1 0 24) ∧ (M1 0 24) ≤ 9 := hf2
  refine ax_lump ax_layM ok_kX3 [(5, .aload_n 0, 1, 0, 0, 0), (6, .getfield 318, 3, 3, 24, 0)] (pc' := 9) (lc' := [(0, (2, 3, 0))]) (st' := [(0, 0, (M1 0 24))]) (M' := M1) (C' := True) (by decide +kernel) rfl trivial ?_
  refine ax_zne_s hX (off := 5) (tgt := 14) (by decide +kernel) (by decide) (fun h3 hX => ?_) (fun h3 hX => ?_)
  · refine ax_lump ax_layM ok_kX3 [(14, .aload_n 0, 1, 0, 0, 0), (15, .dup, 1, 0, 0, 0), (16, .getfield 318, 3, 3, 24, 0), (19, .iconst 1, 1, 0, 0, 0), (20, .isub, 1, 1, 0, 0), (21, .putfield 318, 3, 3, 24, 0)] (pc' := 24) (lc' := [(0, (2, 3, 0))]) (st' := []) (M' := (ax_up M1 0 24 ((M1 0 24) - 1))) (C' := ((True ∧ ax_r32 ((M1 0 24) - 1)) ∧ (0 ≤ ((M1 0 24) - 1) ∧ ((M1 0 24) - 1) < ((10 : Nat) : Int)))) (by decide +kernel) rfl ⟨⟨trivial, ⟨by omega, by omega⟩⟩, by omega⟩ ?_
    refine ax_bdMe_s hX (fun M4 hM_M4 hX => ?_)
    have hk_k5 : (M4 0 24) = ((M1 0 24) - 1) := by rw [hM_M4]; exact ax_up_s
    refine ax_lump ax_layM ok_kX3 [(24, .iconst 0, 1, 0, 0, 0), (25, .istore_n 1, 1, 0, 0, 0)] (pc' := 26) (lc' := [(1, (0, 0, 0)), (0, (2, 3, 0))]) (st' := []) (M' := M4) (C' := True) (by decide +kernel) rfl trivial ?_
    refine ax_pk [1,0] (lc' := [(0, (2, 3, 0)), (1, (0, 0, 0))]) rfl ?_
    refine w_X3_undo_L26 d  _  (fun M10 hx_10 hX => ?_) 274 0  M4 (by omega)  hX
    refine ax_fact (i := 0) (c := 3) (f := 24) (hi := 9) (s := 0) (by simp) rfl rfl rfl (fun hf11 => ?_)
    have hf11 : 0 ≤ (M10 0 24) ∧ (M10 0 24) ≤ 9 := hf11
    refine ax_lump ax_layM ok_kX3 [(60, .aload_n 0, 1, 0, 0, 0), (61, .getfield 318, 3, 3, 24, 0)] (pc' := 64) (lc' := [(0, (2, 3, 0))]) (st' := [(0, 0, (M10 0 24))]) (M' := M10) (C' := True) (by decide +kernel) rfl trivial ?_
    exact ax_iret (by decide +kernel) rfl ⟨rfl, rfl, (show ((-1) : Int) ≤ (M10 0 24) from by omega), (show (M10 0 24) ≤ (9 : Int) from by omega)⟩
  · refine ax_lump ax_layM ok_kX3 [(12, .iconst (-1), 1, 0, 0, 0)] (pc' := 13) (lc' := [(0, (2, 3, 0))]) (st' := [(0, 0, (-1))]) (M' := M1) (C' := True) (by decide +kernel) rfl trivial ?_
    exact ax_iret (by decide +kernel) rfl ⟨rfl, rfl, (show ((-1) : Int) ≤ (-1) from by omega), (show (-1) ≤ (9 : Int) from by omega)⟩
def f_X3_block_B37 (w1 : Int) (w2 : Int) (M : ax_M) (i : Nat) (v3 : Int) (v4 : Int) (kc : Int → Int → Int × ax_M) (kx : Int → Int → Int × ax_M) : Int × ax_M := (if (f_X3_isWritten 7 ((4 * w1) + (i : Int)) M) = 0 then ax_bd (ax_or v3 0) (fun y9 => (if (f_X3_isLatest 7 ((4 * w1) + (i : Int)) M) = 0 then ax_bd (ax_or v4 0) (fun y12 => kc y9 y12) else ax_bd (ax_or v4 (ax_shl 1 (i : Int))) (fun y13 => kc y9 y13))) else ax_bd (ax_or v3 (ax_shl 1 (i : Int))) (fun y14 => (if (f_X3_isLatest 7 ((4 * w1) + (i : Int)) M) = 0 then ax_bd (ax_or v4 0) (fun y17 => kc y14 y17) else ax_bd (ax_or v4 (ax_shl 1 (i : Int))) (fun y18 => kc y14 y18))))
def f_X3_block_L37 (w1 : Int) (w2 : Int) (M : ax_M) : Nat → Nat → Int → Int → (Int → Int → Int × ax_M) → Int × ax_M
  | 0, i, v3, v4, kx => kx v3 v4
  | n + 1, i, v3, v4, kx => f_X3_block_B37 w1 w2 M i v3 v4 (fun u3 u4 => f_X3_block_L37 w1 w2 M n (i + 1) u3 u4 kx) kx
set_option maxRecDepth 100000 in
set_option maxHeartbeats 4000000 in
theorem wb_X3_block_B37 (d : Nat) (w1 : Int) (w2 : Int) (M : ax_M) (i : Nat) (v3 : Int) (v4 : Int) (kc : Int → Int → Int × ax_M) (kx : Int → Int → Int × ax_M) (hw_w1 : 0 ≤ w1 ∧ w1 ≤ 15) (hw_w2 : 0 ≤ w2 ∧ w2 ≤ 4) (hi : 0 ≤ i ∧ i < 4)  (hkc : ∀ (u3 : Int) (u4 : Int), ax_W ax_LM gX3_block (d + 4) 37 [(0, (2, 3, 0)), (1, (0, 0, w1)), (2, (0, 0, w2)), (3, (0, 0, u3)), (4, (0, 0, u4)), (5, (0, 0, ((i : Int) + 1)))] [] M ((ax_qm (-2147483648) 2147483647) (kc u3 u4))) (hkx : ∀ (x3 : Int) (x4 : Int), (True) → ax_W ax_LM gX3_block (d + 4) 105 [(0, (2, 3, 0)), (1, (0, 0, w1)), (2, (0, 0, w2)), (3, (0, 0, x3)), (4, (0, 0, x4))] [] M ((ax_qm (-2147483648) 2147483647) (kx x3 x4))) : ax_W ax_LM gX3_block (d + 4) 43 [(0, (2, 3, 0)), (1, (0, 0, w1)), (2, (0, 0, w2)), (3, (0, 0, v3)), (4, (0, 0, v4)), (5, (0, 0, (i : Int)))] [] M ((ax_qm (-2147483648) 2147483647) (f_X3_block_B37 w1 w2 M i v3 v4 kc kx)) := by
  unfold f_X3_block_B37
  refine ax_lump ax_layM ok_kX3 [(43, .iload_n 3, 1, 0, 0, 0), (44, .aload_n 0, 1, 0, 0, 0), (45, .getfield 138, 3, 3, 14, 0), (48, .iconst 4, 1, 0, 0, 0), (49, .iload_n 1, 1, 0, 0, 0), (50, .imul, 1, 1, 0, 0), (51, .iload 5, 2, 0, 0, 0), (53, .iadd, 1, 1, 0, 0)] (pc' := 54) (lc' := [(0, (2, 3, 0)), (1, (0, 0, w1)), (2, (0, 0, w2)), (3, (0, 0, v3)), (4, (0, 0, v4)), (5, (0, 0, (i : Int)))]) (st' := [(0, 0, ((4 * w1) + (i : Int))), (3, 274, 7), (0, 0, v3)]) (M' := M) (C' := ((True ∧ ax_r32 (4 * w1)) ∧ ax_r32 ((4 * w1) + (i : Int)))) (by decide +kernel) rfl ⟨⟨trivial, ⟨by omega, by omega⟩⟩, ⟨by omega, by omega⟩⟩ ?_
  refine ax_cSi (G1 := gX3_isWritten) (d1 := d + 0) (i := 195) (n := 2) (as := [(3, 274, 7), (0, 0, ((4 * w1) + (i : Int)))]) (st := [(0, 0, v3)]) (by decide +kernel) calX3_isWritten (by omega) rfl wt_1098 wt_1099 (Nat.le_of_ble_eq_true rfl) rfl (c_X3_isWritten d 7 ((4 * w1) + (i : Int)) M (by omega)) (fun hc7 => ?_)
  refine ax_zeq (off := 10) (tgt := 67) (by decide +kernel) (by decide) (fun h8 => ?_) (fun h8 => ?_)
  · refine ax_lump ax_layM ok_kX3 [(67, .iconst 0, 1, 0, 0, 0), (68, .ior, 1, 0, 0, 0), (69, .istore_n 3, 1, 0, 0, 0)] (pc' := 70) (lc' := [(3, (0, 0, (ax_or v3 0))), (0, (2, 3, 0)), (1, (0, 0, w1)), (2, (0, 0, w2)), (4, (0, 0, v4)), (5, (0, 0, (i : Int)))]) (st' := []) (M' := M) (C' := True) (by decide +kernel) rfl trivial ?_
    refine ax_bdI0 (e := (ax_or v3 0)) (fun y9 => [(3, (0, 0, y9)), (0, (2, 3, 0)), (1, (0, 0, w1)), (2, (0, 0, w2)), (4, (0, 0, v4)), (5, (0, 0, (i : Int)))]) (fun y9 => []) (fun y9 => ?_)
    refine ax_lump ax_layM ok_kX3 [(70, .iload 4, 2, 0, 0, 0), (72, .aload_n 0, 1, 0, 0, 0), (73, .getfield 138, 3, 3, 14, 0), (76, .iconst 4, 1, 0, 0, 0), (77, .iload_n 1, 1, 0, 0, 0), (78, .imul, 1, 1, 0, 0), (79, .iload 5, 2, 0, 0, 0), (81, .iadd, 1, 1, 0, 0)] (pc' := 82) (lc' := [(3, (0, 0, y9)), (0, (2, 3, 0)), (1, (0, 0, w1)), (2, (0, 0, w2)), (4, (0, 0, v4)), (5, (0, 0, (i : Int)))]) (st' := [(0, 0, ((4 * w1) + (i : Int))), (3, 274, 7), (0, 0, v4)]) (M' := M) (C' := ((True ∧ ax_r32 (4 * w1)) ∧ ax_r32 ((4 * w1) + (i : Int)))) (by decide +kernel) rfl ⟨⟨trivial, ⟨by omega, by omega⟩⟩, ⟨by omega, by omega⟩⟩ ?_
    refine ax_cSi (G1 := gX3_isLatest) (d1 := d + 3) (i := 245) (n := 2) (as := [(3, 274, 7), (0, 0, ((4 * w1) + (i : Int)))]) (st := [(0, 0, v4)]) (by decide +kernel) calX3_isLatest (by omega) rfl wt_1101 wt_1102 (Nat.le_of_ble_eq_true rfl) rfl (c_X3_isLatest d 7 ((4 * w1) + (i : Int)) M (by omega)) (fun hc10 => ?_)
    refine ax_zeq (off := 10) (tgt := 95) (by decide +kernel) (by decide) (fun h11 => ?_) (fun h11 => ?_)
    · refine ax_lump ax_layM ok_kX3 [(95, .iconst 0, 1, 0, 0, 0), (96, .ior, 1, 0, 0, 0), (97, .istore 4, 2, 0, 0, 0)] (pc' := 99) (lc' := [(4, (0, 0, (ax_or v4 0))), (3, (0, 0, y9)), (0, (2, 3, 0)), (1, (0, 0, w1)), (2, (0, 0, w2)), (5, (0, 0, (i : Int)))]) (st' := []) (M' := M) (C' := True) (by decide +kernel) rfl trivial ?_
      refine ax_bdI0 (e := (ax_or v4 0)) (fun y12 => [(4, (0, 0, y12)), (3, (0, 0, y9)), (0, (2, 3, 0)), (1, (0, 0, w1)), (2, (0, 0, w2)), (5, (0, 0, (i : Int)))]) (fun y12 => []) (fun y12 => ?_)
      refine ax_lump ax_layM ok_kX3 [(99, .iinc 5 1, 3, 1, 0, 0), (102, .goto (-65), 3, 37, 0, 0)] (pc' := 37) (lc' := [(5, (0, 0, ((i : Int) + 1))), (4, (0, 0, y12)), (3, (0, 0, y9)), (0, (2, 3, 0)), (1, (0, 0, w1)), (2, (0, 0, w2))]) (st' := []) (M' := M) (C' := (True ∧ ax_r32 ((i : Int) + 1))) (by decide +kernel) rfl ⟨trivial, ⟨by omega, by omega⟩⟩ ?_
      refine ax_pk [3,4,5,2,1,0] (lc' := [(0, (2, 3, 0)), (1, (0, 0, w1)), (2, (0, 0, w2)), (3, (0, 0, y9)), (4, (0, 0, y12)), (5, (0, 0, ((i : Int) + 1)))]) rfl ?_
      exact hkc y9 y12 
    · refine ax_lump ax_layM ok_kX3 [(88, .iconst 1, 1, 0, 0, 0), (89, .iload 5, 2, 0, 0, 0), (91, .ishl, 1, 0, 0, 0), (92, .goto 4, 3, 96, 0, 0), (96, .ior, 1, 0, 0, 0), (97, .istore 4, 2, 0, 0, 0)] (pc' := 99) (lc' := [(4, (0, 0, (ax_or v4 (ax_shl 1 (i : Int))))), (3, (0, 0, y9)), (0, (2, 3, 0)), (1, (0, 0, w1)), (2, (0, 0, w2)), (5, (0, 0, (i : Int)))]) (st' := []) (M' := M) (C' := True) (by decide +kernel) rfl trivial ?_
      refine ax_bdI0 (e := (ax_or v4 (ax_shl 1 (i : Int)))) (fun y13 => [(4, (0, 0, y13)), (3, (0, 0, y9)), (0, (2, 3, 0)), (1, (0, 0, w1)), (2, (0, 0, w2)), (5, (0, 0, (i : Int)))]) (fun y13 => []) (fun y13 => ?_)
      refine ax_lump ax_layM ok_kX3 [(99, .iinc 5 1, 3, 1, 0, 0), (102, .goto (-65), 3, 37, 0, 0)] (pc' := 37) (lc' := [(5, (0, 0, ((i : Int) + 1))), (4, (0, 0, y13)), (3, (0, 0, y9)), (0, (2, 3, 0)), (1, (0, 0, w1)), (2, (0, 0, w2))]) (st' := []) (M' := M) (C' := (True ∧ ax_r32 ((i : Int) + 1))) (by decide +kernel) rfl ⟨trivial, ⟨by omega, by omega⟩⟩ ?_
      refine ax_pk [3,4,5,2,1,0] (lc' := [(0, (2, 3, 0)), (1, (0, 0, w1)), (2, (0, 0, w2)), (3, (0, 0, y9)), (4, (0, 0, y13)), (5, (0, 0, ((i : Int) + 1)))]) rfl ?_
      exact hkc y9 y13 
  · refine ax_lump ax_layM ok_kX3 [(60, .iconst 1, 1, 0, 0, 0), (61, .iload 5, 2, 0, 0, 0), (63, .ishl, 1, 0, 0, 0), (64, .goto 4, 3, 68, 0, 0), (68, .ior, 1, 0, 0, 0), (69, .istore_n 3, 1, 0, 0, 0)] (pc' := 70) (lc' := [(3, (0, 0, (ax_or v3 (ax_shl 1 (i : Int))))), (0, (2, 3, 0)), (1, (0, 0, w1)), (2, (0, 0, w2)), (4, (0, 0, v4)), (5, (0, 0, (i : Int)))]) (st' := []) (M' := M) (C' := True) (by decide +kernel) rfl trivial ?_
    refine ax_bdI0 (e := (ax_or v3 (ax_shl 1 (i : Int)))) (fun y14 => [(3, (0, 0, y14)), (0, (2, 3, 0)), (1, (0, 0, w1)), (2, (0, 0, w2)), (4, (0, 0, v4)), (5, (0, 0, (i : Int)))]) (fun y14 => []) (fun y14 => ?_)
    refine ax_lump ax_layM ok_kX3 [(70, .iload 4, 2, 0, 0, 0), (72, .aload_n 0, 1, 0, 0, 0), (73, .getfield 138, 3, 3, 14, 0), (76, .iconst 4, 1, 0, 0, 0), (77, .iload_n 1, 1, 0, 0, 0), (78, .imul, 1, 1, 0, 0), (79, .iload 5, 2, 0, 0, 0), (81, .iadd, 1, 1, 0, 0)] (pc' := 82) (lc' := [(3, (0, 0, y14)), (0, (2, 3, 0)), (1, (0, 0, w1)), (2, (0, 0, w2)), (4, (0, 0, v4)), (5, (0, 0, (i : Int)))]) (st' := [(0, 0, ((4 * w1) + (i : Int))), (3, 274, 7), (0, 0, v4)]) (M' := M) (C' := ((True ∧ ax_r32 (4 * w1)) ∧ ax_r32 ((4 * w1) + (i : Int)))) (by decide +kernel) rfl ⟨⟨trivial, ⟨by omega, by omega⟩⟩, ⟨by omega, by omega⟩⟩ ?_
    refine ax_cSi (G1 := gX3_isLatest) (d1 := d + 3) (i := 245) (n := 2) (as := [(3, 274, 7), (0, 0, ((4 * w1) + (i : Int)))]) (st := [(0, 0, v4)]) (by decide +kernel) calX3_isLatest (by omega) rfl wt_1101 wt_1102 (Nat.le_of_ble_eq_true rfl) rfl (c_X3_isLatest d 7 ((4 * w1) + (i : Int)) M (by omega)) (fun hc15 => ?_)
    refine ax_zeq (off := 10) (tgt := 95) (by decide +kernel) (by decide) (fun h16 => ?_) (fun h16 => ?_)
    · refine ax_lump ax_layM ok_kX3 [(95, .iconst 0, 1, 0, 0, 0), (96, .ior, 1, 0, 0, 0), (97, .istore 4, 2, 0, 0, 0)] (pc' := 99) (lc' := [(4, (0, 0, (ax_or v4 0))), (3, (0, 0, y14)), (0, (2, 3, 0)), (1, (0, 0, w1)), (2, (0, 0, w2)), (5, (0, 0, (i : Int)))]) (st' := []) (M' := M) (C' := True) (by decide +kernel) rfl trivial ?_
      refine ax_bdI0 (e := (ax_or v4 0)) (fun y17 => [(4, (0, 0, y17)), (3, (0, 0, y14)), (0, (2, 3, 0)), (1, (0, 0, w1)), (2, (0, 0, w2)), (5, (0, 0, (i : Int)))]) (fun y17 => []) (fun y17 => ?_)
      refine ax_lump ax_layM ok_kX3 [(99, .iinc 5 1, 3, 1, 0, 0), (102, .goto (-65), 3, 37, 0, 0)] (pc' := 37) (lc' := [(5, (0, 0, ((i : Int) + 1))), (4, (0, 0, y17)), (3, (0, 0, y14)), (0, (2, 3, 0)), (1, (0, 0, w1)), (2, (0, 0, w2))]) (st' := []) (M' := M) (C' := (True ∧ ax_r32 ((i : Int) + 1))) (by decide +kernel) rfl ⟨trivial, ⟨by omega, by omega⟩⟩ ?_
      refine ax_pk [3,4,5,2,1,0] (lc' := [(0, (2, 3, 0)), (1, (0, 0, w1)), (2, (0, 0, w2)), (3, (0, 0, y14)), (4, (0, 0, y17)), (5, (0, 0, ((i : Int) + 1)))]) rfl ?_
      exact hkc y14 y17 
    · refine ax_lump ax_layM ok_kX3 [(88, .iconst 1, 1, 0, 0, 0), (89, .iload 5, 2, 0, 0, 0), (91, .ishl, 1, 0, 0, 0), (92, .goto 4, 3, 96, 0, 0), (96, .ior, 1, 0, 0, 0), (97, .istore 4, 2, 0, 0, 0)] (pc' := 99) (lc' := [(4, (0, 0, (ax_or v4 (ax_shl 1 (i : Int))))), (3, (0, 0, y14)), (0, (2, 3, 0)), (1, (0, 0, w1)), (2, (0, 0, w2)), (5, (0, 0, (i : Int)))]) (st' := []) (M' := M) (C' := True) (by decide +kernel) rfl trivial ?_
      refine ax_bdI0 (e := (ax_or v4 (ax_shl 1 (i : Int)))) (fun y18 => [(4, (0, 0, y18)), (3, (0, 0, y14)), (0, (2, 3, 0)), (1, (0, 0, w1)), (2, (0, 0, w2)), (5, (0, 0, (i : Int)))]) (fun y18 => []) (fun y18 => ?_)
      refine ax_lump ax_layM ok_kX3 [(99, .iinc 5 1, 3, 1, 0, 0), (102, .goto (-65), 3, 37, 0, 0)] (pc' := 37) (lc' := [(5, (0, 0, ((i : Int) + 1))), (4, (0, 0, y18)), (3, (0, 0, y14)), (0, (2, 3, 0)), (1, (0, 0, w1)), (2, (0, 0, w2))]) (st' := []) (M' := M) (C' := (True ∧ ax_r32 ((i : Int) + 1))) (by decide +kernel) rfl ⟨trivial, ⟨by omega, by omega⟩⟩ ?_
      refine ax_pk [3,4,5,2,1,0] (lc' := [(0, (2, 3, 0)), (1, (0, 0, w1)), (2, (0, 0, w2)), (3, (0, 0, y14)), (4, (0, 0, y18)), (5, (0, 0, ((i : Int) + 1)))]) rfl ?_
      exact hkc y14 y18 
set_option maxRecDepth 100000 in
set_option maxHeartbeats 4000000 in
theorem w_X3_block_L37 (d : Nat) (w1 : Int) (w2 : Int) (M : ax_M) (kx : Int → Int → Int × ax_M) (hw_w1 : 0 ≤ w1 ∧ w1 ≤ 15) (hw_w2 : 0 ≤ w2 ∧ w2 ≤ 4) (hkx : ∀ (x3 : Int) (x4 : Int), (True) → ax_W ax_LM gX3_block (d + 4) 105 [(0, (2, 3, 0)), (1, (0, 0, w1)), (2, (0, 0, w2)), (3, (0, 0, x3)), (4, (0, 0, x4))] [] M ((ax_qm (-2147483648) 2147483647) (kx x3 x4))) : ∀ (n : Nat) (i : Nat) (v3 : Int) (v4 : Int), 0 ≤ i ∧ i + n = 4 → ax_W ax_LM gX3_block (d + 4) 37 [(0, (2, 3, 0)), (1, (0, 0, w1)), (2, (0, 0, w2)), (3, (0, 0, v3)), (4, (0, 0, v4)), (5, (0, 0, (i : Int)))] [] M ((ax_qm (-2147483648) 2147483647) (f_X3_block_L37 w1 w2 M n i v3 v4 kx)) := by
  intro n
  induction n with
  | zero =>
    intro i v3 v4 hin
    refine ax_lump ax_layM ok_kX3 [(37, .iload 5, 2, 0, 0, 0), (39, .iconst 4, 1, 0, 0, 0)] (pc' := 40) (lc' := [(0, (2, 3, 0)), (1, (0, 0, w1)), (2, (0, 0, w2)), (3, (0, 0, v3)), (4, (0, 0, v4)), (5, (0, 0, (i : Int)))]) (st' := [(0, 0, 4), (0, 0, (i : Int))]) (M' := M) (C' := True) (by decide +kernel) rfl trivial ?_
    refine ax_icmp_ge (off := 65) (tgt := 105) (by decide +kernel) (by decide) (fun h => ?_) (fun h => ?_)
    · refine ax_pk [0,1,2,3,4] (lc' := [(0, (2, 3, 0)), (1, (0, 0, w1)), (2, (0, 0, w2)), (3, (0, 0, v3)), (4, (0, 0, v4))]) rfl ?_
      exact hkx v3 v4 trivial
    · exfalso; omega
  | succ n ih =>
    intro i v3 v4 hin
    refine ax_lump ax_layM ok_kX3 [(37, .iload 5, 2, 0, 0, 0), (39, .iconst 4, 1, 0, 0, 0)] (pc' := 40) (lc' := [(0, (2, 3, 0)), (1, (0, 0, w1)), (2, (0, 0, w2)), (3, (0, 0, v3)), (4, (0, 0, v4)), (5, (0, 0, (i : Int)))]) (st' := [(0, 0, 4), (0, 0, (i : Int))]) (M' := M) (C' := True) (by decide +kernel) rfl trivial ?_
    refine ax_icmp_ge (off := 65) (tgt := 105) (by decide +kernel) (by decide) (fun h => ?_) (fun h => ?_)
    · exfalso; omega
    · exact wb_X3_block_B37 d w1 w2 M i v3 v4 _ kx hw_w1 hw_w2 (by omega)  (fun u3 u4 => ih (i + 1) u3 u4 (by omega) ) hkx
def f_X3_block (x1 : Int) (x2 : Int) (M : ax_M) : Int × ax_M := ax_bd (ax_up M 0 0 0) (fun M1 => (if (f_X3_isBlock x1 M1) = 0 then ax_bd (f_X3_refuse M1) (fun y4 => (y4.1, y4.2)) else (if (f_X3_in x2 0 4 M1) ≠ 0 then f_X3_block_L37 x1 x2 M1 4 0 0 0 (fun z19 z20 => (if x2 = 0 then ((M1 7 (192 + x1).toNat), M1) else (if x2 = 1 then ((M1 7 (208 + x1).toNat), M1) else (if x2 = 2 then (z19, M1) else (if x2 = 3 then (z20, M1) else ((M1 7 (224 + x1).toNat), M1)))))) else ax_bd (f_X3_refuse M1) (fun y25 => (y25.1, y25.2)))))
set_option maxRecDepth 100000 in
set_option maxHeartbeats 4000000 in
theorem c_X3_block (d : Nat) (x1 : Int) (x2 : Int) (M : ax_M)  : ax_Met ax_LM gX3_block (d + 4) [(2, 3, 0), (0, 0, x1), (0, 0, x2)] M ((ax_qm (-2147483648) 2147483647) (f_X3_block x1 x2 M)) := by
  refine ax_body (by decide) (fun X => Nat.le_of_ble_eq_true rfl) (fun hok => ?_)
  have hr_x1 : (-2147483648) ≤ x1 ∧ x1 ≤ 2147483647 := hok (0, 0, x1) (by simp)
  have hr_x2 : (-2147483648) ≤ x2 ∧ x2 ≤ 2147483647 := hok (0, 0, x2) (by simp)
  show ax_W ax_LM gX3_block (d + 4) 0 [(0, (2, 3, 0)), (1, (0, 0, x1)), (2, (0, 0, x2))] [] M _
  unfold f_X3_block
  refine ax_lump ax_layM ok_kX3 [(0, .aload_n 0, 1, 0, 0, 0), (1, .iconst 0, 1, 0, 0, 0), (2, .putfield 3, 3, 3, 0, 0)] (pc' := 5) (lc' := [(0, (2, 3, 0)), (1, (0, 0, x1)), (2, (0, 0, x2))]) (st' := []) (M' := (ax_up M 0 0 0)) (C' := (True ∧ (0 ≤ 0 ∧ 0 < ((2 : Nat) : Int)))) (by decide +kernel) rfl ⟨trivial, by omega⟩ ?_
  refine ax_bdMe (fun M1 hM_M1 => ?_)
  refine ax_lump ax_layM ok_kX3 [(5, .iload_n 1, 1, 0, 0, 0)] (pc' := 6) (lc' := [(0, (2, 3, 0)), (1, (0, 0, x1)), (2, (0, 0, x2))]) (st' := [(0, 0, x1)]) (M' := M1) (C' := True) (by decide +kernel) rfl trivial ?_
  refine ax_cSi (G1 := gX3_isBlock) (d1 := d + 1) (i := 321) (n := 1) (as := [(0, 0, x1)]) (st := []) (by decide +kernel) calX3_isBlock (by omega) rfl wt_1089 wt_1090 (Nat.le_of_ble_eq_true rfl) rfl (c_X3_isBlock d x1 M1) (fun hc2 => ?_)
  refine ax_zeq (off := 15) (tgt := 24) (by decide +kernel) (by decide) (fun h3 => ?_) (fun h3 => ?_)
  · refine ax_lump ax_layM ok_kX3 [(24, .aload_n 0, 1, 0, 0, 0)] (pc' := 25) (lc' := [(0, (2, 3, 0)), (1, (0, 0, x1)), (2, (0, 0, x2))]) (st' := [(2, 3, 0)]) (M' := M1) (C' := True) (by decide +kernel) rfl trivial ?_
    refine ax_cVm (G1 := gX3_refuse) (d1 := d + 0) (i := 326) (n := 0) (as := []) (st := []) (c := 3) (a := 0) (by decide +kernel) ax_cls3 calX3_refuse (by omega) rfl wt_1094 wt_1096 ws_80 (Nat.le_of_ble_eq_true rfl) rfl (c_X3_refuse d  M1) (fun y4 h_y4 => ?_)
    refine ax_rngS (fun hr => ?_)
    exact ax_iret (by decide +kernel) rfl ⟨rfl, rfl, hr.1, hr.2⟩
  · have hgh3 := g_X3_isBlock h3
    refine ax_lump ax_layM ok_kX3 [(12, .iload_n 2, 1, 0, 0, 0), (13, .i2l, 1, 0, 0, 0), (14, .lconst 0, 1, 0, 0, 0), (15, .ldc2_w 324, 3, 0, 0, 4)] (pc' := 18) (lc' := [(0, (2, 3, 0)), (1, (0, 0, x1)), (2, (0, 0, x2))]) (st' := [(1, 0, 4), (1, 0, 0), (1, 0, x2)]) (M' := M1) (C' := True) (by decide +kernel) rfl trivial ?_
    refine ax_cSi (G1 := gX3_in) (d1 := d + 0) (i := 25) (n := 3) (as := [(1, 0, x2), (1, 0, 0), (1, 0, 4)]) (st := []) (by decide +kernel) calX3_in (by omega) rfl wt_875 wt_876 (Nat.le_of_ble_eq_true rfl) rfl (c_X3_in d x2 0 4 M1) (fun hc5 => ?_)
    refine ax_zne (off := 8) (tgt := 29) (by decide +kernel) (by decide) (fun h6 => ?_) (fun h6 => ?_)
    · have hgh6 := g_X3_in h6
      refine ax_lump ax_layM ok_kX3 [(29, .iconst 0, 1, 0, 0, 0), (30, .istore_n 3, 1, 0, 0, 0), (31, .iconst 0, 1, 0, 0, 0), (32, .istore 4, 2, 0, 0, 0), (34, .iconst 0, 1, 0, 0, 0), (35, .istore 5, 2, 0, 0, 0)] (pc' := 37) (lc' := [(5, (0, 0, 0)), (4, (0, 0, 0)), (3, (0, 0, 0)), (0, (2, 3, 0)), (1, (0, 0, x1)), (2, (0, 0, x2))]) (st' := []) (M' := M1) (C' := True) (by decide +kernel) rfl trivial ?_
      refine ax_pk [3,4,5,2,1,0] (lc' := [(0, (2, 3, 0)), (1, (0, 0, x1)), (2, (0, 0, x2)), (3, (0, 0, 0)), (4, (0, 0, 0)), (5, (0, 0, 0))]) rfl ?_
      refine w_X3_block_L37 d x1 x2 M1 _ (by omega) (by omega) (fun z19 z20 hx_20 => ?_) 4 0 0 0 (by omega) 
      refine ax_lump ax_layM ok_kX3 [(105, .iload_n 2, 1, 0, 0, 0)] (pc' := 106) (lc' := [(0, (2, 3, 0)), (1, (0, 0, x1)), (2, (0, 0, x2)), (3, (0, 0, z19)), (4, (0, 0, z20))]) (st' := [(0, 0, x2)]) (M' := M1) (C' := True) (by decide +kernel) rfl trivial ?_
      refine ax_ite (fun h21 => ?_) (fun h21 => ?_)
      · refine ax_swIn (dflt := 57) (lo := 0) (hi := 3) (off := 30) (offs := #[30, 41, 52, 54]) (len := 30) (tgt := 136) (by decide +kernel) (by omega) (by omega) (by rw [h21]; rfl) (by decide) ?_
        refine ax_lump ax_layM ok_kX3 [(136, .aload_n 0, 1, 0, 0, 0), (137, .getfield 138, 3, 3, 14, 0), (140, .sipush 192, 3, 0, 0, 0), (143, .iload_n 1, 1, 0, 0, 0), (144, .iadd, 1, 1, 0, 0), (145, .iaload, 1, 0, 0, 0)] (pc' := 146) (lc' := [(0, (2, 3, 0)), (1, (0, 0, x1)), (2, (0, 0, x2)), (3, (0, 0, z19)), (4, (0, 0, z20))]) (st' := [(0, 0, (M1 7 (192 + x1).toNat))]) (M' := M1) (C' := ((True ∧ ax_r32 (192 + x1)) ∧ (0 ≤ (192 + x1) ∧ (192 + x1) < ((274 : Nat) : Int)))) (by decide +kernel) rfl ⟨⟨trivial, ⟨by omega, by omega⟩⟩, by omega⟩ ?_
        refine ax_rngS (fun hr => ?_)
        exact ax_iret (by decide +kernel) rfl ⟨rfl, rfl, hr.1, hr.2⟩
      · refine ax_ite (fun h22 => ?_) (fun h22 => ?_)
        · refine ax_swIn (dflt := 57) (lo := 0) (hi := 3) (off := 41) (offs := #[30, 41, 52, 54]) (len := 30) (tgt := 147) (by decide +kernel) (by omega) (by omega) (by rw [h22]; rfl) (by decide) ?_
          refine ax_lump ax_layM ok_kX3 [(147, .aload_n 0, 1, 0, 0, 0), (148, .getfield 138, 3, 3, 14, 0), (151, .sipush 208, 3, 0, 0, 0), (154, .iload_n 1, 1, 0, 0, 0), (155, .iadd, 1, 1, 0, 0), (156, .iaload, 1, 0, 0, 0)] (pc' := 157) (lc' := [(0, (2, 3, 0)), (1, (0, 0, x1)), (2, (0, 0, x2)), (3, (0, 0, z19)), (4, (0, 0, z20))]) (st' := [(0, 0, (M1 7 (208 + x1).toNat))]) (M' := M1) (C' := ((True ∧ ax_r32 (208 + x1)) ∧ (0 ≤ (208 + x1) ∧ (208 + x1) < ((274 : Nat) : Int)))) (by decide +kernel) rfl ⟨⟨trivial, ⟨by omega, by omega⟩⟩, by omega⟩ ?_
          refine ax_rngS (fun hr => ?_)
          exact ax_iret (by decide +kernel) rfl ⟨rfl, rfl, hr.1, hr.2⟩
        · refine ax_ite (fun h23 => ?_) (fun h23 => ?_)
          · refine ax_swIn (dflt := 57) (lo := 0) (hi := 3) (off := 52) (offs := #[30, 41, 52, 54]) (len := 30) (tgt := 158) (by decide +kernel) (by omega) (by omega) (by rw [h23]; rfl) (by decide) ?_
            refine ax_lump ax_layM ok_kX3 [(158, .iload_n 3, 1, 0, 0, 0)] (pc' := 159) (lc' := [(0, (2, 3, 0)), (1, (0, 0, x1)), (2, (0, 0, x2)), (3, (0, 0, z19)), (4, (0, 0, z20))]) (st' := [(0, 0, z19)]) (M' := M1) (C' := True) (by decide +kernel) rfl trivial ?_
            refine ax_rngS (fun hr => ?_)
            exact ax_iret (by decide +kernel) rfl ⟨rfl, rfl, hr.1, hr.2⟩
          · refine ax_ite (fun h24 => ?_) (fun h24 => ?_)
            · refine ax_swIn (dflt := 57) (lo := 0) (hi := 3) (off := 54) (offs := #[30, 41, 52, 54]) (len := 30) (tgt := 160) (by decide +kernel) (by omega) (by omega) (by rw [h24]; rfl) (by decide) ?_
              refine ax_lump ax_layM ok_kX3 [(160, .iload 4, 2, 0, 0, 0)] (pc' := 162) (lc' := [(0, (2, 3, 0)), (1, (0, 0, x1)), (2, (0, 0, x2)), (3, (0, 0, z19)), (4, (0, 0, z20))]) (st' := [(0, 0, z20)]) (M' := M1) (C' := True) (by decide +kernel) rfl trivial ?_
              refine ax_rngS (fun hr => ?_)
              exact ax_iret (by decide +kernel) rfl ⟨rfl, rfl, hr.1, hr.2⟩
            · refine ax_swOut (dflt := 57) (lo := 0) (hi := 3) (offs := #[30, 41, 52, 54]) (len := 30) (tgt := 163) (by decide +kernel) (by omega) (by decide) ?_
              refine ax_lump ax_layM ok_kX3 [(163, .aload_n 0, 1, 0, 0, 0), (164, .getfield 138, 3, 3, 14, 0), (167, .sipush 224, 3, 0, 0, 0), (170, .iload_n 1, 1, 0, 0, 0), (171, .iadd, 1, 1, 0, 0), (172, .iaload, 1, 0, 0, 0)] (pc' := 173) (lc' := [(0, (2, 3, 0)), (1, (0, 0, x1)), (2, (0, 0, x2)), (3, (0, 0, z19)), (4, (0, 0, z20))]) (st' := [(0, 0, (M1 7 (224 + x1).toNat))]) (M' := M1) (C' := ((True ∧ ax_r32 (224 + x1)) ∧ (0 ≤ (224 + x1) ∧ (224 + x1) < ((274 : Nat) : Int)))) (by decide +kernel) rfl ⟨⟨trivial, ⟨by omega, by omega⟩⟩, by omega⟩ ?_
              refine ax_rngS (fun hr => ?_)
              exact ax_iret (by decide +kernel) rfl ⟨rfl, rfl, hr.1, hr.2⟩
    · refine ax_lump ax_layM ok_kX3 [(24, .aload_n 0, 1, 0, 0, 0)] (pc' := 25) (lc' := [(0, (2, 3, 0)), (1, (0, 0, x1)), (2, (0, 0, x2))]) (st' := [(2, 3, 0)]) (M' := M1) (C' := True) (by decide +kernel) rfl trivial ?_
      refine ax_cVm (G1 := gX3_refuse) (d1 := d + 0) (i := 326) (n := 0) (as := []) (st := []) (c := 3) (a := 0) (by decide +kernel) ax_cls3 calX3_refuse (by omega) rfl wt_1094 wt_1096 ws_80 (Nat.le_of_ble_eq_true rfl) rfl (c_X3_refuse d  M1) (fun y25 h_y25 => ?_)
      refine ax_rngS (fun hr => ?_)
      exact ax_iret (by decide +kernel) rfl ⟨rfl, rfl, hr.1, hr.2⟩
def f_X3_leaf (x1 : Int) (x2 : Int) (x3 : Int) (M : ax_M) : Int × ax_M := ax_bd (ax_up M 0 0 0) (fun M1 => (if (f_X3_isBlock x1 M1) = 0 then ax_bd (f_X3_refuse M1) (fun y4 => (y4.1, y4.2)) else (if (f_X3_in x2 0 3 M1) = 0 then ax_bd (f_X3_refuse M1) (fun y7 => (y7.1, y7.2)) else (if (f_X3_in x3 0 2 M1) = 0 then ax_bd (f_X3_refuse M1) (fun y10 => (y10.1, y10.2)) else (if (f_X3_isWritten 7 ((4 * x1) + x2) M1) ≠ 0 then ax_bd ((4 * x1) + x2) (fun y13 => (if x3 ≠ 0 then (if x3 ≠ 1 then ((M1 7 (128 + y13).toNat), M1) else ((M1 7 (64 + y13).toNat), M1)) else ((f_X3_pageAt 7 y13 M1), M1))) else ax_bd (f_X3_refuse M1) (fun y17 => (y17.1, y17.2)))))))
set_option maxRecDepth 100000 in
set_option maxHeartbeats 4000000 in
theorem c_X3_leaf (d : Nat) (x1 : Int) (x2 : Int) (x3 : Int) (M : ax_M)  : ax_Met ax_LM gX3_leaf (d + 2) [(2, 3, 0), (0, 0, x1), (0, 0, x2), (0, 0, x3)] M ((ax_qm (-2147483648) 2147483647) (f_X3_leaf x1 x2 x3 M)) := by
  refine ax_body (by decide) (fun X => Nat.le_of_ble_eq_true rfl) (fun hok => ?_)
  have hr_x1 : (-2147483648) ≤ x1 ∧ x1 ≤ 2147483647 := hok (0, 0, x1) (by simp)
  have hr_x2 : (-2147483648) ≤ x2 ∧ x2 ≤ 2147483647 := hok (0, 0, x2) (by simp)
  have hr_x3 : (-2147483648) ≤ x3 ∧ x3 ≤ 2147483647 := hok (0, 0, x3) (by simp)
  show ax_W ax_LM gX3_leaf (d + 2) 0 [(0, (2, 3, 0)), (1, (0, 0, x1)), (2, (0, 0, x2)), (3, (0, 0, x3))] [] M _
  unfold f_X3_leaf
  refine ax_lump ax_layM ok_kX3 [(0, .aload_n 0, 1, 0, 0, 0), (1, .iconst 0, 1, 0, 0, 0), (2, .putfield 3, 3, 3, 0, 0)] (pc' := 5) (lc' := [(0, (2, 3, 0)), (1, (0, 0, x1)), (2, (0, 0, x2)), (3, (0, 0, x3))]) (st' := []) (M' := (ax_up M 0 0 0)) (C' := (True ∧ (0 ≤ 0 ∧ 0 < ((2 : Nat) : Int)))) (by decide +kernel) rfl ⟨trivial, by omega⟩ ?_
  refine ax_bdMe (fun M1 hM_M1 => ?_)
  refine ax_lump ax_layM ok_kX3 [(5, .iload_n 1, 1, 0, 0, 0)] (pc' := 6) (lc' := [(0, (2, 3, 0)), (1, (0, 0, x1)), (2, (0, 0, x2)), (3, (0, 0, x3))]) (st' := [(0, 0, x1)]) (M' := M1) (C' := True) (by decide +kernel) rfl trivial ?_
  refine ax_cSi (G1 := gX3_isBlock) (d1 := d + 1) (i := 321) (n := 1) (as := [(0, 0, x1)]) (st := []) (by decide +kernel) calX3_isBlock (by omega) rfl wt_1089 wt_1090 (Nat.le_of_ble_eq_true rfl) rfl (c_X3_isBlock d x1 M1) (fun hc2 => ?_)
  refine ax_zeq (off := 42) (tgt := 51) (by decide +kernel) (by decide) (fun h3 => ?_) (fun h3 => ?_)
  · refine ax_lump ax_layM ok_kX3 [(51, .aload_n 0, 1, 0, 0, 0)] (pc' := 52) (lc' := [(0, (2, 3, 0)), (1, (0, 0, x1)), (2, (0, 0, x2)), (3, (0, 0, x3))]) (st' := [(2, 3, 0)]) (M' := M1) (C' := True) (by decide +kernel) rfl trivial ?_
    refine ax_cVm (G1 := gX3_refuse) (d1 := d + 0) (i := 326) (n := 0) (as := []) (st := []) (c := 3) (a := 0) (by decide +kernel) ax_cls3 calX3_refuse (by omega) rfl wt_1094 wt_1096 ws_80 (Nat.le_of_ble_eq_true rfl) rfl (c_X3_refuse d  M1) (fun y4 h_y4 => ?_)
    refine ax_rngS (fun hr => ?_)
    exact ax_iret (by decide +kernel) rfl ⟨rfl, rfl, hr.1, hr.2⟩
  · have hgh3 := g_X3_isBlock h3
    refine ax_lump ax_layM ok_kX3 [(12, .iload_n 2, 1, 0, 0, 0), (13, .i2l, 1, 0, 0, 0), (14, .lconst 0, 1, 0, 0, 0), (15, .ldc2_w 329, 3, 0, 0, 3)] (pc' := 18) (lc' := [(0, (2, 3, 0)), (1, (0, 0, x1)), (2, (0, 0, x2)), (3, (0, 0, x3))]) (st' := [(1, 0, 3), (1, 0, 0), (1, 0, x2)]) (M' := M1) (C' := True) (by decide +kernel) rfl trivial ?_
    refine ax_cSi (G1 := gX3_in) (d1 := d + 0) (i := 25) (n := 3) (as := [(1, 0, x2), (1, 0, 0), (1, 0, 3)]) (st := []) (by decide +kernel) calX3_in (by omega) rfl wt_875 wt_876 (Nat.le_of_ble_eq_true rfl) rfl (c_X3_in d x2 0 3 M1) (fun hc5 => ?_)
    refine ax_zeq (off := 30) (tgt := 51) (by decide +kernel) (by decide) (fun h6 => ?_) (fun h6 => ?_)
    · refine ax_lump ax_layM ok_kX3 [(51, .aload_n 0, 1, 0, 0, 0)] (pc' := 52) (lc' := [(0, (2, 3, 0)), (1, (0, 0, x1)), (2, (0, 0, x2)), (3, (0, 0, x3))]) (st' := [(2, 3, 0)]) (M' := M1) (C' := True) (by decide +kernel) rfl trivial ?_
      refine ax_cVm (G1 := gX3_refuse) (d1 := d + 0) (i := 326) (n := 0) (as := []) (st := []) (c := 3) (a := 0) (by decide +kernel) ax_cls3 calX3_refuse (by omega) rfl wt_1094 wt_1096 ws_80 (Nat.le_of_ble_eq_true rfl) rfl (c_X3_refuse d  M1) (fun y7 h_y7 => ?_)
      refine ax_rngS (fun hr => ?_)
      exact ax_iret (by decide +kernel) rfl ⟨rfl, rfl, hr.1, hr.2⟩
    · have hgh6 := g_X3_in h6
      refine ax_lump ax_layM ok_kX3 [(24, .iload_n 3, 1, 0, 0, 0), (25, .i2l, 1, 0, 0, 0), (26, .lconst 0, 1, 0, 0, 0), (27, .ldc2_w 331, 3, 0, 0, 2)] (pc' := 30) (lc' := [(0, (2, 3, 0)), (1, (0, 0, x1)), (2, (0, 0, x2)), (3, (0, 0, x3))]) (st' := [(1, 0, 2), (1, 0, 0), (1, 0, x3)]) (M' := M1) (C' := True) (by decide +kernel) rfl trivial ?_
      refine ax_cSi (G1 := gX3_in) (d1 := d + 0) (i := 25) (n := 3) (as := [(1, 0, x3), (1, 0, 0), (1, 0, 2)]) (st := []) (by decide +kernel) calX3_in (by omega) rfl wt_875 wt_876 (Nat.le_of_ble_eq_true rfl) rfl (c_X3_in d x3 0 2 M1) (fun hc8 => ?_)
      refine ax_zeq (off := 18) (tgt := 51) (by decide +kernel) (by decide) (fun h9 => ?_) (fun h9 => ?_)
      · refine ax_lump ax_layM ok_kX3 [(51, .aload_n 0, 1, 0, 0, 0)] (pc' := 52) (lc' := [(0, (2, 3, 0)), (1, (0, 0, x1)), (2, (0, 0, x2)), (3, (0, 0, x3))]) (st' := [(2, 3, 0)]) (M' := M1) (C' := True) (by decide +kernel) rfl trivial ?_
        refine ax_cVm (G1 := gX3_refuse) (d1 := d + 0) (i := 326) (n := 0) (as := []) (st := []) (c := 3) (a := 0) (by decide +kernel) ax_cls3 calX3_refuse (by omega) rfl wt_1094 wt_1096 ws_80 (Nat.le_of_ble_eq_true rfl) rfl (c_X3_refuse d  M1) (fun y10 h_y10 => ?_)
        refine ax_rngS (fun hr => ?_)
        exact ax_iret (by decide +kernel) rfl ⟨rfl, rfl, hr.1, hr.2⟩
      · have hgh9 := g_X3_in h9
        refine ax_lump ax_layM ok_kX3 [(36, .aload_n 0, 1, 0, 0, 0), (37, .getfield 138, 3, 3, 14, 0), (40, .iconst 4, 1, 0, 0, 0), (41, .iload_n 1, 1, 0, 0, 0), (42, .imul, 1, 1, 0, 0), (43, .iload_n 2, 1, 0, 0, 0), (44, .iadd, 1, 1, 0, 0)] (pc' := 45) (lc' := [(0, (2, 3, 0)), (1, (0, 0, x1)), (2, (0, 0, x2)), (3, (0, 0, x3))]) (st' := [(0, 0, ((4 * x1) + x2)), (3, 274, 7)]) (M' := M1) (C' := ((True ∧ ax_r32 (4 * x1)) ∧ ax_r32 ((4 * x1) + x2))) (by decide +kernel) rfl ⟨⟨trivial, ⟨by omega, by omega⟩⟩, ⟨by omega, by omega⟩⟩ ?_
        refine ax_cSi (G1 := gX3_isWritten) (d1 := d + 0) (i := 195) (n := 2) (as := [(3, 274, 7), (0, 0, ((4 * x1) + x2))]) (st := []) (by decide +kernel) calX3_isWritten (by omega) rfl wt_1098 wt_1099 (Nat.le_of_ble_eq_true rfl) rfl (c_X3_isWritten d 7 ((4 * x1) + x2) M1 (by omega)) (fun hc11 => ?_)
        refine ax_zne (off := 8) (tgt := 56) (by decide +kernel) (by decide) (fun h12 => ?_) (fun h12 => ?_)
        · refine ax_lump ax_layM ok_kX3 [(56, .iconst 4, 1, 0, 0, 0), (57, .iload_n 1, 1, 0, 0, 0), (58, .imul, 1, 1, 0, 0), (59, .iload_n 2, 1, 0, 0, 0), (60, .iadd, 1, 1, 0, 0), (61, .istore 4, 2, 0, 0, 0)] (pc' := 63) (lc' := [(4, (0, 0, ((4 * x1) + x2))), (0, (2, 3, 0)), (1, (0, 0, x1)), (2, (0, 0, x2)), (3, (0, 0, x3))]) (st' := []) (M' := M1) (C' := ((True ∧ ax_r32 (4 * x1)) ∧ ax_r32 ((4 * x1) + x2))) (by decide +kernel) rfl ⟨⟨trivial, ⟨by omega, by omega⟩⟩, ⟨by omega, by omega⟩⟩ ?_
          refine ax_bdI (lo := 0) (hi := 63) (e := ((4 * x1) + x2)) (fun y13 => [(4, (0, 0, y13)), (0, (2, 3, 0)), (1, (0, 0, x1)), (2, (0, 0, x2)), (3, (0, 0, x3))]) (fun y13 => []) (by omega) (fun y13 h_y13 => ?_)
          refine ax_lump ax_layM ok_kX3 [(63, .iload_n 3, 1, 0, 0, 0)] (pc' := 64) (lc' := [(4, (0, 0, y13)), (0, (2, 3, 0)), (1, (0, 0, x1)), (2, (0, 0, x2)), (3, (0, 0, x3))]) (st' := [(0, 0, x3)]) (M' := M1) (C' := True) (by decide +kernel) rfl trivial ?_
          refine ax_zne (off := 15) (tgt := 79) (by decide +kernel) (by decide) (fun h14 => ?_) (fun h14 => ?_)
          · refine ax_lump ax_layM ok_kX3 [(79, .iload_n 3, 1, 0, 0, 0), (80, .iconst 1, 1, 0, 0, 0)] (pc' := 81) (lc' := [(4, (0, 0, y13)), (0, (2, 3, 0)), (1, (0, 0, x1)), (2, (0, 0, x2)), (3, (0, 0, x3))]) (st' := [(0, 0, 1), (0, 0, x3)]) (M' := M1) (C' := True) (by decide +kernel) rfl trivial ?_
            refine ax_jne (off := 16) (tgt := 97) (by decide +kernel) (by decide) (fun h15 => ?_) (fun h15 => ?_)
            · refine ax_lump ax_layM ok_kX3 [(97, .aload_n 0, 1, 0, 0, 0), (98, .getfield 138, 3, 3, 14, 0), (101, .sipush 128, 3, 0, 0, 0), (104, .iload 4, 2, 0, 0, 0), (106, .iadd, 1, 1, 0, 0), (107, .iaload, 1, 0, 0, 0)] (pc' := 108) (lc' := [(4, (0, 0, y13)), (0, (2, 3, 0)), (1, (0, 0, x1)), (2, (0, 0, x2)), (3, (0, 0, x3))]) (st' := [(0, 0, (M1 7 (128 + y13).toNat))]) (M' := M1) (C' := ((True ∧ ax_r32 (128 + y13)) ∧ (0 ≤ (128 + y13) ∧ (128 + y13) < ((274 : Nat) : Int)))) (by decide +kernel) rfl ⟨⟨trivial, ⟨by omega, by omega⟩⟩, by omega⟩ ?_
              refine ax_rngS (fun hr => ?_)
              exact ax_iret (by decide +kernel) rfl ⟨rfl, rfl, hr.1, hr.2⟩
            · refine ax_lump ax_layM ok_kX3 [(84, .aload_n 0, 1, 0, 0, 0), (85, .getfield 138, 3, 3, 14, 0), (88, .bipush 64, 2, 0, 0, 0), (90, .iload 4, 2, 0, 0, 0), (92, .iadd, 1, 1, 0, 0), (93, .iaload, 1, 0, 0, 0), (94, .goto 14, 3, 108, 0, 0)] (pc' := 108) (lc' := [(4, (0, 0, y13)), (0, (2, 3, 0)), (1, (0, 0, x1)), (2, (0, 0, x2)), (3, (0, 0, x3))]) (st' := [(0, 0, (M1 7 (64 + y13).toNat))]) (M' := M1) (C' := ((True ∧ ax_r32 (64 + y13)) ∧ (0 ≤ (64 + y13) ∧ (64 + y13) < ((274 : Nat) : Int)))) (by decide +kernel) rfl ⟨⟨trivial, ⟨by omega, by omega⟩⟩, by omega⟩ ?_
              refine ax_rngS (fun hr => ?_)
              exact ax_iret (by decide +kernel) rfl ⟨rfl, rfl, hr.1, hr.2⟩
          · refine ax_lump ax_layM ok_kX3 [(67, .aload_n 0, 1, 0, 0, 0), (68, .getfield 138, 3, 3, 14, 0), (71, .iload 4, 2, 0, 0, 0)] (pc' := 73) (lc' := [(4, (0, 0, y13)), (0, (2, 3, 0)), (1, (0, 0, x1)), (2, (0, 0, x2)), (3, (0, 0, x3))]) (st' := [(0, 0, y13), (3, 274, 7)]) (M' := M1) (C' := True) (by decide +kernel) rfl trivial ?_
            refine ax_cSi (G1 := gX3_pageAt) (d1 := d + 0) (i := 188) (n := 2) (as := [(3, 274, 7), (0, 0, y13)]) (st := []) (by decide +kernel) calX3_pageAt (by omega) rfl wt_1104 wt_1105 (Nat.le_of_ble_eq_true rfl) rfl (c_X3_pageAt d 7 y13 M1 (by omega)) (fun hc16 => ?_)
            refine ax_lump ax_layM ok_kX3 [(76, .goto 32, 3, 108, 0, 0)] (pc' := 108) (lc' := [(4, (0, 0, y13)), (0, (2, 3, 0)), (1, (0, 0, x1)), (2, (0, 0, x2)), (3, (0, 0, x3))]) (st' := [(0, 0, (f_X3_pageAt 7 y13 M1))]) (M' := M1) (C' := True) (by decide +kernel) rfl trivial ?_
            refine ax_rngS (fun hr => ?_)
            exact ax_iret (by decide +kernel) rfl ⟨rfl, rfl, hr.1, hr.2⟩
        · refine ax_lump ax_layM ok_kX3 [(51, .aload_n 0, 1, 0, 0, 0)] (pc' := 52) (lc' := [(0, (2, 3, 0)), (1, (0, 0, x1)), (2, (0, 0, x2)), (3, (0, 0, x3))]) (st' := [(2, 3, 0)]) (M' := M1) (C' := True) (by decide +kernel) rfl trivial ?_
          refine ax_cVm (G1 := gX3_refuse) (d1 := d + 0) (i := 326) (n := 0) (as := []) (st := []) (c := 3) (a := 0) (by decide +kernel) ax_cls3 calX3_refuse (by omega) rfl wt_1094 wt_1096 ws_80 (Nat.le_of_ble_eq_true rfl) rfl (c_X3_refuse d  M1) (fun y17 h_y17 => ?_)
          refine ax_rngS (fun hr => ?_)
          exact ax_iret (by decide +kernel) rfl ⟨rfl, rfl, hr.1, hr.2⟩
def f_X3_allWipes_B4 (a0 : Nat) (M : ax_M) (i : Nat) (v1 : Int) (kc : Int → Int) (kx : Int → Int) : Int := kc (ax_wr (v1 + (M a0 (224 + (i : Int)).toNat)))
def f_X3_allWipes_L4 (a0 : Nat) (M : ax_M) : Nat → Nat → Int → (Int → Int) → Int
  | 0, i, v1, kx => kx v1
  | n + 1, i, v1, kx => f_X3_allWipes_B4 a0 M i v1 (fun u1 => f_X3_allWipes_L4 a0 M n (i + 1) u1 kx) kx
set_option maxRecDepth 100000 in
set_option maxHeartbeats 4000000 in
theorem wb_X3_allWipes_B4 (d : Nat) (a0 : Nat) (M : ax_M) (i : Nat) (v1 : Int) (kc : Int → Int) (kx : Int → Int)  (hi : 0 ≤ i ∧ i < 16)  (hkc : ∀ (u1 : Int), ax_W ax_LM gX3_allWipes (d + 0) 4 [(0, (3, 274, (a0 : Int))), (1, (0, 0, u1)), (2, (0, 0, ((i : Int) + 1)))] [] M ((ax_qi (-2147483648) 2147483647 M) (kc u1))) (hkx : ∀ (x1 : Int), (True) → ax_W ax_LM gX3_allWipes (d + 0) 26 [(1, (0, 0, x1))] [] M ((ax_qi (-2147483648) 2147483647 M) (kx x1))) : ax_W ax_LM gX3_allWipes (d + 0) 10 [(0, (3, 274, (a0 : Int))), (1, (0, 0, v1)), (2, (0, 0, (i : Int)))] [] M ((ax_qi (-2147483648) 2147483647 M) (f_X3_allWipes_B4 a0 M i v1 kc kx)) := by
  unfold f_X3_allWipes_B4
  refine ax_lump ax_layM ok_kX3 [(10, .iload_n 1, 1, 0, 0, 0), (11, .aload_n 0, 1, 0, 0, 0), (12, .sipush 224, 3, 0, 0, 0), (15, .iload_n 2, 1, 0, 0, 0), (16, .iadd, 1, 1, 0, 0), (17, .iaload, 1, 0, 0, 0), (18, .iadd, 1, 0, 0, 0), (19, .istore_n 1, 1, 0, 0, 0), (20, .iinc 2 1, 3, 1, 0, 0), (23, .goto (-19), 3, 4, 0, 0)] (pc' := 4) (lc' := [(2, (0, 0, ((i : Int) + 1))), (1, (0, 0, (ax_wr (v1 + (M a0 (224 + (i : Int)).toNat))))), (0, (3, 274, (a0 : Int)))]) (st' := []) (M' := M) (C' := (((True ∧ ax_r32 (224 + (i : Int))) ∧ (0 ≤ (224 + (i : Int)) ∧ (224 + (i : Int)) < ((274 : Nat) : Int))) ∧ ax_r32 ((i : Int) + 1))) (by decide +kernel) rfl ⟨⟨⟨trivial, ⟨by omega, by omega⟩⟩, by omega⟩, ⟨by omega, by omega⟩⟩ ?_
  refine ax_pk [2,1,0] (lc' := [(0, (3, 274, (a0 : Int))), (1, (0, 0, (ax_wr (v1 + (M a0 (224 + (i : Int)).toNat))))), (2, (0, 0, ((i : Int) + 1)))]) rfl ?_
  exact hkc (ax_wr (v1 + (M a0 (224 + (i : Int)).toNat))) 
set_option maxRecDepth 100000 in
set_option maxHeartbeats 4000000 in
theorem w_X3_allWipes_L4 (d : Nat) (a0 : Nat) (M : ax_M) (kx : Int → Int)  (hkx : ∀ (x1 : Int), (True) → ax_W ax_LM gX3_allWipes (d + 0) 26 [(1, (0, 0, x1))] [] M ((ax_qi (-2147483648) 2147483647 M) (kx x1))) : ∀ (n : Nat) (i : Nat) (v1 : Int), 0 ≤ i ∧ i + n = 16 → ax_W ax_LM gX3_allWipes (d + 0) 4 [(0, (3, 274, (a0 : Int))), (1, (0, 0, v1)), (2, (0, 0, (i : Int)))] [] M ((ax_qi (-2147483648) 2147483647 M) (f_X3_allWipes_L4 a0 M n i v1 kx)) := by
  intro n
  induction n with
  | zero =>
    intro i v1 hin
    refine ax_lump ax_layM ok_kX3 [(4, .iload_n 2, 1, 0, 0, 0), (5, .bipush 16, 2, 0, 0, 0)] (pc' := 7) (lc' := [(0, (3, 274, (a0 : Int))), (1, (0, 0, v1)), (2, (0, 0, (i : Int)))]) (st' := [(0, 0, 16), (0, 0, (i : Int))]) (M' := M) (C' := True) (by decide +kernel) rfl trivial ?_
    refine ax_icmp_ge (off := 19) (tgt := 26) (by decide +kernel) (by decide) (fun h => ?_) (fun h => ?_)
    · refine ax_pk [1] (lc' := [(1, (0, 0, v1))]) rfl ?_
      exact hkx v1 trivial
    · exfalso; omega
  | succ n ih =>
    intro i v1 hin
    refine ax_lump ax_layM ok_kX3 [(4, .iload_n 2, 1, 0, 0, 0), (5, .bipush 16, 2, 0, 0, 0)] (pc' := 7) (lc' := [(0, (3, 274, (a0 : Int))), (1, (0, 0, v1)), (2, (0, 0, (i : Int)))]) (st' := [(0, 0, 16), (0, 0, (i : Int))]) (M' := M) (C' := True) (by decide +kernel) rfl trivial ?_
    refine ax_icmp_ge (off := 19) (tgt := 26) (by decide +kernel) (by decide) (fun h => ?_) (fun h => ?_)
    · exfalso; omega
    · exact wb_X3_allWipes_B4 d a0 M i v1 _ kx  (by omega)  (fun u1 => ih (i + 1) u1 (by omega) ) hkx
def f_X3_allWipes (a0 : Nat) (M : ax_M) : Int := f_X3_allWipes_L4 a0 M 16 0 0 (fun z1 => z1)
set_option maxRecDepth 100000 in
set_option maxHeartbeats 4000000 in
theorem c_X3_allWipes (d : Nat) (a0 : Nat) (M : ax_M)  : ax_Met ax_LM gX3_allWipes (d + 0) [(3, 274, (a0 : Int))] M ((ax_qi (-2147483648) 2147483647 M) (f_X3_allWipes a0 M)) := by
  refine ax_body (by decide) (fun X => Nat.le_of_ble_eq_true rfl) (fun hok => ?_)
  show ax_W ax_LM gX3_allWipes (d + 0) 0 [(0, (3, 274, (a0 : Int)))] [] M _
  unfold f_X3_allWipes
  refine ax_lump ax_layM ok_kX3 [(0, .iconst 0, 1, 0, 0, 0), (1, .istore_n 1, 1, 0, 0, 0), (2, .iconst 0, 1, 0, 0, 0), (3, .istore_n 2, 1, 0, 0, 0)] (pc' := 4) (lc' := [(2, (0, 0, 0)), (1, (0, 0, 0)), (0, (3, 274, (a0 : Int)))]) (st' := []) (M' := M) (C' := True) (by decide +kernel) rfl trivial ?_
  refine ax_pk [2,1,0] (lc' := [(0, (3, 274, (a0 : Int))), (1, (0, 0, 0)), (2, (0, 0, 0))]) rfl ?_
  refine w_X3_allWipes_L4 d a0 M _  (fun z1 hx_1 => ?_) 16 0 0 (by omega) 
  refine ax_lump ax_layM ok_kX3 [(26, .iload_n 1, 1, 0, 0, 0)] (pc' := 27) (lc' := [(1, (0, 0, z1))]) (st' := [(0, 0, z1)]) (M' := M) (C' := True) (by decide +kernel) rfl trivial ?_
  refine ax_rngS (fun hr => ?_)
  exact ax_iret (by decide +kernel) rfl ⟨rfl, rfl, hr.1, hr.2⟩
def f_X3_sheet_B43 (w1 : Int) (w2 : Int) (w4 : Int) (i : Nat) (v5 : Int) (M : ax_M) (kc : Int → ax_M → Int × ax_M) (kx : ax_M → Int × ax_M) : Int × ax_M := (if w1 ≠ 0 then (if w1 ≠ 1 then (if w1 = 3 then ax_bd (ax_up M 7 (224 + (i : Int)).toNat 0) (fun M9 => kc (ax_wr (v5 + w4)) M9) else (if (i : Int) < w2 then ax_bd (ax_up M 7 (224 + (i : Int)).toNat (if 0 < (if v5 < 999 then v5 else 999) then (if v5 < 999 then v5 else 999) else 0)) (fun M11 => kc (ax_wr (v5 + w4)) M11) else ax_bd (ax_up M 7 (224 + (i : Int)).toNat 0) (fun M12 => kc (ax_wr (v5 + w4)) M12))) else ax_bd (ax_i2s v5) (fun y13 => (if (i : Int) < w2 then ax_bd (ax_up M 7 (224 + (i : Int)).toNat (if 0 < (if y13 < 999 then y13 else 999) then (if y13 < 999 then y13 else 999) else 0)) (fun M16 => kc (ax_wr (v5 + w4)) M16) else ax_bd (ax_up M 7 (224 + (i : Int)).toNat 0) (fun M17 => kc (ax_wr (v5 + w4)) M17)))) else ax_bd (ax_i2b v5) (fun y18 => (if (i : Int) < w2 then ax_bd (ax_up M 7 (224 + (i : Int)).toNat (if 0 < (if y18 < 999 then y18 else 999) then (if y18 < 999 then y18 else 999) else 0)) (fun M21 => kc (ax_wr (v5 + w4)) M21) else ax_bd (ax_up M 7 (224 + (i : Int)).toNat 0) (fun M22 => kc (ax_wr (v5 + w4)) M22))))
def f_X3_sheet_L43 (w1 : Int) (w2 : Int) (w4 : Int) : Nat → Nat → Int → ax_M → (ax_M → Int × ax_M) → Int × ax_M
  | 0, i, v5, M, kx => kx M
  | n + 1, i, v5, M, kx => f_X3_sheet_B43 w1 w2 w4 i v5 M (fun u5 M9 => f_X3_sheet_L43 w1 w2 w4 n (i + 1) u5 M9 kx) kx
set_option maxRecDepth 100000 in
set_option maxHeartbeats 4000000 in
theorem wb_X3_sheet_B43 (d : Nat) (w1 : Int) (w2 : Int) (w4 : Int) (i : Nat) (v5 : Int) (M : ax_M) (kc : Int → ax_M → Int × ax_M) (kx : ax_M → Int × ax_M) (hw_w1 : 0 ≤ w1 ∧ w1 ≤ 3) (hi : 0 ≤ i ∧ i < 16)  (hkc : ∀ (u5 : Int) (M9 : ax_M), ax_W ax_LM gX3_sheet (d + 1) 43 [(0, (2, 3, 0)), (1, (0, 0, w1)), (2, (0, 0, w2)), (4, (0, 0, w4)), (5, (0, 0, u5)), (6, (0, 0, ((i : Int) + 1)))] [] M9 ((ax_qm (-2147483648) 2147483647) (kc u5 M9))) (hkx : ∀ (M9 : ax_M), (True) → ax_W ax_LM gX3_sheet (d + 1) 126 [(0, (2, 3, 0)), (1, (0, 0, w1))] [] M9 ((ax_qm (-2147483648) 2147483647) (kx M9))) : ax_W ax_LM gX3_sheet (d + 1) 50 [(0, (2, 3, 0)), (1, (0, 0, w1)), (2, (0, 0, w2)), (4, (0, 0, w4)), (5, (0, 0, v5)), (6, (0, 0, (i : Int)))] [] M ((ax_qm (-2147483648) 2147483647) (f_X3_sheet_B43 w1 w2 w4 i v5 M kc kx)) := by
  unfold f_X3_sheet_B43
  refine ax_lump ax_layM ok_kX3 [(50, .iload_n 1, 1, 0, 0, 0)] (pc' := 51) (lc' := [(0, (2, 3, 0)), (1, (0, 0, w1)), (2, (0, 0, w2)), (4, (0, 0, w4)), (5, (0, 0, v5)), (6, (0, 0, (i : Int)))]) (st' := [(0, 0, w1)]) (M' := M) (C' := True) (by decide +kernel) rfl trivial ?_
  refine ax_zne (off := 9) (tgt := 60) (by decide +kernel) (by decide) (fun h6 => ?_) (fun h6 => ?_)
  · refine ax_lump ax_layM ok_kX3 [(60, .iload_n 1, 1, 0, 0, 0), (61, .iconst 1, 1, 0, 0, 0)] (pc' := 62) (lc' := [(0, (2, 3, 0)), (1, (0, 0, w1)), (2, (0, 0, w2)), (4, (0, 0, w4)), (5, (0, 0, v5)), (6, (0, 0, (i : Int)))]) (st' := [(0, 0, 1), (0, 0, w1)]) (M' := M) (C' := True) (by decide +kernel) rfl trivial ?_
    refine ax_jne (off := 9) (tgt := 71) (by decide +kernel) (by decide) (fun h7 => ?_) (fun h7 => ?_)
    · refine ax_lump ax_layM ok_kX3 [(71, .iload 5, 2, 0, 0, 0), (73, .istore 7, 2, 0, 0, 0), (75, .aload_n 0, 1, 0, 0, 0), (76, .getfield 138, 3, 3, 14, 0), (79, .sipush 224, 3, 0, 0, 0), (82, .iload 6, 2, 0, 0, 0), (84, .iadd, 1, 1, 0, 0), (85, .iload_n 1, 1, 0, 0, 0), (86, .iconst 3, 1, 0, 0, 0)] (pc' := 87) (lc' := [(7, (0, 0, v5)), (0, (2, 3, 0)), (1, (0, 0, w1)), (2, (0, 0, w2)), (4, (0, 0, w4)), (5, (0, 0, v5)), (6, (0, 0, (i : Int)))]) (st' := [(0, 0, 3), (0, 0, w1), (0, 0, (224 + (i : Int))), (3, 274, 7)]) (M' := M) (C' := (True ∧ ax_r32 (224 + (i : Int)))) (by decide +kernel) rfl ⟨trivial, ⟨by omega, by omega⟩⟩ ?_
      refine ax_jeq (off := 9) (tgt := 96) (by decide +kernel) (by decide) (fun h8 => ?_) (fun h8 => ?_)
      · refine ax_lump ax_layM ok_kX3 [(96, .iconst 0, 1, 0, 0, 0), (97, .goto 15, 3, 112, 0, 0), (112, .iastore, 1, 0, 0, 0)] (pc' := 113) (lc' := [(7, (0, 0, v5)), (0, (2, 3, 0)), (1, (0, 0, w1)), (2, (0, 0, w2)), (4, (0, 0, w4)), (5, (0, 0, v5)), (6, (0, 0, (i : Int)))]) (st' := []) (M' := (ax_up M 7 (224 + (i : Int)).toNat 0)) (C' := (True ∧ (0 ≤ (224 + (i : Int)) ∧ (224 + (i : Int)) < ((274 : Nat) : Int)))) (by decide +kernel) rfl ⟨trivial, by omega⟩ ?_
        refine ax_bdMe (fun M9 hM_M9 => ?_)
        refine ax_lump ax_layM ok_kX3 [(113, .iload 5, 2, 0, 0, 0), (115, .iload 4, 2, 0, 0, 0), (117, .iadd, 1, 0, 0, 0), (118, .istore 5, 2, 0, 0, 0), (120, .iinc 6 1, 3, 1, 0, 0), (123, .goto (-80), 3, 43, 0, 0)] (pc' := 43) (lc' := [(6, (0, 0, ((i : Int) + 1))), (5, (0, 0, (ax_wr (v5 + w4)))), (7, (0, 0, v5)), (0, (2, 3, 0)), (1, (0, 0, w1)), (2, (0, 0, w2)), (4, (0, 0, w4))]) (st' := []) (M' := M9) (C' := (True ∧ ax_r32 ((i : Int) + 1))) (by decide +kernel) rfl ⟨trivial, ⟨by omega, by omega⟩⟩ ?_
        refine ax_pk [3,4,5,6,1,0] (lc' := [(0, (2, 3, 0)), (1, (0, 0, w1)), (2, (0, 0, w2)), (4, (0, 0, w4)), (5, (0, 0, (ax_wr (v5 + w4)))), (6, (0, 0, ((i : Int) + 1)))]) rfl ?_
        exact hkc (ax_wr (v5 + w4)) M9 
      · refine ax_lump ax_layM ok_kX3 [(90, .iload 6, 2, 0, 0, 0), (92, .iload_n 2, 1, 0, 0, 0)] (pc' := 93) (lc' := [(7, (0, 0, v5)), (0, (2, 3, 0)), (1, (0, 0, w1)), (2, (0, 0, w2)), (4, (0, 0, w4)), (5, (0, 0, v5)), (6, (0, 0, (i : Int)))]) (st' := [(0, 0, w2), (0, 0, (i : Int)), (0, 0, (224 + (i : Int))), (3, 274, 7)]) (M' := M) (C' := True) (by decide +kernel) rfl trivial ?_
        refine ax_jlt (off := 7) (tgt := 100) (by decide +kernel) (by decide) (fun h10 => ?_) (fun h10 => ?_)
        · refine ax_lump ax_layM ok_kX3 [(100, .iconst 0, 1, 0, 0, 0), (101, .sipush 999, 3, 0, 0, 0), (104, .iload 7, 2, 0, 0, 0)] (pc' := 106) (lc' := [(7, (0, 0, v5)), (0, (2, 3, 0)), (1, (0, 0, w1)), (2, (0, 0, w2)), (4, (0, 0, w4)), (5, (0, 0, v5)), (6, (0, 0, (i : Int)))]) (st' := [(0, 0, v5), (0, 0, 999), (0, 0, 0), (0, 0, (224 + (i : Int))), (3, 274, 7)]) (M' := M) (C' := True) (by decide +kernel) rfl trivial ?_
          refine ax_mmin (i := 35) (by decide +kernel) (by omega) (Nat.le_of_ble_eq_true rfl) wt_891 wt_266 wt_8 wt_267 ?_
          refine ax_mmax (i := 333) (by decide +kernel) (by omega) (Nat.le_of_ble_eq_true rfl) wt_1123 wt_263 wt_8 wt_264 ?_
          refine ax_lump ax_layM ok_kX3 [(112, .iastore, 1, 0, 0, 0)] (pc' := 113) (lc' := [(7, (0, 0, v5)), (0, (2, 3, 0)), (1, (0, 0, w1)), (2, (0, 0, w2)), (4, (0, 0, w4)), (5, (0, 0, v5)), (6, (0, 0, (i : Int)))]) (st' := []) (M' := (ax_up M 7 (224 + (i : Int)).toNat (if 0 < (if v5 < 999 then v5 else 999) then (if v5 < 999 then v5 else 999) else 0))) (C' := (True ∧ (0 ≤ (224 + (i : Int)) ∧ (224 + (i : Int)) < ((274 : Nat) : Int)))) (by decide +kernel) rfl ⟨trivial, by omega⟩ ?_
          refine ax_bdMe (fun M11 hM_M11 => ?_)
          refine ax_lump ax_layM ok_kX3 [(113, .iload 5, 2, 0, 0, 0), (115, .iload 4, 2, 0, 0, 0), (117, .iadd, 1, 0, 0, 0), (118, .istore 5, 2, 0, 0, 0), (120, .iinc 6 1, 3, 1, 0, 0), (123, .goto (-80), 3, 43, 0, 0)] (pc' := 43) (lc' := [(6, (0, 0, ((i : Int) + 1))), (5, (0, 0, (ax_wr (v5 + w4)))), (7, (0, 0, v5)), (0, (2, 3, 0)), (1, (0, 0, w1)), (2, (0, 0, w2)), (4, (0, 0, w4))]) (st' := []) (M' := M11) (C' := (True ∧ ax_r32 ((i : Int) + 1))) (by decide +kernel) rfl ⟨trivial, ⟨by omega, by omega⟩⟩ ?_
          refine ax_pk [3,4,5,6,1,0] (lc' := [(0, (2, 3, 0)), (1, (0, 0, w1)), (2, (0, 0, w2)), (4, (0, 0, w4)), (5, (0, 0, (ax_wr (v5 + w4)))), (6, (0, 0, ((i : Int) + 1)))]) rfl ?_
          exact hkc (ax_wr (v5 + w4)) M11 
        · refine ax_lump ax_layM ok_kX3 [(96, .iconst 0, 1, 0, 0, 0), (97, .goto 15, 3, 112, 0, 0), (112, .iastore, 1, 0, 0, 0)] (pc' := 113) (lc' := [(7, (0, 0, v5)), (0, (2, 3, 0)), (1, (0, 0, w1)), (2, (0, 0, w2)), (4, (0, 0, w4)), (5, (0, 0, v5)), (6, (0, 0, (i : Int)))]) (st' := []) (M' := (ax_up M 7 (224 + (i : Int)).toNat 0)) (C' := (True ∧ (0 ≤ (224 + (i : Int)) ∧ (224 + (i : Int)) < ((274 : Nat) : Int)))) (by decide +kernel) rfl ⟨trivial, by omega⟩ ?_
          refine ax_bdMe (fun M12 hM_M12 => ?_)
          refine ax_lump ax_layM ok_kX3 [(113, .iload 5, 2, 0, 0, 0), (115, .iload 4, 2, 0, 0, 0), (117, .iadd, 1, 0, 0, 0), (118, .istore 5, 2, 0, 0, 0), (120, .iinc 6 1, 3, 1, 0, 0), (123, .goto (-80), 3, 43, 0, 0)] (pc' := 43) (lc' := [(6, (0, 0, ((i : Int) + 1))), (5, (0, 0, (ax_wr (v5 + w4)))), (7, (0, 0, v5)), (0, (2, 3, 0)), (1, (0, 0, w1)), (2, (0, 0, w2)), (4, (0, 0, w4))]) (st' := []) (M' := M12) (C' := (True ∧ ax_r32 ((i : Int) + 1))) (by decide +kernel) rfl ⟨trivial, ⟨by omega, by omega⟩⟩ ?_
          refine ax_pk [3,4,5,6,1,0] (lc' := [(0, (2, 3, 0)), (1, (0, 0, w1)), (2, (0, 0, w2)), (4, (0, 0, w4)), (5, (0, 0, (ax_wr (v5 + w4)))), (6, (0, 0, ((i : Int) + 1)))]) rfl ?_
          exact hkc (ax_wr (v5 + w4)) M12 
    · refine ax_lump ax_layM ok_kX3 [(65, .iload 5, 2, 0, 0, 0), (67, .i2s, 1, 0, 0, 0), (68, .goto 5, 3, 73, 0, 0), (73, .istore 7, 2, 0, 0, 0)] (pc' := 75) (lc' := [(7, (0, 0, (ax_i2s v5))), (0, (2, 3, 0)), (1, (0, 0, w1)), (2, (0, 0, w2)), (4, (0, 0, w4)), (5, (0, 0, v5)), (6, (0, 0, (i : Int)))]) (st' := []) (M' := M) (C' := True) (by decide +kernel) rfl trivial ?_
      refine ax_bdI0 (e := (ax_i2s v5)) (fun y13 => [(7, (0, 0, y13)), (0, (2, 3, 0)), (1, (0, 0, w1)), (2, (0, 0, w2)), (4, (0, 0, w4)), (5, (0, 0, v5)), (6, (0, 0, (i : Int)))]) (fun y13 => []) (fun y13 => ?_)
      refine ax_lump ax_layM ok_kX3 [(75, .aload_n 0, 1, 0, 0, 0), (76, .getfield 138, 3, 3, 14, 0), (79, .sipush 224, 3, 0, 0, 0), (82, .iload 6, 2, 0, 0, 0), (84, .iadd, 1, 1, 0, 0), (85, .iload_n 1, 1, 0, 0, 0), (86, .iconst 3, 1, 0, 0, 0)] (pc' := 87) (lc' := [(7, (0, 0, y13)), (0, (2, 3, 0)), (1, (0, 0, w1)), (2, (0, 0, w2)), (4, (0, 0, w4)), (5, (0, 0, v5)), (6, (0, 0, (i : Int)))]) (st' := [(0, 0, 3), (0, 0, w1), (0, 0, (224 + (i : Int))), (3, 274, 7)]) (M' := M) (C' := (True ∧ ax_r32 (224 + (i : Int)))) (by decide +kernel) rfl ⟨trivial, ⟨by omega, by omega⟩⟩ ?_
      refine ax_icmp_eq (off := 9) (tgt := 96) (by decide +kernel) (by decide) (fun h14 => ?_) (fun h14 => ?_)
      · exfalso; omega
      · refine ax_lump ax_layM ok_kX3 [(90, .iload 6, 2, 0, 0, 0), (92, .iload_n 2, 1, 0, 0, 0)] (pc' := 93) (lc' := [(7, (0, 0, y13)), (0, (2, 3, 0)), (1, (0, 0, w1)), (2, (0, 0, w2)), (4, (0, 0, w4)), (5, (0, 0, v5)), (6, (0, 0, (i : Int)))]) (st' := [(0, 0, w2), (0, 0, (i : Int)), (0, 0, (224 + (i : Int))), (3, 274, 7)]) (M' := M) (C' := True) (by decide +kernel) rfl trivial ?_
        refine ax_jlt (off := 7) (tgt := 100) (by decide +kernel) (by decide) (fun h15 => ?_) (fun h15 => ?_)
        · refine ax_lump ax_layM ok_kX3 [(100, .iconst 0, 1, 0, 0, 0), (101, .sipush 999, 3, 0, 0, 0), (104, .iload 7, 2, 0, 0, 0)] (pc' := 106) (lc' := [(7, (0, 0, y13)), (0, (2, 3, 0)), (1, (0, 0, w1)), (2, (0, 0, w2)), (4, (0, 0, w4)), (5, (0, 0, v5)), (6, (0, 0, (i : Int)))]) (st' := [(0, 0, y13), (0, 0, 999), (0, 0, 0), (0, 0, (224 + (i : Int))), (3, 274, 7)]) (M' := M) (C' := True) (by decide +kernel) rfl trivial ?_
          refine ax_mmin (i := 35) (by decide +kernel) (by omega) (Nat.le_of_ble_eq_true rfl) wt_891 wt_266 wt_8 wt_267 ?_
          refine ax_mmax (i := 333) (by decide +kernel) (by omega) (Nat.le_of_ble_eq_true rfl) wt_1123 wt_263 wt_8 wt_264 ?_
          refine ax_lump ax_layM ok_kX3 [(112, .iastore, 1, 0, 0, 0)] (pc' := 113) (lc' := [(7, (0, 0, y13)), (0, (2, 3, 0)), (1, (0, 0, w1)), (2, (0, 0, w2)), (4, (0, 0, w4)), (5, (0, 0, v5)), (6, (0, 0, (i : Int)))]) (st' := []) (M' := (ax_up M 7 (224 + (i : Int)).toNat (if 0 < (if y13 < 999 then y13 else 999) then (if y13 < 999 then y13 else 999) else 0))) (C' := (True ∧ (0 ≤ (224 + (i : Int)) ∧ (224 + (i : Int)) < ((274 : Nat) : Int)))) (by decide +kernel) rfl ⟨trivial, by omega⟩ ?_
          refine ax_bdMe (fun M16 hM_M16 => ?_)
          refine ax_lump ax_layM ok_kX3 [(113, .iload 5, 2, 0, 0, 0), (115, .iload 4, 2, 0, 0, 0), (117, .iadd, 1, 0, 0, 0), (118, .istore 5, 2, 0, 0, 0), (120, .iinc 6 1, 3, 1, 0, 0), (123, .goto (-80), 3, 43, 0, 0)] (pc' := 43) (lc' := [(6, (0, 0, ((i : Int) + 1))), (5, (0, 0, (ax_wr (v5 + w4)))), (7, (0, 0, y13)), (0, (2, 3, 0)), (1, (0, 0, w1)), (2, (0, 0, w2)), (4, (0, 0, w4))]) (st' := []) (M' := M16) (C' := (True ∧ ax_r32 ((i : Int) + 1))) (by decide +kernel) rfl ⟨trivial, ⟨by omega, by omega⟩⟩ ?_
          refine ax_pk [3,4,5,6,1,0] (lc' := [(0, (2, 3, 0)), (1, (0, 0, w1)), (2, (0, 0, w2)), (4, (0, 0, w4)), (5, (0, 0, (ax_wr (v5 + w4)))), (6, (0, 0, ((i : Int) + 1)))]) rfl ?_
          exact hkc (ax_wr (v5 + w4)) M16 
        · refine ax_lump ax_layM ok_kX3 [(96, .iconst 0, 1, 0, 0, 0), (97, .goto 15, 3, 112, 0, 0), (112, .iastore, 1, 0, 0, 0)] (pc' := 113) (lc' := [(7, (0, 0, y13)), (0, (2, 3, 0)), (1, (0, 0, w1)), (2, (0, 0, w2)), (4, (0, 0, w4)), (5, (0, 0, v5)), (6, (0, 0, (i : Int)))]) (st' := []) (M' := (ax_up M 7 (224 + (i : Int)).toNat 0)) (C' := (True ∧ (0 ≤ (224 + (i : Int)) ∧ (224 + (i : Int)) < ((274 : Nat) : Int)))) (by decide +kernel) rfl ⟨trivial, by omega⟩ ?_
          refine ax_bdMe (fun M17 hM_M17 => ?_)
          refine ax_lump ax_layM ok_kX3 [(113, .iload 5, 2, 0, 0, 0), (115, .iload 4, 2, 0, 0, 0), (117, .iadd, 1, 0, 0, 0), (118, .istore 5, 2, 0, 0, 0), (120, .iinc 6 1, 3, 1, 0, 0), (123, .goto (-80), 3, 43, 0, 0)] (pc' := 43) (lc' := [(6, (0, 0, ((i : Int) + 1))), (5, (0, 0, (ax_wr (v5 + w4)))), (7, (0, 0, y13)), (0, (2, 3, 0)), (1, (0, 0, w1)), (2, (0, 0, w2)), (4, (0, 0, w4))]) (st' := []) (M' := M17) (C' := (True ∧ ax_r32 ((i : Int) + 1))) (by decide +kernel) rfl ⟨trivial, ⟨by omega, by omega⟩⟩ ?_
          refine ax_pk [3,4,5,6,1,0] (lc' := [(0, (2, 3, 0)), (1, (0, 0, w1)), (2, (0, 0, w2)), (4, (0, 0, w4)), (5, (0, 0, (ax_wr (v5 + w4)))), (6, (0, 0, ((i : Int) + 1)))]) rfl ?_
          exact hkc (ax_wr (v5 + w4)) M17 
  · refine ax_lump ax_layM ok_kX3 [(54, .iload 5, 2, 0, 0, 0), (56, .i2b, 1, 0, 0, 0), (57, .goto 16, 3, 73, 0, 0), (73, .istore 7, 2, 0, 0, 0)] (pc' := 75) (lc' := [(7, (0, 0, (ax_i2b v5))), (0, (2, 3, 0)), (1, (0, 0, w1)), (2, (0, 0, w2)), (4, (0, 0, w4)), (5, (0, 0, v5)), (6, (0, 0, (i : Int)))]) (st' := []) (M' := M) (C' := True) (by decide +kernel) rfl trivial ?_
    refine ax_bdI0 (e := (ax_i2b v5)) (fun y18 => [(7, (0, 0, y18)), (0, (2, 3, 0)), (1, (0, 0, w1)), (2, (0, 0, w2)), (4, (0, 0, w4)), (5, (0, 0, v5)), (6, (0, 0, (i : Int)))]) (fun y18 => []) (fun y18 => ?_)
    refine ax_lump ax_layM ok_kX3 [(75, .aload_n 0, 1, 0, 0, 0), (76, .getfield 138, 3, 3, 14, 0), (79, .sipush 224, 3, 0, 0, 0), (82, .iload 6, 2, 0, 0, 0), (84, .iadd, 1, 1, 0, 0), (85, .iload_n 1, 1, 0, 0, 0), (86, .iconst 3, 1, 0, 0, 0)] (pc' := 87) (lc' := [(7, (0, 0, y18)), (0, (2, 3, 0)), (1, (0, 0, w1)), (2, (0, 0, w2)), (4, (0, 0, w4)), (5, (0, 0, v5)), (6, (0, 0, (i : Int)))]) (st' := [(0, 0, 3), (0, 0, w1), (0, 0, (224 + (i : Int))), (3, 274, 7)]) (M' := M) (C' := (True ∧ ax_r32 (224 + (i : Int)))) (by decide +kernel) rfl ⟨trivial, ⟨by omega, by omega⟩⟩ ?_
    refine ax_icmp_eq (off := 9) (tgt := 96) (by decide +kernel) (by decide) (fun h19 => ?_) (fun h19 => ?_)
    · exfalso; omega
    · refine ax_lump ax_layM ok_kX3 [(90, .iload 6, 2, 0, 0, 0), (92, .iload_n 2, 1, 0, 0, 0)] (pc' := 93) (lc' := [(7, (0, 0, y18)), (0, (2, 3, 0)), (1, (0, 0, w1)), (2, (0, 0, w2)), (4, (0, 0, w4)), (5, (0, 0, v5)), (6, (0, 0, (i : Int)))]) (st' := [(0, 0, w2), (0, 0, (i : Int)), (0, 0, (224 + (i : Int))), (3, 274, 7)]) (M' := M) (C' := True) (by decide +kernel) rfl trivial ?_
      refine ax_jlt (off := 7) (tgt := 100) (by decide +kernel) (by decide) (fun h20 => ?_) (fun h20 => ?_)
      · refine ax_lump ax_layM ok_kX3 [(100, .iconst 0, 1, 0, 0, 0), (101, .sipush 999, 3, 0, 0, 0), (104, .iload 7, 2, 0, 0, 0)] (pc' := 106) (lc' := [(7, (0, 0, y18)), (0, (2, 3, 0)), (1, (0, 0, w1)), (2, (0, 0, w2)), (4, (0, 0, w4)), (5, (0, 0, v5)), (6, (0, 0, (i : Int)))]) (st' := [(0, 0, y18), (0, 0, 999), (0, 0, 0), (0, 0, (224 + (i : Int))), (3, 274, 7)]) (M' := M) (C' := True) (by decide +kernel) rfl trivial ?_
        refine ax_mmin (i := 35) (by decide +kernel) (by omega) (Nat.le_of_ble_eq_true rfl) wt_891 wt_266 wt_8 wt_267 ?_
        refine ax_mmax (i := 333) (by decide +kernel) (by omega) (Nat.le_of_ble_eq_true rfl) wt_1123 wt_263 wt_8 wt_264 ?_
        refine ax_lump ax_layM ok_kX3 [(112, .iastore, 1, 0, 0, 0)] (pc' := 113) (lc' := [(7, (0, 0, y18)), (0, (2, 3, 0)), (1, (0, 0, w1)), (2, (0, 0, w2)), (4, (0, 0, w4)), (5, (0, 0, v5)), (6, (0, 0, (i : Int)))]) (st' := []) (M' := (ax_up M 7 (224 + (i : Int)).toNat (if 0 < (if y18 < 999 then y18 else 999) then (if y18 < 999 then y18 else 999) else 0))) (C' := (True ∧ (0 ≤ (224 + (i : Int)) ∧ (224 + (i : Int)) < ((274 : Nat) : Int)))) (by decide +kernel) rfl ⟨trivial, by omega⟩ ?_
        refine ax_bdMe (fun M21 hM_M21 => ?_)
        refine ax_lump ax_layM ok_kX3 [(113, .iload 5, 2, 0, 0, 0), (115, .iload 4, 2, 0, 0, 0), (117, .iadd, 1, 0, 0, 0), (118, .istore 5, 2, 0, 0, 0), (120, .iinc 6 1, 3, 1, 0, 0), (123, .goto (-80), 3, 43, 0, 0)] (pc' := 43) (lc' := [(6, (0, 0, ((i : Int) + 1))), (5, (0, 0, (ax_wr (v5 + w4)))), (7, (0, 0, y18)), (0, (2, 3, 0)), (1, (0, 0, w1)), (2, (0, 0, w2)), (4, (0, 0, w4))]) (st' := []) (M' := M21) (C' := (True ∧ ax_r32 ((i : Int) + 1))) (by decide +kernel) rfl ⟨trivial, ⟨by omega, by omega⟩⟩ ?_
        refine ax_pk [3,4,5,6,1,0] (lc' := [(0, (2, 3, 0)), (1, (0, 0, w1)), (2, (0, 0, w2)), (4, (0, 0, w4)), (5, (0, 0, (ax_wr (v5 + w4)))), (6, (0, 0, ((i : Int) + 1)))]) rfl ?_
        exact hkc (ax_wr (v5 + w4)) M21 
      · refine ax_lump ax_layM ok_kX3 [(96, .iconst 0, 1, 0, 0, 0), (97, .goto 15, 3, 112, 0, 0), (112, .iastore, 1, 0, 0, 0)] (pc' := 113) (lc' := [(7, (0, 0, y18)), (0, (2, 3, 0)), (1, (0, 0, w1)), (2, (0, 0, w2)), (4, (0, 0, w4)), (5, (0, 0, v5)), (6, (0, 0, (i : Int)))]) (st' := []) (M' := (ax_up M 7 (224 + (i : Int)).toNat 0)) (C' := (True ∧ (0 ≤ (224 + (i : Int)) ∧ (224 + (i : Int)) < ((274 : Nat) : Int)))) (by decide +kernel) rfl ⟨trivial, by omega⟩ ?_
        refine ax_bdMe (fun M22 hM_M22 => ?_)
        refine ax_lump ax_layM ok_kX3 [(113, .iload 5, 2, 0, 0, 0), (115, .iload 4, 2, 0, 0, 0), (117, .iadd, 1, 0, 0, 0), (118, .istore 5, 2, 0, 0, 0), (120, .iinc 6 1, 3, 1, 0, 0), (123, .goto (-80), 3, 43, 0, 0)] (pc' := 43) (lc' := [(6, (0, 0, ((i : Int) + 1))), (5, (0, 0, (ax_wr (v5 + w4)))), (7, (0, 0, y18)), (0, (2, 3, 0)), (1, (0, 0, w1)), (2, (0, 0, w2)), (4, (0, 0, w4))]) (st' := []) (M' := M22) (C' := (True ∧ ax_r32 ((i : Int) + 1))) (by decide +kernel) rfl ⟨trivial, ⟨by omega, by omega⟩⟩ ?_
        refine ax_pk [3,4,5,6,1,0] (lc' := [(0, (2, 3, 0)), (1, (0, 0, w1)), (2, (0, 0, w2)), (4, (0, 0, w4)), (5, (0, 0, (ax_wr (v5 + w4)))), (6, (0, 0, ((i : Int) + 1)))]) rfl ?_
        exact hkc (ax_wr (v5 + w4)) M22 
set_option maxRecDepth 100000 in
set_option maxHeartbeats 4000000 in
theorem w_X3_sheet_L43 (d : Nat) (w1 : Int) (w2 : Int) (w4 : Int) (kx : ax_M → Int × ax_M) (hw_w1 : 0 ≤ w1 ∧ w1 ≤ 3) (hkx : ∀ (M9 : ax_M), (True) → ax_W ax_LM gX3_sheet (d + 1) 126 [(0, (2, 3, 0)), (1, (0, 0, w1))] [] M9 ((ax_qm (-2147483648) 2147483647) (kx M9))) : ∀ (n : Nat) (i : Nat) (v5 : Int) (M : ax_M), 0 ≤ i ∧ i + n = 16 → ax_W ax_LM gX3_sheet (d + 1) 43 [(0, (2, 3, 0)), (1, (0, 0, w1)), (2, (0, 0, w2)), (4, (0, 0, w4)), (5, (0, 0, v5)), (6, (0, 0, (i : Int)))] [] M ((ax_qm (-2147483648) 2147483647) (f_X3_sheet_L43 w1 w2 w4 n i v5 M kx)) := by
  intro n
  induction n with
  | zero =>
    intro i v5 M hin
    refine ax_lump ax_layM ok_kX3 [(43, .iload 6, 2, 0, 0, 0), (45, .bipush 16, 2, 0, 0, 0)] (pc' := 47) (lc' := [(0, (2, 3, 0)), (1, (0, 0, w1)), (2, (0, 0, w2)), (4, (0, 0, w4)), (5, (0, 0, v5)), (6, (0, 0, (i : Int)))]) (st' := [(0, 0, 16), (0, 0, (i : Int))]) (M' := M) (C' := True) (by decide +kernel) rfl trivial ?_
    refine ax_icmp_ge (off := 79) (tgt := 126) (by decide +kernel) (by decide) (fun h => ?_) (fun h => ?_)
    · refine ax_pk [0,1] (lc' := [(0, (2, 3, 0)), (1, (0, 0, w1))]) rfl ?_
      exact hkx M trivial
    · exfalso; omega
  | succ n ih =>
    intro i v5 M hin
    refine ax_lump ax_layM ok_kX3 [(43, .iload 6, 2, 0, 0, 0), (45, .bipush 16, 2, 0, 0, 0)] (pc' := 47) (lc' := [(0, (2, 3, 0)), (1, (0, 0, w1)), (2, (0, 0, w2)), (4, (0, 0, w4)), (5, (0, 0, v5)), (6, (0, 0, (i : Int)))]) (st' := [(0, 0, 16), (0, 0, (i : Int))]) (M' := M) (C' := True) (by decide +kernel) rfl trivial ?_
    refine ax_icmp_ge (off := 79) (tgt := 126) (by decide +kernel) (by decide) (fun h => ?_) (fun h => ?_)
    · exfalso; omega
    · exact wb_X3_sheet_B43 d w1 w2 w4 i v5 M _ kx hw_w1 (by omega)  (fun u5 M9 => ih (i + 1) u5 M9 (by omega) ) hkx
def f_X3_sheet_J37 (j1 : Int) (j2 : Int) (j3 : Int) (j4 : Int) (M : ax_M) : Int × ax_M := f_X3_sheet_L43 j1 j2 j4 16 0 j3 M (fun M23 => (if j1 ≠ 3 then ((f_X3_allWipes 7 M23), M23) else ((-3), M23)))
set_option maxRecDepth 100000 in
set_option maxHeartbeats 4000000 in
theorem w_X3_sheet_J37 (d : Nat) (j1 : Int) (j2 : Int) (j3 : Int) (j4 : Int) (M : ax_M) (hw_j1 : 0 ≤ j1 ∧ j1 ≤ 3) : ax_W ax_LM gX3_sheet (d + 1) 37 [(0, (2, 3, 0)), (1, (0, 0, j1)), (2, (0, 0, j2)), (3, (0, 0, j3)), (4, (0, 0, j4))] [] M ((ax_qm (-2147483648) 2147483647) (f_X3_sheet_J37 j1 j2 j3 j4 M)) := by
  unfold f_X3_sheet_J37
  refine ax_lump ax_layM ok_kX3 [(37, .iload_n 3, 1, 0, 0, 0), (38, .istore 5, 2, 0, 0, 0), (40, .iconst 0, 1, 0, 0, 0), (41, .istore 6, 2, 0, 0, 0)] (pc' := 43) (lc' := [(6, (0, 0, 0)), (5, (0, 0, j3)), (0, (2, 3, 0)), (1, (0, 0, j1)), (2, (0, 0, j2)), (3, (0, 0, j3)), (4, (0, 0, j4))]) (st' := []) (M' := M) (C' := True) (by decide +kernel) rfl trivial ?_
  refine ax_pk [2,3,4,6,1,0] (lc' := [(0, (2, 3, 0)), (1, (0, 0, j1)), (2, (0, 0, j2)), (4, (0, 0, j4)), (5, (0, 0, j3)), (6, (0, 0, 0))]) rfl ?_
  refine w_X3_sheet_L43 d j1 j2 j4 _ (by omega) (fun M23 hx_23 => ?_) 16 0 j3 M (by omega) 
  refine ax_lump ax_layM ok_kX3 [(126, .iload_n 1, 1, 0, 0, 0), (127, .iconst 3, 1, 0, 0, 0)] (pc' := 128) (lc' := [(0, (2, 3, 0)), (1, (0, 0, j1))]) (st' := [(0, 0, 3), (0, 0, j1)]) (M' := M23) (C' := True) (by decide +kernel) rfl trivial ?_
  refine ax_jne (off := 8) (tgt := 136) (by decide +kernel) (by decide) (fun h24 => ?_) (fun h24 => ?_)
  · refine ax_lump ax_layM ok_kX3 [(136, .aload_n 0, 1, 0, 0, 0), (137, .getfield 138, 3, 3, 14, 0)] (pc' := 140) (lc' := [(0, (2, 3, 0)), (1, (0, 0, j1))]) (st' := [(3, 274, 7)]) (M' := M23) (C' := True) (by decide +kernel) rfl trivial ?_
    refine ax_cSi (G1 := gX3_allWipes) (d1 := d + 0) (i := 336) (n := 1) (as := [(3, 274, 7)]) (st := []) (by decide +kernel) calX3_allWipes (by omega) rfl wt_1124 wt_1125 (Nat.le_of_ble_eq_true rfl) rfl (c_X3_allWipes d 7 M23) (fun hc25 => ?_)
    refine ax_rngS (fun hr => ?_)
    exact ax_iret (by decide +kernel) rfl ⟨rfl, rfl, hr.1, hr.2⟩
  · refine ax_lump ax_layM ok_kX3 [(131, .bipush (-3), 2, 0, 0, 0), (133, .goto 10, 3, 143, 0, 0)] (pc' := 143) (lc' := [(0, (2, 3, 0)), (1, (0, 0, j1))]) (st' := [(0, 0, (-3))]) (M' := M23) (C' := True) (by decide +kernel) rfl trivial ?_
    refine ax_rngS (fun hr => ?_)
    exact ax_iret (by decide +kernel) rfl ⟨rfl, rfl, hr.1, hr.2⟩
def f_X3_sheet (x1 : Int) (x2 : Int) (x3 : Int) (x4 : Int) (M : ax_M) : Int × ax_M := ax_bd (ax_up M 0 0 0) (fun M1 => (if (f_X3_in x1 0 3 M1) = 0 then ((-1), M1) else (if x2 ≤ 16 then (if x1 = 3 then f_X3_sheet_J37 x1 x2 x3 x4 M1 else (if 0 ≤ x2 then f_X3_sheet_J37 x1 x2 x3 x4 M1 else ((-2), M1))) else ((-1), M1))))
set_option maxRecDepth 100000 in
set_option maxHeartbeats 4000000 in
theorem c_X3_sheet (d : Nat) (x1 : Int) (x2 : Int) (x3 : Int) (x4 : Int) (M : ax_M)  : ax_Met ax_LM gX3_sheet (d + 1) [(2, 3, 0), (0, 0, x1), (0, 0, x2), (0, 0, x3), (0, 0, x4)] M ((ax_qm (-2147483648) 2147483647) (f_X3_sheet x1 x2 x3 x4 M)) := by
  refine ax_body (by decide) (fun X => Nat.le_of_ble_eq_true rfl) (fun hok => ?_)
  have hr_x1 : (-2147483648) ≤ x1 ∧ x1 ≤ 2147483647 := hok (0, 0, x1) (by simp)
  have hr_x2 : (-2147483648) ≤ x2 ∧ x2 ≤ 2147483647 := hok (0, 0, x2) (by simp)
  have hr_x3 : (-2147483648) ≤ x3 ∧ x3 ≤ 2147483647 := hok (0, 0, x3) (by simp)
  have hr_x4 : (-2147483648) ≤ x4 ∧ x4 ≤ 2147483647 := hok (0, 0, x4) (by simp)
  show ax_W ax_LM gX3_sheet (d + 1) 0 [(0, (2, 3, 0)), (1, (0, 0, x1)), (2, (0, 0, x2)), (3, (0, 0, x3)), (4, (0, 0, x4))] [] M _
  unfold f_X3_sheet
  refine ax_lump ax_layM ok_kX3 [(0, .aload_n 0, 1, 0, 0, 0), (1, .iconst 0, 1, 0, 0, 0), (2, .putfield 3, 3, 3, 0, 0)] (pc' := 5) (lc' := [(0, (2, 3, 0)), (1, (0, 0, x1)), (2, (0, 0, x2)), (3, (0, 0, x3)), (4, (0, 0, x4))]) (st' := []) (M' := (ax_up M 0 0 0)) (C' := (True ∧ (0 ≤ 0 ∧ 0 < ((2 : Nat) : Int)))) (by decide +kernel) rfl ⟨trivial, by omega⟩ ?_
  refine ax_bdMe (fun M1 hM_M1 => ?_)
  refine ax_lump ax_layM ok_kX3 [(5, .iload_n 1, 1, 0, 0, 0), (6, .i2l, 1, 0, 0, 0), (7, .lconst 0, 1, 0, 0, 0), (8, .ldc2_w 329, 3, 0, 0, 3)] (pc' := 11) (lc' := [(0, (2, 3, 0)), (1, (0, 0, x1)), (2, (0, 0, x2)), (3, (0, 0, x3)), (4, (0, 0, x4))]) (st' := [(1, 0, 3), (1, 0, 0), (1, 0, x1)]) (M' := M1) (C' := True) (by decide +kernel) rfl trivial ?_
  refine ax_cSi (G1 := gX3_in) (d1 := d + 0) (i := 25) (n := 3) (as := [(1, 0, x1), (1, 0, 0), (1, 0, 3)]) (st := []) (by decide +kernel) calX3_in (by omega) rfl wt_875 wt_876 (Nat.le_of_ble_eq_true rfl) rfl (c_X3_in d x1 0 3 M1) (fun hc2 => ?_)
  refine ax_zeq (off := 9) (tgt := 23) (by decide +kernel) (by decide) (fun h3 => ?_) (fun h3 => ?_)
  · refine ax_lump ax_layM ok_kX3 [(23, .iconst (-1), 1, 0, 0, 0)] (pc' := 24) (lc' := [(0, (2, 3, 0)), (1, (0, 0, x1)), (2, (0, 0, x2)), (3, (0, 0, x3)), (4, (0, 0, x4))]) (st' := [(0, 0, (-1))]) (M' := M1) (C' := True) (by decide +kernel) rfl trivial ?_
    refine ax_rngS (fun hr => ?_)
    exact ax_iret (by decide +kernel) rfl ⟨rfl, rfl, hr.1, hr.2⟩
  · have hgh3 := g_X3_in h3
    refine ax_lump ax_layM ok_kX3 [(17, .iload_n 2, 1, 0, 0, 0), (18, .bipush 16, 2, 0, 0, 0)] (pc' := 20) (lc' := [(0, (2, 3, 0)), (1, (0, 0, x1)), (2, (0, 0, x2)), (3, (0, 0, x3)), (4, (0, 0, x4))]) (st' := [(0, 0, 16), (0, 0, x2)]) (M' := M1) (C' := True) (by decide +kernel) rfl trivial ?_
    refine ax_jle (off := 5) (tgt := 25) (by decide +kernel) (by decide) (fun h4 => ?_) (fun h4 => ?_)
    · refine ax_lump ax_layM ok_kX3 [(25, .iload_n 1, 1, 0, 0, 0), (26, .iconst 3, 1, 0, 0, 0)] (pc' := 27) (lc' := [(0, (2, 3, 0)), (1, (0, 0, x1)), (2, (0, 0, x2)), (3, (0, 0, x3)), (4, (0, 0, x4))]) (st' := [(0, 0, 3), (0, 0, x1)]) (M' := M1) (C' := True) (by decide +kernel) rfl trivial ?_
      refine ax_jeq (off := 10) (tgt := 37) (by decide +kernel) (by decide) (fun h5 => ?_) (fun h5 => ?_)
      · exact w_X3_sheet_J37 d x1 x2 x3 x4 M1 (by omega)
      · refine ax_lump ax_layM ok_kX3 [(30, .iload_n 2, 1, 0, 0, 0)] (pc' := 31) (lc' := [(0, (2, 3, 0)), (1, (0, 0, x1)), (2, (0, 0, x2)), (3, (0, 0, x3)), (4, (0, 0, x4))]) (st' := [(0, 0, x2)]) (M' := M1) (C' := True) (by decide +kernel) rfl trivial ?_
        refine ax_zge (off := 6) (tgt := 37) (by decide +kernel) (by decide) (fun h26 => ?_) (fun h26 => ?_)
        · exact w_X3_sheet_J37 d x1 x2 x3 x4 M1 (by omega)
        · refine ax_lump ax_layM ok_kX3 [(34, .bipush (-2), 2, 0, 0, 0)] (pc' := 36) (lc' := [(0, (2, 3, 0)), (1, (0, 0, x1)), (2, (0, 0, x2)), (3, (0, 0, x3)), (4, (0, 0, x4))]) (st' := [(0, 0, (-2))]) (M' := M1) (C' := True) (by decide +kernel) rfl trivial ?_
          refine ax_rngS (fun hr => ?_)
          exact ax_iret (by decide +kernel) rfl ⟨rfl, rfl, hr.1, hr.2⟩
    · refine ax_lump ax_layM ok_kX3 [(23, .iconst (-1), 1, 0, 0, 0)] (pc' := 24) (lc' := [(0, (2, 3, 0)), (1, (0, 0, x1)), (2, (0, 0, x2)), (3, (0, 0, x3)), (4, (0, 0, x4))]) (st' := [(0, 0, (-1))]) (M' := M1) (C' := True) (by decide +kernel) rfl trivial ?_
      refine ax_rngS (fun hr => ?_)
      exact ax_iret (by decide +kernel) rfl ⟨rfl, rfl, hr.1, hr.2⟩
def f_X3_marks (a1 : Nat) (M : ax_M) : ax_M := ax_bd (ax_up M 0 26 (M a1 265)) (fun M1 => ax_bd (ax_up M1 0 27 (M1 a1 266)) (fun M2 => M2))
set_option maxRecDepth 100000 in
set_option maxHeartbeats 4000000 in
theorem c_X3_marks (d : Nat) (a1 : Nat) (M : ax_M)  : ax_Met ax_LM gX3_marks (d + 0) [(2, 3, 0), (3, 274, (a1 : Int))] M (ax_qv (f_X3_marks a1 M)) := by
  refine ax_body (by decide) (fun X => Nat.le_of_ble_eq_true rfl) (fun hok => ?_)
  show ax_W ax_LM gX3_marks (d + 0) 0 [(0, (2, 3, 0)), (1, (3, 274, (a1 : Int)))] [] M _
  unfold f_X3_marks
  refine ax_lump ax_layM ok_kX3 [(0, .aload_n 0, 1, 0, 0, 0), (1, .aload_n 1, 1, 0, 0, 0), (2, .sipush 265, 3, 0, 0, 0), (5, .iaload, 1, 0, 0, 0), (6, .putfield 339, 3, 3, 26, 0)] (pc' := 9) (lc' := [(0, (2, 3, 0)), (1, (3, 274, (a1 : Int)))]) (st' := []) (M' := (ax_up M 0 26 (M a1 265))) (C' := (True ∧ (0 ≤ 265 ∧ 265 < ((274 : Nat) : Int)))) (by decide +kernel) rfl ⟨trivial, by omega⟩ ?_
  refine ax_bdMe (fun M1 hM_M1 => ?_)
  refine ax_lump ax_layM ok_kX3 [(9, .aload_n 0, 1, 0, 0, 0), (10, .aload_n 1, 1, 0, 0, 0), (11, .sipush 266, 3, 0, 0, 0), (14, .iaload, 1, 0, 0, 0), (15, .putfield 342, 3, 3, 27, 0)] (pc' := 18) (lc' := [(0, (2, 3, 0)), (1, (3, 274, (a1 : Int)))]) (st' := []) (M' := (ax_up M1 0 27 (M1 a1 266))) (C' := (True ∧ (0 ≤ 266 ∧ 266 < ((274 : Nat) : Int)))) (by decide +kernel) rfl ⟨trivial, by omega⟩ ?_
  refine ax_bdMe (fun M2 hM_M2 => ?_)
  exact ax_vret (by decide +kernel) rfl ⟨rfl, rfl⟩
def f_X3_entersMore (a1 : Nat) (M : ax_M) : Prop × ax_M := ax_rc (f_X3_enters (ax_wr ((M a1 265) - (M 0 26))) M) (fun M1 => ax_rc (f_X3_enters (ax_wr ((M1 a1 266) - (M1 0 27))) M1) (fun M2 => (True, M2)))
set_option maxRecDepth 100000 in
set_option maxHeartbeats 4000000 in
theorem c_X3_entersMore (d : Nat) (a1 : Nat) (M : ax_M)  (hX : (f_X3_entersMore a1 M).1) : ax_Met ax_LM gX3_entersMore (d + 1) [(2, 3, 0), (3, 274, (a1 : Int))] M (ax_qv (f_X3_entersMore a1 M).2) := by
  refine ax_body (by decide) (fun X => Nat.le_of_ble_eq_true rfl) (fun hok => ?_)
  show ax_W ax_LM gX3_entersMore (d + 1) 0 [(0, (2, 3, 0)), (1, (3, 274, (a1 : Int)))] [] M _
  unfold f_X3_entersMore at hX ⊢
  refine ax_lump ax_layM ok_kX3 [(0, .aload_n 0, 1, 0, 0, 0), (1, .aload_n 1, 1, 0, 0, 0), (2, .sipush 265, 3, 0, 0, 0), (5, .iaload, 1, 0, 0, 0), (6, .aload_n 0, 1, 0, 0, 0), (7, .getfield 339, 3, 3, 26, 0), (10, .isub, 1, 0, 0, 0), (11, .i2l, 1, 0, 0, 0)] (pc' := 12) (lc' := [(0, (2, 3, 0)), (1, (3, 274, (a1 : Int)))]) (st' := [(1, 0, (ax_wr ((M a1 265) - (M 0 26)))), (2, 3, 0)]) (M' := M) (C' := (True ∧ (0 ≤ 265 ∧ 265 < ((274 : Nat) : Int)))) (by decide +kernel) rfl ⟨trivial, by omega⟩ ?_
  refine ax_cVv_r hX (G1 := gX3_enters) (d1 := d + 0) (i := 345) (n := 1) (as := [(1, 0, (ax_wr ((M a1 265) - (M 0 26))))]) (st := []) (c := 3) (a := 0) (by decide +kernel) ax_cls3 calX3_enters (by omega) rfl wt_1256 wt_1258 ws_98 (Nat.le_of_ble_eq_true rfl) rfl (fun hY => c_X3_enters d (ax_wr ((M a1 265) - (M 0 26))) M hY) (fun M1 hX => ?_)
  refine ax_lump ax_layM ok_kX3 [(15, .aload_n 0, 1, 0, 0, 0), (16, .aload_n 1, 1, 0, 0, 0), (17, .sipush 266, 3, 0, 0, 0), (20, .iaload, 1, 0, 0, 0), (21, .aload_n 0, 1, 0, 0, 0), (22, .getfield 342, 3, 3, 27, 0), (25, .isub, 1, 0, 0, 0), (26, .i2l, 1, 0, 0, 0)] (pc' := 27) (lc' := [(0, (2, 3, 0)), (1, (3, 274, (a1 : Int)))]) (st' := [(1, 0, (ax_wr ((M1 a1 266) - (M1 0 27)))), (2, 3, 0)]) (M' := M1) (C' := (True ∧ (0 ≤ 266 ∧ 266 < ((274 : Nat) : Int)))) (by decide +kernel) rfl ⟨trivial, by omega⟩ ?_
  refine ax_cVv_r hX (G1 := gX3_enters) (d1 := d + 0) (i := 345) (n := 1) (as := [(1, 0, (ax_wr ((M1 a1 266) - (M1 0 27))))]) (st := []) (c := 3) (a := 0) (by decide +kernel) ax_cls3 calX3_enters (by omega) rfl wt_1256 wt_1258 ws_98 (Nat.le_of_ble_eq_true rfl) rfl (fun hY => c_X3_enters d (ax_wr ((M1 a1 266) - (M1 0 27))) M1 hY) (fun M2 hX => ?_)
  exact ax_vret (by decide +kernel) rfl ⟨rfl, rfl⟩
def f_X3_reads (x1 : Int) (M : ax_M) : Prop × Int × ax_M := ax_bd (ax_up M 0 0 0) (fun M1 => (if (f_X3_isPage x1 M1) ≠ 0 then ax_bd (f_X3_latest 7 x1 M1) (fun y5 => (if 0 ≤ y5 then ax_bd (ax_up M1 0 1 0) (fun M7 => ax_rc (f_X3_enters (y5 / 4) M7) (fun M8 => ax_rc (f_X3_enters (y5 % 4) M8) (fun M9 => ax_rc (f_X3_enters (M9 7 (128 + y5).toNat) M9) (fun M10 => (True, ((M10 7 (64 + y5).toNat), M10)))))) else (True, ((-2), M1)))) else (True, ((-1), M1))))
set_option maxRecDepth 100000 in
set_option maxHeartbeats 4000000 in
theorem c_X3_reads (d : Nat) (x1 : Int) (M : ax_M)  (hX : (f_X3_reads x1 M).1) : ax_Met ax_LM gX3_reads (d + 3) [(2, 3, 0), (0, 0, x1)] M ((ax_qm (-2147483648) 2147483647) (f_X3_reads x1 M).2) := by
  refine ax_body (by decide) (fun X => Nat.le_of_ble_eq_true rfl) (fun hok => ?_)
  have hr_x1 : (-2147483648) ≤ x1 ∧ x1 ≤ 2147483647 := hok (0, 0, x1) (by simp)
  show ax_W ax_LM gX3_reads (d + 3) 0 [(0, (2, 3, 0)), (1, (0, 0, x1))] [] M _
  unfold f_X3_reads at hX ⊢
  refine ax_lump ax_layM ok_kX3 [(0, .aload_n 0, 1, 0, 0, 0), (1, .iconst 0, 1, 0, 0, 0), (2, .putfield 3, 3, 3, 0, 0)] (pc' := 5) (lc' := [(0, (2, 3, 0)), (1, (0, 0, x1))]) (st' := []) (M' := (ax_up M 0 0 0)) (C' := (True ∧ (0 ≤ 0 ∧ 0 < ((2 : Nat) : Int)))) (by decide +kernel) rfl ⟨trivial, by omega⟩ ?_
  refine ax_bdMe_s hX (fun M1 hM_M1 hX => ?_)
  refine ax_lump ax_layM ok_kX3 [(5, .iload_n 1, 1, 0, 0, 0)] (pc' := 6) (lc' := [(0, (2, 3, 0)), (1, (0, 0, x1))]) (st' := [(0, 0, x1)]) (M' := M1) (C' := True) (by decide +kernel) rfl trivial ?_
  refine ax_cSi (G1 := gX3_isPage) (d1 := d + 1) (i := 349) (n := 1) (as := [(0, 0, x1)]) (st := []) (by decide +kernel) calX3_isPage (by omega) rfl wt_1131 wt_1132 (Nat.le_of_ble_eq_true rfl) rfl (c_X3_isPage d x1 M1) (fun hc2 => ?_)
  refine ax_zne_s hX (off := 5) (tgt := 14) (by decide +kernel) (by decide) (fun h3 hX => ?_) (fun h3 hX => ?_)
  · have hgh3 := g_X3_isPage h3
    refine ax_lump ax_layM ok_kX3 [(14, .aload_n 0, 1, 0, 0, 0), (15, .getfield 138, 3, 3, 14, 0), (18, .iload_n 1, 1, 0, 0, 0)] (pc' := 19) (lc' := [(0, (2, 3, 0)), (1, (0, 0, x1))]) (st' := [(0, 0, x1), (3, 274, 7)]) (M' := M1) (C' := True) (by decide +kernel) rfl trivial ?_
    refine ax_cSi (G1 := gX3_latest) (d1 := d + 2) (i := 199) (n := 2) (as := [(3, 274, 7), (0, 0, x1)]) (st := []) (by decide +kernel) calX3_latest (by omega) rfl wt_1107 wt_1108 (Nat.le_of_ble_eq_true rfl) rfl (c_X3_latest d 7 x1 M1) (fun hc4 => ?_)
    refine ax_lump ax_layM ok_kX3 [(22, .istore_n 2, 1, 0, 0, 0)] (pc' := 23) (lc' := [(2, (0, 0, (f_X3_latest 7 x1 M1))), (0, (2, 3, 0)), (1, (0, 0, x1))]) (st' := []) (M' := M1) (C' := True) (by decide +kernel) rfl trivial ?_
    refine ax_bdI_s hX (lo := (-1)) (hi := 63) (e := (f_X3_latest 7 x1 M1)) (fun y5 => [(2, (0, 0, y5)), (0, (2, 3, 0)), (1, (0, 0, x1))]) (fun y5 => []) (by omega) (fun y5 h_y5 hX => ?_)
    refine ax_lump ax_layM ok_kX3 [(23, .iload_n 2, 1, 0, 0, 0)] (pc' := 24) (lc' := [(2, (0, 0, y5)), (0, (2, 3, 0)), (1, (0, 0, x1))]) (st' := [(0, 0, y5)]) (M' := M1) (C' := True) (by decide +kernel) rfl trivial ?_
    refine ax_zge_s hX (off := 6) (tgt := 30) (by decide +kernel) (by decide) (fun h6 hX => ?_) (fun h6 hX => ?_)
    · refine ax_lump ax_layM ok_kX3 [(30, .aload_n 0, 1, 0, 0, 0), (31, .iconst 0, 1, 0, 0, 0), (32, .putfield 15, 3, 3, 1, 0)] (pc' := 35) (lc' := [(2, (0, 0, y5)), (0, (2, 3, 0)), (1, (0, 0, x1))]) (st' := []) (M' := (ax_up M1 0 1 0)) (C' := (True ∧ (0 ≤ 0 ∧ 0 < ((25 : Nat) : Int)))) (by decide +kernel) rfl ⟨trivial, by omega⟩ ?_
      refine ax_bdMe_s hX (fun M7 hM_M7 hX => ?_)
      refine ax_lump ax_layM ok_kX3 [(35, .aload_n 0, 1, 0, 0, 0), (36, .iload_n 2, 1, 0, 0, 0), (37, .iconst 4, 1, 0, 0, 0), (38, .idiv, 1, 1, 0, 0), (39, .i2l, 1, 0, 0, 0)] (pc' := 40) (lc' := [(2, (0, 0, y5)), (0, (2, 3, 0)), (1, (0, 0, x1))]) (st' := [(1, 0, (y5 / 4)), (2, 3, 0)]) (M' := M7) (C' := (True ∧ (0 ≤ y5 ∧ 0 < 4))) (by decide +kernel) rfl ⟨trivial, by omega⟩ ?_
      refine ax_cVv_r hX (G1 := gX3_enters) (d1 := d + 0) (i := 345) (n := 1) (as := [(1, 0, (y5 / 4))]) (st := []) (c := 3) (a := 0) (by decide +kernel) ax_cls3 calX3_enters (by omega) rfl wt_1256 wt_1258 ws_98 (Nat.le_of_ble_eq_true rfl) rfl (fun hY => c_X3_enters d (y5 / 4) M7 hY) (fun M8 hX => ?_)
      refine ax_lump ax_layM ok_kX3 [(43, .aload_n 0, 1, 0, 0, 0), (44, .iload_n 2, 1, 0, 0, 0), (45, .iconst 4, 1, 0, 0, 0), (46, .irem, 1, 1, 0, 0), (47, .i2l, 1, 0, 0, 0)] (pc' := 48) (lc' := [(2, (0, 0, y5)), (0, (2, 3, 0)), (1, (0, 0, x1))]) (st' := [(1, 0, (y5 % 4)), (2, 3, 0)]) (M' := M8) (C' := (True ∧ (0 ≤ y5 ∧ 0 < 4))) (by decide +kernel) rfl ⟨trivial, by omega⟩ ?_
      refine ax_cVv_r hX (G1 := gX3_enters) (d1 := d + 0) (i := 345) (n := 1) (as := [(1, 0, (y5 % 4))]) (st := []) (c := 3) (a := 0) (by decide +kernel) ax_cls3 calX3_enters (by omega) rfl wt_1256 wt_1258 ws_98 (Nat.le_of_ble_eq_true rfl) rfl (fun hY => c_X3_enters d (y5 % 4) M8 hY) (fun M9 hX => ?_)
      refine ax_lump ax_layM ok_kX3 [(51, .aload_n 0, 1, 0, 0, 0), (52, .aload_n 0, 1, 0, 0, 0), (53, .getfield 138, 3, 3, 14, 0), (56, .sipush 128, 3, 0, 0, 0), (59, .iload_n 2, 1, 0, 0, 0), (60, .iadd, 1, 1, 0, 0), (61, .iaload, 1, 0, 0, 0), (62, .i2l, 1, 0, 0, 0)] (pc' := 63) (lc' := [(2, (0, 0, y5)), (0, (2, 3, 0)), (1, (0, 0, x1))]) (st' := [(1, 0, (M9 7 (128 + y5).toNat)), (2, 3, 0)]) (M' := M9) (C' := ((True ∧ ax_r32 (128 + y5)) ∧ (0 ≤ (128 + y5) ∧ (128 + y5) < ((274 : Nat) : Int)))) (by decide +kernel) rfl ⟨⟨trivial, ⟨by omega, by omega⟩⟩, by omega⟩ ?_
      refine ax_cVv_r hX (G1 := gX3_enters) (d1 := d + 0) (i := 345) (n := 1) (as := [(1, 0, (M9 7 (128 + y5).toNat))]) (st := []) (c := 3) (a := 0) (by decide +kernel) ax_cls3 calX3_enters (by omega) rfl wt_1256 wt_1258 ws_98 (Nat.le_of_ble_eq_true rfl) rfl (fun hY => c_X3_enters d (M9 7 (128 + y5).toNat) M9 hY) (fun M10 hX => ?_)
      refine ax_lump ax_layM ok_kX3 [(66, .aload_n 0, 1, 0, 0, 0), (67, .getfield 138, 3, 3, 14, 0), (70, .bipush 64, 2, 0, 0, 0), (72, .iload_n 2, 1, 0, 0, 0), (73, .iadd, 1, 1, 0, 0), (74, .iaload, 1, 0, 0, 0)] (pc' := 75) (lc' := [(2, (0, 0, y5)), (0, (2, 3, 0)), (1, (0, 0, x1))]) (st' := [(0, 0, (M10 7 (64 + y5).toNat))]) (M' := M10) (C' := ((True ∧ ax_r32 (64 + y5)) ∧ (0 ≤ (64 + y5) ∧ (64 + y5) < ((274 : Nat) : Int)))) (by decide +kernel) rfl ⟨⟨trivial, ⟨by omega, by omega⟩⟩, by omega⟩ ?_
      refine ax_rngS (fun hr => ?_)
      exact ax_iret (by decide +kernel) rfl ⟨rfl, rfl, hr.1, hr.2⟩
    · refine ax_lump ax_layM ok_kX3 [(27, .bipush (-2), 2, 0, 0, 0)] (pc' := 29) (lc' := [(2, (0, 0, y5)), (0, (2, 3, 0)), (1, (0, 0, x1))]) (st' := [(0, 0, (-2))]) (M' := M1) (C' := True) (by decide +kernel) rfl trivial ?_
      refine ax_rngS (fun hr => ?_)
      exact ax_iret (by decide +kernel) rfl ⟨rfl, rfl, hr.1, hr.2⟩
  · refine ax_lump ax_layM ok_kX3 [(12, .iconst (-1), 1, 0, 0, 0)] (pc' := 13) (lc' := [(0, (2, 3, 0)), (1, (0, 0, x1))]) (st' := [(0, 0, (-1))]) (M' := M1) (C' := True) (by decide +kernel) rfl trivial ?_
    refine ax_rngS (fun hr => ?_)
    exact ax_iret (by decide +kernel) rfl ⟨rfl, rfl, hr.1, hr.2⟩
def f_X3_mergesOf (x1 : Int) (M : ax_M) : Prop × Int × ax_M := (if (f_X3_in x1 0 5 M) ≠ 0 then (if (f_X3_isAny 7 x1 M) = 0 then (True, ((-2), M)) else ax_rc (f_X3_mergesAll 7 x1 M) (fun y5 => (True, (y5.1, y5.2)))) else (True, ((-1), M)))
set_option maxRecDepth 100000 in
set_option maxHeartbeats 4000000 in
theorem c_X3_mergesOf (d : Nat) (x1 : Int) (M : ax_M)  (hX : (f_X3_mergesOf x1 M).1) : ax_Met ax_LM gX3_mergesOf (d + 5) [(2, 3, 0), (0, 0, x1)] M ((ax_qm (-2) 15) (f_X3_mergesOf x1 M).2) := by
  refine ax_body (by decide) (fun X => Nat.le_of_ble_eq_true rfl) (fun hok => ?_)
  have hr_x1 : (-2147483648) ≤ x1 ∧ x1 ≤ 2147483647 := hok (0, 0, x1) (by simp)
  show ax_W ax_LM gX3_mergesOf (d + 5) 0 [(0, (2, 3, 0)), (1, (0, 0, x1))] [] M _
  unfold f_X3_mergesOf at hX ⊢
  refine ax_lump ax_layM ok_kX3 [(0, .iload_n 1, 1, 0, 0, 0), (1, .i2l, 1, 0, 0, 0), (2, .lconst 0, 1, 0, 0, 0), (3, .ldc2_w 370, 3, 0, 0, 5)] (pc' := 6) (lc' := [(0, (2, 3, 0)), (1, (0, 0, x1))]) (st' := [(1, 0, 5), (1, 0, 0), (1, 0, x1)]) (M' := M) (C' := True) (by decide +kernel) rfl trivial ?_
  refine ax_cSi (G1 := gX3_in) (d1 := d + 0) (i := 25) (n := 3) (as := [(1, 0, x1), (1, 0, 0), (1, 0, 5)]) (st := []) (by decide +kernel) calX3_in (by omega) rfl wt_875 wt_876 (Nat.le_of_ble_eq_true rfl) rfl (c_X3_in d x1 0 5 M) (fun hc1 => ?_)
  refine ax_zne_s hX (off := 5) (tgt := 14) (by decide +kernel) (by decide) (fun h2 hX => ?_) (fun h2 hX => ?_)
  · have hgh2 := g_X3_in h2
    refine ax_lump ax_layM ok_kX3 [(14, .aload_n 0, 1, 0, 0, 0), (15, .getfield 138, 3, 3, 14, 0), (18, .iload_n 1, 1, 0, 0, 0)] (pc' := 19) (lc' := [(0, (2, 3, 0)), (1, (0, 0, x1))]) (st' := [(0, 0, x1), (3, 274, 7)]) (M' := M) (C' := True) (by decide +kernel) rfl trivial ?_
    refine ax_cSi (G1 := gX3_isAny) (d1 := d + 1) (i := 372) (n := 2) (as := [(3, 274, 7), (0, 0, x1)]) (st := []) (by decide +kernel) calX3_isAny (by omega) rfl wt_1281 wt_1282 (Nat.le_of_ble_eq_true rfl) rfl (c_X3_isAny d 7 x1 M) (fun hc3 => ?_)
    refine ax_zeq_s hX (off := 15) (tgt := 37) (by decide +kernel) (by decide) (fun h4 hX => ?_) (fun h4 hX => ?_)
    · refine ax_lump ax_layM ok_kX3 [(37, .bipush (-2), 2, 0, 0, 0)] (pc' := 39) (lc' := [(0, (2, 3, 0)), (1, (0, 0, x1))]) (st' := [(0, 0, (-2))]) (M' := M) (C' := True) (by decide +kernel) rfl trivial ?_
      exact ax_iret (by decide +kernel) rfl ⟨rfl, rfl, (show ((-2) : Int) ≤ (-2) from by omega), (show (-2) ≤ (15 : Int) from by omega)⟩
    · refine ax_lump ax_layM ok_kX3 [(25, .aload_n 0, 1, 0, 0, 0), (26, .aload_n 0, 1, 0, 0, 0), (27, .getfield 138, 3, 3, 14, 0), (30, .iload_n 1, 1, 0, 0, 0)] (pc' := 31) (lc' := [(0, (2, 3, 0)), (1, (0, 0, x1))]) (st' := [(0, 0, x1), (3, 274, 7), (2, 3, 0)]) (M' := M) (C' := True) (by decide +kernel) rfl trivial ?_
      refine ax_cVm_r hX (G1 := gX3_mergesAll) (d1 := d + 4) (i := 248) (n := 2) (as := [(3, 274, 7), (0, 0, x1)]) (st := []) (c := 3) (a := 0) (by decide +kernel) ax_cls3 calX3_mergesAll (by omega) rfl wt_1168 wt_1170 ws_86 (Nat.le_of_ble_eq_true rfl) rfl (fun hY => c_X3_mergesAll d 7 x1 M hY) (fun y5 h_y5 hX => ?_)
      refine ax_lump ax_layM ok_kX3 [(34, .goto 5, 3, 39, 0, 0)] (pc' := 39) (lc' := [(0, (2, 3, 0)), (1, (0, 0, x1))]) (st' := [(0, 0, y5.1)]) (M' := y5.2) (C' := True) (by decide +kernel) rfl trivial ?_
      exact ax_iret (by decide +kernel) rfl ⟨rfl, rfl, (show ((-2) : Int) ≤ y5.1 from by omega), (show y5.1 ≤ (15 : Int) from by omega)⟩
  · refine ax_lump ax_layM ok_kX3 [(12, .iconst (-1), 1, 0, 0, 0)] (pc' := 13) (lc' := [(0, (2, 3, 0)), (1, (0, 0, x1))]) (st' := [(0, 0, (-1))]) (M' := M) (C' := True) (by decide +kernel) rfl trivial ?_
    exact ax_iret (by decide +kernel) rfl ⟨rfl, rfl, (show ((-2) : Int) ≤ (-1) from by omega), (show (-1) ≤ (15 : Int) from by omega)⟩
def f_X3_sealsNow  (M : ax_M) : Prop × Int × ax_M := (if 0 ≤ (f_X3_theRun 7 M) then ax_rc (f_X3_sealsRun 7 M) (fun y3 => (True, (y3.1, y3.2))) else (True, ((-2), M)))
set_option maxRecDepth 100000 in
set_option maxHeartbeats 4000000 in
theorem c_X3_sealsNow (d : Nat)  (M : ax_M)  (hX : (f_X3_sealsNow  M).1) : ax_Met ax_LM gX3_sealsNow (d + 6) [(2, 3, 0)] M ((ax_qm (-2) 2) (f_X3_sealsNow  M).2) := by
  refine ax_body (by decide) (fun X => Nat.le_of_ble_eq_true rfl) (fun hok => ?_)
  show ax_W ax_LM gX3_sealsNow (d + 6) 0 [(0, (2, 3, 0))] [] M _
  unfold f_X3_sealsNow at hX ⊢
  refine ax_lump ax_layM ok_kX3 [(0, .aload_n 0, 1, 0, 0, 0), (1, .getfield 138, 3, 3, 14, 0)] (pc' := 4) (lc' := [(0, (2, 3, 0))]) (st' := [(3, 274, 7)]) (M' := M) (C' := True) (by decide +kernel) rfl trivial ?_
  refine ax_cSi (G1 := gX3_theRun) (d1 := d + 0) (i := 242) (n := 1) (as := [(3, 274, 7)]) (st := []) (by decide +kernel) calX3_theRun (by omega) rfl wt_1161 wt_1162 (Nat.le_of_ble_eq_true rfl) rfl (c_X3_theRun d 7 M) (fun hc1 => ?_)
  refine ax_zge_s hX (off := 8) (tgt := 15) (by decide +kernel) (by decide) (fun h2 hX => ?_) (fun h2 hX => ?_)
  · refine ax_lump ax_layM ok_kX3 [(15, .aload_n 0, 1, 0, 0, 0), (16, .aload_n 0, 1, 0, 0, 0), (17, .getfield 138, 3, 3, 14, 0)] (pc' := 20) (lc' := [(0, (2, 3, 0))]) (st' := [(3, 274, 7), (2, 3, 0)]) (M' := M) (C' := True) (by decide +kernel) rfl trivial ?_
    refine ax_cVm_r hX (G1 := gX3_sealsRun) (d1 := d + 5) (i := 294) (n := 1) (as := [(3, 274, 7)]) (st := []) (c := 3) (a := 0) (by decide +kernel) ax_cls3 calX3_sealsRun (by omega) rfl wt_1164 wt_1166 ws_85 (Nat.le_of_ble_eq_true rfl) rfl (fun hY => c_X3_sealsRun d 7 M hY) (fun y3 h_y3 hX => ?_)
    exact ax_iret (by decide +kernel) rfl ⟨rfl, rfl, (show ((-2) : Int) ≤ y3.1 from by omega), (show y3.1 ≤ (2 : Int) from by omega)⟩
  · refine ax_lump ax_layM ok_kX3 [(10, .bipush (-2), 2, 0, 0, 0), (12, .goto 11, 3, 23, 0, 0)] (pc' := 23) (lc' := [(0, (2, 3, 0))]) (st' := [(0, 0, (-2))]) (M' := M) (C' := True) (by decide +kernel) rfl trivial ?_
    exact ax_iret (by decide +kernel) rfl ⟨rfl, rfl, (show ((-2) : Int) ≤ (-2) from by omega), (show (-2) ≤ (2 : Int) from by omega)⟩
def f_X3_clearsOf (x1 : Int) (M : ax_M) : Prop × Int × ax_M := (if (f_X3_in x1 0 1 M) ≠ 0 then (if (f_X3_kindMany 7 (3 + x1) M) ≠ 0 then ax_rc (f_X3_clearsLog 7 (3 + x1) M) (fun y5 => (True, (y5.1, y5.2))) else (True, ((-2), M))) else (True, ((-1), M)))
set_option maxRecDepth 100000 in
set_option maxHeartbeats 4000000 in
theorem c_X3_clearsOf (d : Nat) (x1 : Int) (M : ax_M)  (hX : (f_X3_clearsOf x1 M).1) : ax_Met ax_LM gX3_clearsOf (d + 6) [(2, 3, 0), (0, 0, x1)] M ((ax_qm (-2) 6) (f_X3_clearsOf x1 M).2) := by
  refine ax_body (by decide) (fun X => Nat.le_of_ble_eq_true rfl) (fun hok => ?_)
  have hr_x1 : (-2147483648) ≤ x1 ∧ x1 ≤ 2147483647 := hok (0, 0, x1) (by simp)
  show ax_W ax_LM gX3_clearsOf (d + 6) 0 [(0, (2, 3, 0)), (1, (0, 0, x1))] [] M _
  unfold f_X3_clearsOf at hX ⊢
  refine ax_lump ax_layM ok_kX3 [(0, .iload_n 1, 1, 0, 0, 0), (1, .i2l, 1, 0, 0, 0), (2, .lconst 0, 1, 0, 0, 0), (3, .lconst 1, 1, 0, 0, 0)] (pc' := 4) (lc' := [(0, (2, 3, 0)), (1, (0, 0, x1))]) (st' := [(1, 0, 1), (1, 0, 0), (1, 0, x1)]) (M' := M) (C' := True) (by decide +kernel) rfl trivial ?_
  refine ax_cSi (G1 := gX3_in) (d1 := d + 0) (i := 25) (n := 3) (as := [(1, 0, x1), (1, 0, 0), (1, 0, 1)]) (st := []) (by decide +kernel) calX3_in (by omega) rfl wt_875 wt_876 (Nat.le_of_ble_eq_true rfl) rfl (c_X3_in d x1 0 1 M) (fun hc1 => ?_)
  refine ax_zne_s hX (off := 5) (tgt := 12) (by decide +kernel) (by decide) (fun h2 hX => ?_) (fun h2 hX => ?_)
  · have hgh2 := g_X3_in h2
    refine ax_lump ax_layM ok_kX3 [(12, .aload_n 0, 1, 0, 0, 0), (13, .getfield 138, 3, 3, 14, 0), (16, .iconst 3, 1, 0, 0, 0), (17, .iload_n 1, 1, 0, 0, 0), (18, .iadd, 1, 1, 0, 0)] (pc' := 19) (lc' := [(0, (2, 3, 0)), (1, (0, 0, x1))]) (st' := [(0, 0, (3 + x1)), (3, 274, 7)]) (M' := M) (C' := (True ∧ ax_r32 (3 + x1))) (by decide +kernel) rfl ⟨trivial, ⟨by omega, by omega⟩⟩ ?_
    refine ax_cSi (G1 := gX3_kindMany) (d1 := d + 1) (i := 273) (n := 2) (as := [(3, 274, 7), (0, 0, (3 + x1))]) (st := []) (by decide +kernel) calX3_kindMany (by omega) rfl wt_1209 wt_1210 (Nat.le_of_ble_eq_true rfl) rfl (c_X3_kindMany d 7 (3 + x1) M) (fun hc3 => ?_)
    refine ax_zne_s hX (off := 8) (tgt := 30) (by decide +kernel) (by decide) (fun h4 hX => ?_) (fun h4 hX => ?_)
    · refine ax_lump ax_layM ok_kX3 [(30, .aload_n 0, 1, 0, 0, 0), (31, .aload_n 0, 1, 0, 0, 0), (32, .getfield 138, 3, 3, 14, 0), (35, .iconst 3, 1, 0, 0, 0), (36, .iload_n 1, 1, 0, 0, 0), (37, .iadd, 1, 1, 0, 0)] (pc' := 38) (lc' := [(0, (2, 3, 0)), (1, (0, 0, x1))]) (st' := [(0, 0, (3 + x1)), (3, 274, 7), (2, 3, 0)]) (M' := M) (C' := (True ∧ ax_r32 (3 + x1))) (by decide +kernel) rfl ⟨trivial, ⟨by omega, by omega⟩⟩ ?_
      refine ax_cVm_r hX (G1 := gX3_clearsLog) (d1 := d + 5) (i := 288) (n := 2) (as := [(3, 274, 7), (0, 0, (3 + x1))]) (st := []) (c := 3) (a := 0) (by decide +kernel) ax_cls3 calX3_clearsLog (by omega) rfl wt_1212 wt_1214 ws_93 (Nat.le_of_ble_eq_true rfl) rfl (fun hY => c_X3_clearsLog d 7 (3 + x1) M hY) (fun y5 h_y5 hX => ?_)
      exact ax_iret (by decide +kernel) rfl ⟨rfl, rfl, (show ((-2) : Int) ≤ y5.1 from by omega), (show y5.1 ≤ (6 : Int) from by omega)⟩
    · refine ax_lump ax_layM ok_kX3 [(25, .bipush (-2), 2, 0, 0, 0), (27, .goto 14, 3, 41, 0, 0)] (pc' := 41) (lc' := [(0, (2, 3, 0)), (1, (0, 0, x1))]) (st' := [(0, 0, (-2))]) (M' := M) (C' := True) (by decide +kernel) rfl trivial ?_
      exact ax_iret (by decide +kernel) rfl ⟨rfl, rfl, (show ((-2) : Int) ≤ (-2) from by omega), (show (-2) ≤ (6 : Int) from by omega)⟩
  · refine ax_lump ax_layM ok_kX3 [(10, .iconst (-1), 1, 0, 0, 0)] (pc' := 11) (lc' := [(0, (2, 3, 0)), (1, (0, 0, x1))]) (st' := [(0, 0, (-1))]) (M' := M) (C' := True) (by decide +kernel) rfl trivial ?_
    exact ax_iret (by decide +kernel) rfl ⟨rfl, rfl, (show ((-2) : Int) ≤ (-1) from by omega), (show (-1) ≤ (6 : Int) from by omega)⟩
def f_X3_levelsNow  (M : ax_M) : Prop × Int × ax_M := ax_rc (f_X3_levelsOne 7 M) (fun y1 => (if 0 ≤ y1.1 then (True, (y1.1, y1.2)) else (True, ((-2), y1.2))))
set_option maxRecDepth 100000 in
set_option maxHeartbeats 4000000 in
theorem c_X3_levelsNow (d : Nat)  (M : ax_M)  (hX : (f_X3_levelsNow  M).1) : ax_Met ax_LM gX3_levelsNow (d + 4) [(2, 3, 0)] M ((ax_qm (-2) 15) (f_X3_levelsNow  M).2) := by
  refine ax_body (by decide) (fun X => Nat.le_of_ble_eq_true rfl) (fun hok => ?_)
  show ax_W ax_LM gX3_levelsNow (d + 4) 0 [(0, (2, 3, 0))] [] M _
  unfold f_X3_levelsNow at hX ⊢
  refine ax_lump ax_layM ok_kX3 [(0, .aload_n 0, 1, 0, 0, 0), (1, .aload_n 0, 1, 0, 0, 0), (2, .getfield 138, 3, 3, 14, 0)] (pc' := 5) (lc' := [(0, (2, 3, 0))]) (st' := [(3, 274, 7), (2, 3, 0)]) (M' := M) (C' := True) (by decide +kernel) rfl trivial ?_
  refine ax_cVm_r hX (G1 := gX3_levelsOne) (d1 := d + 3) (i := 315) (n := 1) (as := [(3, 274, 7)]) (st := []) (c := 3) (a := 0) (by decide +kernel) ax_cls3 calX3_levelsOne (by omega) rfl wt_1249 wt_1251 ws_97 (Nat.le_of_ble_eq_true rfl) rfl (fun hY => c_X3_levelsOne d 7 M hY) (fun y1 h_y1 hX => ?_)
  refine ax_lump ax_layM ok_kX3 [(8, .istore_n 1, 1, 0, 0, 0), (9, .iload_n 1, 1, 0, 0, 0)] (pc' := 10) (lc' := [(1, (0, 0, y1.1)), (0, (2, 3, 0))]) (st' := [(0, 0, y1.1)]) (M' := y1.2) (C' := True) (by decide +kernel) rfl trivial ?_
  refine ax_zge_s hX (off := 8) (tgt := 18) (by decide +kernel) (by decide) (fun h2 hX => ?_) (fun h2 hX => ?_)
  · refine ax_lump ax_layM ok_kX3 [(18, .iload_n 1, 1, 0, 0, 0)] (pc' := 19) (lc' := [(1, (0, 0, y1.1)), (0, (2, 3, 0))]) (st' := [(0, 0, y1.1)]) (M' := y1.2) (C' := True) (by decide +kernel) rfl trivial ?_
    exact ax_iret (by decide +kernel) rfl ⟨rfl, rfl, (show ((-2) : Int) ≤ y1.1 from by omega), (show y1.1 ≤ (15 : Int) from by omega)⟩
  · refine ax_lump ax_layM ok_kX3 [(13, .bipush (-2), 2, 0, 0, 0), (15, .goto 4, 3, 19, 0, 0)] (pc' := 19) (lc' := [(1, (0, 0, y1.1)), (0, (2, 3, 0))]) (st' := [(0, 0, (-2))]) (M' := y1.2) (C' := True) (by decide +kernel) rfl trivial ?_
    exact ax_iret (by decide +kernel) rfl ⟨rfl, rfl, (show ((-2) : Int) ≤ (-2) from by omega), (show (-2) ≤ (15 : Int) from by omega)⟩
def f_X3_coolsAll_B4  (i : Nat) (v1 : Int) (M : ax_M) (kc : Int → ax_M → Int × ax_M) (kx : Int → ax_M → Int × ax_M) : Int × ax_M := ax_bd (ax_up M 7 (240 + (i : Int)).toNat (ax_div (M 7 (240 + (i : Int)).toNat) 2)) (fun M1 => kc (v1 + (f_X3_flag (f_X3_isHot 7 (i : Int) M1) M1)) M1)
def f_X3_coolsAll_L4  : Nat → Nat → Int → ax_M → (Int → ax_M → Int × ax_M) → Int × ax_M
  | 0, i, v1, M, kx => kx v1 M
  | n + 1, i, v1, M, kx => f_X3_coolsAll_B4  i v1 M (fun u1 M9 => f_X3_coolsAll_L4  n (i + 1) u1 M9 kx) kx
set_option maxRecDepth 100000 in
set_option maxHeartbeats 4000000 in
theorem wb_X3_coolsAll_B4 (d : Nat)  (i : Nat) (v1 : Int) (M : ax_M) (kc : Int → ax_M → Int × ax_M) (kx : Int → ax_M → Int × ax_M)  (hi : 0 ≤ i ∧ i < 24) (hv1 : 0 ≤ v1 ∧ v1 ≤ 0 + 1 * ((i : Int) - 0)) (hkc : ∀ (u1 : Int) (M9 : ax_M), 0 ≤ u1 ∧ u1 ≤ 0 + 1 * (((i : Int) + 1) - 0) → ax_W ax_LM gX3_coolsAll (d + 1) 4 [(0, (2, 3, 0)), (1, (0, 0, u1)), (2, (0, 0, ((i : Int) + 1)))] [] M9 ((ax_qm 0 24) (kc u1 M9))) (hkx : ∀ (x1 : Int) (M9 : ax_M), ((0 ≤ x1 ∧ x1 ≤ 24)) → ax_W ax_LM gX3_coolsAll (d + 1) 44 [(1, (0, 0, x1))] [] M9 ((ax_qm 0 24) (kx x1 M9))) : ax_W ax_LM gX3_coolsAll (d + 1) 10 [(0, (2, 3, 0)), (1, (0, 0, v1)), (2, (0, 0, (i : Int)))] [] M ((ax_qm 0 24) (f_X3_coolsAll_B4  i v1 M kc kx)) := by
  unfold f_X3_coolsAll_B4
  refine ax_lump ax_layM ok_kX3 [(10, .aload_n 0, 1, 0, 0, 0), (11, .getfield 138, 3, 3, 14, 0), (14, .sipush 240, 3, 0, 0, 0), (17, .iload_n 2, 1, 0, 0, 0), (18, .iadd, 1, 1, 0, 0), (19, .dup2, 1, 0, 0, 0), (20, .iaload, 1, 0, 0, 0), (21, .iconst 2, 1, 0, 0, 0), (22, .idiv, 1, 0, 0, 0), (23, .iastore, 1, 0, 0, 0)] (pc' := 24) (lc' := [(0, (2, 3, 0)), (1, (0, 0, v1)), (2, (0, 0, (i : Int)))]) (st' := []) (M' := (ax_up M 7 (240 + (i : Int)).toNat (ax_div (M 7 (240 + (i : Int)).toNat) 2))) (C' := ((((True ∧ ax_r32 (240 + (i : Int))) ∧ (0 ≤ (240 + (i : Int)) ∧ (240 + (i : Int)) < ((274 : Nat) : Int))) ∧ 2 ≠ 0) ∧ (0 ≤ (240 + (i : Int)) ∧ (240 + (i : Int)) < ((274 : Nat) : Int)))) (by decide +kernel) rfl ⟨⟨⟨⟨trivial, ⟨by omega, by omega⟩⟩, by omega⟩, by omega⟩, by omega⟩ ?_
  refine ax_bdMe (fun M1 hM_M1 => ?_)
  refine ax_lump ax_layM ok_kX3 [(24, .iload_n 1, 1, 0, 0, 0), (25, .aload_n 0, 1, 0, 0, 0), (26, .getfield 138, 3, 3, 14, 0), (29, .iload_n 2, 1, 0, 0, 0)] (pc' := 30) (lc' := [(0, (2, 3, 0)), (1, (0, 0, v1)), (2, (0, 0, (i : Int)))]) (st' := [(0, 0, (i : Int)), (3, 274, 7), (0, 0, v1)]) (M' := M1) (C' := True) (by decide +kernel) rfl trivial ?_
  refine ax_cSi (G1 := gX3_isHot) (d1 := d + 0) (i := 282) (n := 2) (as := [(3, 274, 7), (0, 0, (i : Int))]) (st := [(0, 0, v1)]) (by decide +kernel) calX3_isHot (by omega) rfl wt_1206 wt_1207 (Nat.le_of_ble_eq_true rfl) rfl (c_X3_isHot d 7 (i : Int) M1 (by omega)) (fun hc2 => ?_)
  refine ax_cSi (G1 := gX3_flag) (d1 := d + 0) (i := 44) (n := 1) (as := [(0, 0, (f_X3_isHot 7 (i : Int) M1))]) (st := [(0, 0, v1)]) (by decide +kernel) calX3_flag (by omega) rfl wt_904 wt_905 (Nat.le_of_ble_eq_true rfl) rfl (c_X3_flag d (f_X3_isHot 7 (i : Int) M1) M1 (by omega)) (fun hc3 => ?_)
  refine ax_lump ax_layM ok_kX3 [(36, .iadd, 1, 1, 0, 0), (37, .istore_n 1, 1, 0, 0, 0), (38, .iinc 2 1, 3, 1, 0, 0), (41, .goto (-37), 3, 4, 0, 0)] (pc' := 4) (lc' := [(2, (0, 0, ((i : Int) + 1))), (1, (0, 0, (v1 + (f_X3_flag (f_X3_isHot 7 (i : Int) M1) M1)))), (0, (2, 3, 0))]) (st' := []) (M' := M1) (C' := ((True ∧ ax_r32 (v1 + (f_X3_flag (f_X3_isHot 7 (i : Int) M1) M1))) ∧ ax_r32 ((i : Int) + 1))) (by decide +kernel) rfl ⟨⟨trivial, ⟨by omega, by omega⟩⟩, ⟨by omega, by omega⟩⟩ ?_
  refine ax_pk [2,1,0] (lc' := [(0, (2, 3, 0)), (1, (0, 0, (v1 + (f_X3_flag (f_X3_isHot 7 (i : Int) M1) M1)))), (2, (0, 0, ((i : Int) + 1)))]) rfl ?_
  exact hkc (v1 + (f_X3_flag (f_X3_isHot 7 (i : Int) M1) M1)) M1 (by omega)
set_option maxRecDepth 100000 in
set_option maxHeartbeats 4000000 in
theorem w_X3_coolsAll_L4 (d : Nat)  (kx : Int → ax_M → Int × ax_M)  (hkx : ∀ (x1 : Int) (M9 : ax_M), ((0 ≤ x1 ∧ x1 ≤ 24)) → ax_W ax_LM gX3_coolsAll (d + 1) 44 [(1, (0, 0, x1))] [] M9 ((ax_qm 0 24) (kx x1 M9))) : ∀ (n : Nat) (i : Nat) (v1 : Int) (M : ax_M), 0 ≤ i ∧ i + n = 24 → 0 ≤ v1 ∧ v1 ≤ 0 + 1 * ((i : Int) - 0) → ax_W ax_LM gX3_coolsAll (d + 1) 4 [(0, (2, 3, 0)), (1, (0, 0, v1)), (2, (0, 0, (i : Int)))] [] M ((ax_qm 0 24) (f_X3_coolsAll_L4  n i v1 M kx)) := by
  intro n
  induction n with
  | zero =>
    intro i v1 M hin hv1
    refine ax_lump ax_layM ok_kX3 [(4, .iload_n 2, 1, 0, 0, 0), (5, .bipush 24, 2, 0, 0, 0)] (pc' := 7) (lc' := [(0, (2, 3, 0)), (1, (0, 0, v1)), (2, (0, 0, (i : Int)))]) (st' := [(0, 0, 24), (0, 0, (i : Int))]) (M' := M) (C' := True) (by decide +kernel) rfl trivial ?_
    refine ax_icmp_ge (off := 37) (tgt := 44) (by decide +kernel) (by decide) (fun h => ?_) (fun h => ?_)
    · refine ax_pk [1] (lc' := [(1, (0, 0, v1))]) rfl ?_
      exact hkx v1 M (by omega)
    · exfalso; omega
  | succ n ih =>
    intro i v1 M hin hv1
    refine ax_lump ax_layM ok_kX3 [(4, .iload_n 2, 1, 0, 0, 0), (5, .bipush 24, 2, 0, 0, 0)] (pc' := 7) (lc' := [(0, (2, 3, 0)), (1, (0, 0, v1)), (2, (0, 0, (i : Int)))]) (st' := [(0, 0, 24), (0, 0, (i : Int))]) (M' := M) (C' := True) (by decide +kernel) rfl trivial ?_
    refine ax_icmp_ge (off := 37) (tgt := 44) (by decide +kernel) (by decide) (fun h => ?_) (fun h => ?_)
    · exfalso; omega
    · exact wb_X3_coolsAll_B4 d  i v1 M _ kx  (by omega) hv1 (fun u1 M9 hu1 => ih (i + 1) u1 M9 (by omega) (by omega)) hkx
def f_X3_coolsAll  (M : ax_M) : Int × ax_M := f_X3_coolsAll_L4  24 0 0 M (fun z4 M5 => (z4, M5))
set_option maxRecDepth 100000 in
set_option maxHeartbeats 4000000 in
theorem c_X3_coolsAll (d : Nat)  (M : ax_M)  : ax_Met ax_LM gX3_coolsAll (d + 1) [(2, 3, 0)] M ((ax_qm 0 24) (f_X3_coolsAll  M)) := by
  refine ax_body (by decide) (fun X => Nat.le_of_ble_eq_true rfl) (fun hok => ?_)
  show ax_W ax_LM gX3_coolsAll (d + 1) 0 [(0, (2, 3, 0))] [] M _
  unfold f_X3_coolsAll
  refine ax_lump ax_layM ok_kX3 [(0, .iconst 0, 1, 0, 0, 0), (1, .istore_n 1, 1, 0, 0, 0), (2, .iconst 0, 1, 0, 0, 0), (3, .istore_n 2, 1, 0, 0, 0)] (pc' := 4) (lc' := [(2, (0, 0, 0)), (1, (0, 0, 0)), (0, (2, 3, 0))]) (st' := []) (M' := M) (C' := True) (by decide +kernel) rfl trivial ?_
  refine ax_pk [2,1,0] (lc' := [(0, (2, 3, 0)), (1, (0, 0, 0)), (2, (0, 0, 0))]) rfl ?_
  refine w_X3_coolsAll_L4 d  _  (fun z4 M5 hx_5 => ?_) 24 0 0 M (by omega) (by omega)
  refine ax_lump ax_layM ok_kX3 [(44, .iload_n 1, 1, 0, 0, 0)] (pc' := 45) (lc' := [(1, (0, 0, z4))]) (st' := [(0, 0, z4)]) (M' := M5) (C' := True) (by decide +kernel) rfl trivial ?_
  exact ax_iret (by decide +kernel) rfl ⟨rfl, rfl, (show (0 : Int) ≤ z4 from by omega), (show z4 ≤ (24 : Int) from by omega)⟩
def f_X3_setsOne_J52 (j1 : Int) (j2 : Int) (s0 : Int) (s1 : Int) (s2 : Int) (M : ax_M) : Int × ax_M := (if (f_X3_in s2 s1 s0 M) ≠ 0 then ax_bd (M 7 (271 + j1).toNat) (fun y9 => (if y9 ≠ j2 then (if 2 ≤ j1 then ax_bd (ax_up M 7 (271 + j1).toNat j2) (fun M12 => ((ax_wr (10 + y9)), M12)) else (if (f_X3_kindMany 7 (3 + j1) M) ≤ j2 then ax_bd (ax_up M 7 (271 + j1).toNat j2) (fun M15 => ((ax_wr (10 + y9)), M15)) else ((-3), M))) else ((-2), M))) else ((-1), M))
set_option maxRecDepth 100000 in
set_option maxHeartbeats 4000000 in
theorem w_X3_setsOne_J52 (d : Nat) (j1 : Int) (j2 : Int) (s0 : Int) (s1 : Int) (s2 : Int) (M : ax_M) (hw_j1 : 0 ≤ j1 ∧ j1 ≤ 2) : ax_W ax_LM gX3_setsOne (d + 2) 52 [(0, (2, 3, 0)), (1, (0, 0, j1)), (2, (0, 0, j2))] [(1, 0, s0), (1, 0, s1), (1, 0, s2)] M ((ax_qm (-2147483648) 2147483647) (f_X3_setsOne_J52 j1 j2 s0 s1 s2 M)) := by
  unfold f_X3_setsOne_J52
  refine ax_cSi (G1 := gX3_in) (d1 := d + 0) (i := 25) (n := 3) (as := [(1, 0, s2), (1, 0, s1), (1, 0, s0)]) (st := []) (by decide +kernel) calX3_in (by omega) rfl wt_875 wt_876 (Nat.le_of_ble_eq_true rfl) rfl (c_X3_in d s2 s1 s0 M) (fun hc7 => ?_)
  refine ax_zne (off := 5) (tgt := 60) (by decide +kernel) (by decide) (fun h8 => ?_) (fun h8 => ?_)
  · have hgh8 := g_X3_in h8
    refine ax_lump ax_layM ok_kX3 [(60, .aload_n 0, 1, 0, 0, 0), (61, .getfield 138, 3, 3, 14, 0), (64, .sipush 271, 3, 0, 0, 0), (67, .iload_n 1, 1, 0, 0, 0), (68, .iadd, 1, 1, 0, 0), (69, .iaload, 1, 0, 0, 0), (70, .istore_n 3, 1, 0, 0, 0)] (pc' := 71) (lc' := [(3, (0, 0, (M 7 (271 + j1).toNat))), (0, (2, 3, 0)), (1, (0, 0, j1)), (2, (0, 0, j2))]) (st' := []) (M' := M) (C' := ((True ∧ ax_r32 (271 + j1)) ∧ (0 ≤ (271 + j1) ∧ (271 + j1) < ((274 : Nat) : Int)))) (by decide +kernel) rfl ⟨⟨trivial, ⟨by omega, by omega⟩⟩, by omega⟩ ?_
    refine ax_bdI0 (e := (M 7 (271 + j1).toNat)) (fun y9 => [(3, (0, 0, y9)), (0, (2, 3, 0)), (1, (0, 0, j1)), (2, (0, 0, j2))]) (fun y9 => []) (fun y9 => ?_)
    refine ax_lump ax_layM ok_kX3 [(71, .iload_n 3, 1, 0, 0, 0), (72, .iload_n 2, 1, 0, 0, 0)] (pc' := 73) (lc' := [(3, (0, 0, y9)), (0, (2, 3, 0)), (1, (0, 0, j1)), (2, (0, 0, j2))]) (st' := [(0, 0, j2), (0, 0, y9)]) (M' := M) (C' := True) (by decide +kernel) rfl trivial ?_
    refine ax_jne (off := 6) (tgt := 79) (by decide +kernel) (by decide) (fun h10 => ?_) (fun h10 => ?_)
    · refine ax_lump ax_layM ok_kX3 [(79, .iload_n 1, 1, 0, 0, 0), (80, .iconst 2, 1, 0, 0, 0)] (pc' := 81) (lc' := [(3, (0, 0, y9)), (0, (2, 3, 0)), (1, (0, 0, j1)), (2, (0, 0, j2))]) (st' := [(0, 0, 2), (0, 0, j1)]) (M' := M) (C' := True) (by decide +kernel) rfl trivial ?_
      refine ax_jge (off := 20) (tgt := 101) (by decide +kernel) (by decide) (fun h11 => ?_) (fun h11 => ?_)
      · refine ax_lump ax_layM ok_kX3 [(101, .aload_n 0, 1, 0, 0, 0), (102, .getfield 138, 3, 3, 14, 0), (105, .sipush 271, 3, 0, 0, 0), (108, .iload_n 1, 1, 0, 0, 0), (109, .iadd, 1, 1, 0, 0), (110, .iload_n 2, 1, 0, 0, 0), (111, .iastore, 1, 0, 0, 0)] (pc' := 112) (lc' := [(3, (0, 0, y9)), (0, (2, 3, 0)), (1, (0, 0, j1)), (2, (0, 0, j2))]) (st' := []) (M' := (ax_up M 7 (271 + j1).toNat j2)) (C' := ((True ∧ ax_r32 (271 + j1)) ∧ (0 ≤ (271 + j1) ∧ (271 + j1) < ((274 : Nat) : Int)))) (by decide +kernel) rfl ⟨⟨trivial, ⟨by omega, by omega⟩⟩, by omega⟩ ?_
        refine ax_bdMe (fun M12 hM_M12 => ?_)
        refine ax_lump ax_layM ok_kX3 [(112, .bipush 10, 2, 0, 0, 0), (114, .iload_n 3, 1, 0, 0, 0), (115, .iadd, 1, 0, 0, 0)] (pc' := 116) (lc' := [(3, (0, 0, y9)), (0, (2, 3, 0)), (1, (0, 0, j1)), (2, (0, 0, j2))]) (st' := [(0, 0, (ax_wr (10 + y9)))]) (M' := M12) (C' := True) (by decide +kernel) rfl trivial ?_
        refine ax_rngS (fun hr => ?_)
        exact ax_iret (by decide +kernel) rfl ⟨rfl, rfl, hr.1, hr.2⟩
      · refine ax_lump ax_layM ok_kX3 [(84, .aload_n 0, 1, 0, 0, 0), (85, .getfield 138, 3, 3, 14, 0), (88, .iconst 3, 1, 0, 0, 0), (89, .iload_n 1, 1, 0, 0, 0), (90, .iadd, 1, 1, 0, 0)] (pc' := 91) (lc' := [(3, (0, 0, y9)), (0, (2, 3, 0)), (1, (0, 0, j1)), (2, (0, 0, j2))]) (st' := [(0, 0, (3 + j1)), (3, 274, 7)]) (M' := M) (C' := (True ∧ ax_r32 (3 + j1))) (by decide +kernel) rfl ⟨trivial, ⟨by omega, by omega⟩⟩ ?_
        refine ax_cSi (G1 := gX3_kindMany) (d1 := d + 1) (i := 273) (n := 2) (as := [(3, 274, 7), (0, 0, (3 + j1))]) (st := []) (by decide +kernel) calX3_kindMany (by omega) rfl wt_1209 wt_1210 (Nat.le_of_ble_eq_true rfl) rfl (c_X3_kindMany d 7 (3 + j1) M) (fun hc13 => ?_)
        refine ax_lump ax_layM ok_kX3 [(94, .iload_n 2, 1, 0, 0, 0)] (pc' := 95) (lc' := [(3, (0, 0, y9)), (0, (2, 3, 0)), (1, (0, 0, j1)), (2, (0, 0, j2))]) (st' := [(0, 0, j2), (0, 0, (f_X3_kindMany 7 (3 + j1) M))]) (M' := M) (C' := True) (by decide +kernel) rfl trivial ?_
        refine ax_jle (off := 6) (tgt := 101) (by decide +kernel) (by decide) (fun h14 => ?_) (fun h14 => ?_)
        · refine ax_lump ax_layM ok_kX3 [(101, .aload_n 0, 1, 0, 0, 0), (102, .getfield 138, 3, 3, 14, 0), (105, .sipush 271, 3, 0, 0, 0), (108, .iload_n 1, 1, 0, 0, 0), (109, .iadd, 1, 1, 0, 0), (110, .iload_n 2, 1, 0, 0, 0), (111, .iastore, 1, 0, 0, 0)] (pc' := 112) (lc' := [(3, (0, 0, y9)), (0, (2, 3, 0)), (1, (0, 0, j1)), (2, (0, 0, j2))]) (st' := []) (M' := (ax_up M 7 (271 + j1).toNat j2)) (C' := ((True ∧ ax_r32 (271 + j1)) ∧ (0 ≤ (271 + j1) ∧ (271 + j1) < ((274 : Nat) : Int)))) (by decide +kernel) rfl ⟨⟨trivial, ⟨by omega, by omega⟩⟩, by omega⟩ ?_
          refine ax_bdMe (fun M15 hM_M15 => ?_)
          refine ax_lump ax_layM ok_kX3 [(112, .bipush 10, 2, 0, 0, 0), (114, .iload_n 3, 1, 0, 0, 0), (115, .iadd, 1, 0, 0, 0)] (pc' := 116) (lc' := [(3, (0, 0, y9)), (0, (2, 3, 0)), (1, (0, 0, j1)), (2, (0, 0, j2))]) (st' := [(0, 0, (ax_wr (10 + y9)))]) (M' := M15) (C' := True) (by decide +kernel) rfl trivial ?_
          refine ax_rngS (fun hr => ?_)
          exact ax_iret (by decide +kernel) rfl ⟨rfl, rfl, hr.1, hr.2⟩
        · refine ax_lump ax_layM ok_kX3 [(98, .bipush (-3), 2, 0, 0, 0)] (pc' := 100) (lc' := [(3, (0, 0, y9)), (0, (2, 3, 0)), (1, (0, 0, j1)), (2, (0, 0, j2))]) (st' := [(0, 0, (-3))]) (M' := M) (C' := True) (by decide +kernel) rfl trivial ?_
          refine ax_rngS (fun hr => ?_)
          exact ax_iret (by decide +kernel) rfl ⟨rfl, rfl, hr.1, hr.2⟩
    · refine ax_lump ax_layM ok_kX3 [(76, .bipush (-2), 2, 0, 0, 0)] (pc' := 78) (lc' := [(3, (0, 0, y9)), (0, (2, 3, 0)), (1, (0, 0, j1)), (2, (0, 0, j2))]) (st' := [(0, 0, (-2))]) (M' := M) (C' := True) (by decide +kernel) rfl trivial ?_
      refine ax_rngS (fun hr => ?_)
      exact ax_iret (by decide +kernel) rfl ⟨rfl, rfl, hr.1, hr.2⟩
  · refine ax_lump ax_layM ok_kX3 [(58, .iconst (-1), 1, 0, 0, 0)] (pc' := 59) (lc' := [(0, (2, 3, 0)), (1, (0, 0, j1)), (2, (0, 0, j2))]) (st' := [(0, 0, (-1))]) (M' := M) (C' := True) (by decide +kernel) rfl trivial ?_
    refine ax_rngS (fun hr => ?_)
    exact ax_iret (by decide +kernel) rfl ⟨rfl, rfl, hr.1, hr.2⟩
def f_X3_setsOne_J24 (j1 : Int) (j2 : Int) (s0 : Int) (s1 : Int) (M : ax_M) : Int × ax_M := (if j1 ≠ 0 then (if j1 ≠ 1 then f_X3_setsOne_J52 j1 j2 9 (f_X3_flag s0 M) s1 M else f_X3_setsOne_J52 j1 j2 2 (f_X3_flag s0 M) s1 M) else f_X3_setsOne_J52 j1 j2 3 (f_X3_flag s0 M) s1 M)
set_option maxRecDepth 100000 in
set_option maxHeartbeats 4000000 in
theorem w_X3_setsOne_J24 (d : Nat) (j1 : Int) (j2 : Int) (s0 : Int) (s1 : Int) (M : ax_M) (hw_j1 : 0 ≤ j1 ∧ j1 ≤ 2) (hw_s0 : 0 ≤ s0 ∧ s0 ≤ 1) : ax_W ax_LM gX3_setsOne (d + 2) 24 [(0, (2, 3, 0)), (1, (0, 0, j1)), (2, (0, 0, j2))] [(0, 0, s0), (1, 0, s1)] M ((ax_qm (-2147483648) 2147483647) (f_X3_setsOne_J24 j1 j2 s0 s1 M)) := by
  unfold f_X3_setsOne_J24
  refine ax_cSi (G1 := gX3_flag) (d1 := d + 0) (i := 44) (n := 1) (as := [(0, 0, s0)]) (st := [(1, 0, s1)]) (by decide +kernel) calX3_flag (by omega) rfl wt_904 wt_905 (Nat.le_of_ble_eq_true rfl) rfl (c_X3_flag d s0 M (by omega)) (fun hc4 => ?_)
  refine ax_lump ax_layM ok_kX3 [(27, .i2l, 1, 0, 0, 0), (28, .iload_n 1, 1, 0, 0, 0)] (pc' := 29) (lc' := [(0, (2, 3, 0)), (1, (0, 0, j1)), (2, (0, 0, j2))]) (st' := [(0, 0, j1), (1, 0, (f_X3_flag s0 M)), (1, 0, s1)]) (M' := M) (C' := True) (by decide +kernel) rfl trivial ?_
  refine ax_zne (off := 9) (tgt := 38) (by decide +kernel) (by decide) (fun h5 => ?_) (fun h5 => ?_)
  · refine ax_lump ax_layM ok_kX3 [(38, .iload_n 1, 1, 0, 0, 0), (39, .iconst 1, 1, 0, 0, 0)] (pc' := 40) (lc' := [(0, (2, 3, 0)), (1, (0, 0, j1)), (2, (0, 0, j2))]) (st' := [(0, 0, 1), (0, 0, j1), (1, 0, (f_X3_flag s0 M)), (1, 0, s1)]) (M' := M) (C' := True) (by decide +kernel) rfl trivial ?_
    refine ax_jne (off := 9) (tgt := 49) (by decide +kernel) (by decide) (fun h6 => ?_) (fun h6 => ?_)
    · refine ax_lump ax_layM ok_kX3 [(49, .ldc2_w 375, 3, 0, 0, 9)] (pc' := 52) (lc' := [(0, (2, 3, 0)), (1, (0, 0, j1)), (2, (0, 0, j2))]) (st' := [(1, 0, 9), (1, 0, (f_X3_flag s0 M)), (1, 0, s1)]) (M' := M) (C' := True) (by decide +kernel) rfl trivial ?_
      exact w_X3_setsOne_J52 d j1 j2 9 (f_X3_flag s0 M) s1 M (by omega)
    · refine ax_lump ax_layM ok_kX3 [(43, .ldc2_w 331, 3, 0, 0, 2), (46, .goto 6, 3, 52, 0, 0)] (pc' := 52) (lc' := [(0, (2, 3, 0)), (1, (0, 0, j1)), (2, (0, 0, j2))]) (st' := [(1, 0, 2), (1, 0, (f_X3_flag s0 M)), (1, 0, s1)]) (M' := M) (C' := True) (by decide +kernel) rfl trivial ?_
      exact w_X3_setsOne_J52 d j1 j2 2 (f_X3_flag s0 M) s1 M (by omega)
  · refine ax_lump ax_layM ok_kX3 [(32, .ldc2_w 329, 3, 0, 0, 3), (35, .goto 17, 3, 52, 0, 0)] (pc' := 52) (lc' := [(0, (2, 3, 0)), (1, (0, 0, j1)), (2, (0, 0, j2))]) (st' := [(1, 0, 3), (1, 0, (f_X3_flag s0 M)), (1, 0, s1)]) (M' := M) (C' := True) (by decide +kernel) rfl trivial ?_
    exact w_X3_setsOne_J52 d j1 j2 3 (f_X3_flag s0 M) s1 M (by omega)
def f_X3_setsOne (x1 : Int) (x2 : Int) (M : ax_M) : Int × ax_M := (if (f_X3_in x1 0 2 M) = 0 then ((-1), M) else (if x1 = 1 then f_X3_setsOne_J24 x1 x2 0 x2 M else f_X3_setsOne_J24 x1 x2 1 x2 M))
set_option maxRecDepth 100000 in
set_option maxHeartbeats 4000000 in
theorem c_X3_setsOne (d : Nat) (x1 : Int) (x2 : Int) (M : ax_M)  : ax_Met ax_LM gX3_setsOne (d + 2) [(2, 3, 0), (0, 0, x1), (0, 0, x2)] M ((ax_qm (-2147483648) 2147483647) (f_X3_setsOne x1 x2 M)) := by
  refine ax_body (by decide) (fun X => Nat.le_of_ble_eq_true rfl) (fun hok => ?_)
  have hr_x1 : (-2147483648) ≤ x1 ∧ x1 ≤ 2147483647 := hok (0, 0, x1) (by simp)
  have hr_x2 : (-2147483648) ≤ x2 ∧ x2 ≤ 2147483647 := hok (0, 0, x2) (by simp)
  show ax_W ax_LM gX3_setsOne (d + 2) 0 [(0, (2, 3, 0)), (1, (0, 0, x1)), (2, (0, 0, x2))] [] M _
  unfold f_X3_setsOne
  refine ax_lump ax_layM ok_kX3 [(0, .iload_n 1, 1, 0, 0, 0), (1, .i2l, 1, 0, 0, 0), (2, .lconst 0, 1, 0, 0, 0), (3, .ldc2_w 331, 3, 0, 0, 2)] (pc' := 6) (lc' := [(0, (2, 3, 0)), (1, (0, 0, x1)), (2, (0, 0, x2))]) (st' := [(1, 0, 2), (1, 0, 0), (1, 0, x1)]) (M' := M) (C' := True) (by decide +kernel) rfl trivial ?_
  refine ax_cSi (G1 := gX3_in) (d1 := d + 0) (i := 25) (n := 3) (as := [(1, 0, x1), (1, 0, 0), (1, 0, 2)]) (st := []) (by decide +kernel) calX3_in (by omega) rfl wt_875 wt_876 (Nat.le_of_ble_eq_true rfl) rfl (c_X3_in d x1 0 2 M) (fun hc1 => ?_)
  refine ax_zeq (off := 49) (tgt := 58) (by decide +kernel) (by decide) (fun h2 => ?_) (fun h2 => ?_)
  · refine ax_lump ax_layM ok_kX3 [(58, .iconst (-1), 1, 0, 0, 0)] (pc' := 59) (lc' := [(0, (2, 3, 0)), (1, (0, 0, x1)), (2, (0, 0, x2))]) (st' := [(0, 0, (-1))]) (M' := M) (C' := True) (by decide +kernel) rfl trivial ?_
    refine ax_rngS (fun hr => ?_)
    exact ax_iret (by decide +kernel) rfl ⟨rfl, rfl, hr.1, hr.2⟩
  · have hgh2 := g_X3_in h2
    refine ax_lump ax_layM ok_kX3 [(12, .iload_n 2, 1, 0, 0, 0), (13, .i2l, 1, 0, 0, 0), (14, .iload_n 1, 1, 0, 0, 0), (15, .iconst 1, 1, 0, 0, 0)] (pc' := 16) (lc' := [(0, (2, 3, 0)), (1, (0, 0, x1)), (2, (0, 0, x2))]) (st' := [(0, 0, 1), (0, 0, x1), (1, 0, x2)]) (M' := M) (C' := True) (by decide +kernel) rfl trivial ?_
    refine ax_jeq (off := 7) (tgt := 23) (by decide +kernel) (by decide) (fun h3 => ?_) (fun h3 => ?_)
    · refine ax_lump ax_layM ok_kX3 [(23, .iconst 0, 1, 0, 0, 0)] (pc' := 24) (lc' := [(0, (2, 3, 0)), (1, (0, 0, x1)), (2, (0, 0, x2))]) (st' := [(0, 0, 0), (1, 0, x2)]) (M' := M) (C' := True) (by decide +kernel) rfl trivial ?_
      exact w_X3_setsOne_J24 d x1 x2 0 x2 M (by omega) (by omega)
    · refine ax_lump ax_layM ok_kX3 [(19, .iconst 1, 1, 0, 0, 0), (20, .goto 4, 3, 24, 0, 0)] (pc' := 24) (lc' := [(0, (2, 3, 0)), (1, (0, 0, x1)), (2, (0, 0, x2))]) (st' := [(0, 0, 1), (1, 0, x2)]) (M' := M) (C' := True) (by decide +kernel) rfl trivial ?_
      exact w_X3_setsOne_J24 d x1 x2 1 x2 M (by omega) (by omega)
def f_X3_told (x1 : Int) (M : ax_M) : Prop × Int × ax_M := (if 0 ≤ x1 then ax_bd (ax_up M 0 1 0) (fun M2 => ax_rc (f_X3_entersMore 7 M2) (fun M3 => ax_rc (f_X3_adds x1 M3) (fun y4 => (True, (y4.1, y4.2))))) else (True, (x1, M)))
set_option maxRecDepth 100000 in
set_option maxHeartbeats 4000000 in
theorem c_X3_told (d : Nat) (x1 : Int) (M : ax_M)  (hX : (f_X3_told x1 M).1) : ax_Met ax_LM gX3_told (d + 2) [(2, 3, 0), (0, 0, x1)] M ((ax_qm (-2147483648) 2147483647) (f_X3_told x1 M).2) := by
  refine ax_body (by decide) (fun X => Nat.le_of_ble_eq_true rfl) (fun hok => ?_)
  have hr_x1 : (-2147483648) ≤ x1 ∧ x1 ≤ 2147483647 := hok (0, 0, x1) (by simp)
  show ax_W ax_LM gX3_told (d + 2) 0 [(0, (2, 3, 0)), (1, (0, 0, x1))] [] M _
  unfold f_X3_told at hX ⊢
  refine ax_lump ax_layM ok_kX3 [(0, .iload_n 1, 1, 0, 0, 0)] (pc' := 1) (lc' := [(0, (2, 3, 0)), (1, (0, 0, x1))]) (st' := [(0, 0, x1)]) (M' := M) (C' := True) (by decide +kernel) rfl trivial ?_
  refine ax_zge_s hX (off := 5) (tgt := 6) (by decide +kernel) (by decide) (fun h1 hX => ?_) (fun h1 hX => ?_)
  · refine ax_lump ax_layM ok_kX3 [(6, .aload_n 0, 1, 0, 0, 0), (7, .iconst 0, 1, 0, 0, 0), (8, .putfield 15, 3, 3, 1, 0)] (pc' := 11) (lc' := [(0, (2, 3, 0)), (1, (0, 0, x1))]) (st' := []) (M' := (ax_up M 0 1 0)) (C' := (True ∧ (0 ≤ 0 ∧ 0 < ((25 : Nat) : Int)))) (by decide +kernel) rfl ⟨trivial, by omega⟩ ?_
    refine ax_bdMe_s hX (fun M2 hM_M2 hX => ?_)
    refine ax_lump ax_layM ok_kX3 [(11, .aload_n 0, 1, 0, 0, 0), (12, .aload_n 0, 1, 0, 0, 0), (13, .getfield 138, 3, 3, 14, 0)] (pc' := 16) (lc' := [(0, (2, 3, 0)), (1, (0, 0, x1))]) (st' := [(3, 274, 7), (2, 3, 0)]) (M' := M2) (C' := True) (by decide +kernel) rfl trivial ?_
    refine ax_cVv_r hX (G1 := gX3_entersMore) (d1 := d + 1) (i := 364) (n := 1) (as := [(3, 274, 7)]) (st := []) (c := 3) (a := 0) (by decide +kernel) ax_cls3 calX3_entersMore (by omega) rfl wt_1260 wt_1262 ws_99 (Nat.le_of_ble_eq_true rfl) rfl (fun hY => c_X3_entersMore d 7 M2 hY) (fun M3 hX => ?_)
    refine ax_lump ax_layM ok_kX3 [(19, .aload_n 0, 1, 0, 0, 0), (20, .iload_n 1, 1, 0, 0, 0)] (pc' := 21) (lc' := [(0, (2, 3, 0)), (1, (0, 0, x1))]) (st' := [(0, 0, x1), (2, 3, 0)]) (M' := M3) (C' := True) (by decide +kernel) rfl trivial ?_
    refine ax_cVm_r hX (G1 := gX3_adds) (d1 := d + 0) (i := 367) (n := 1) (as := [(0, 0, x1)]) (st := []) (c := 3) (a := 0) (by decide +kernel) ax_cls3 calX3_adds (by omega) rfl wt_1264 wt_1266 ws_100 (Nat.le_of_ble_eq_true rfl) rfl (fun hY => c_X3_adds d x1 M3 hY) (fun y4 h_y4 hX => ?_)
    refine ax_rngS (fun hr => ?_)
    exact ax_iret (by decide +kernel) rfl ⟨rfl, rfl, hr.1, hr.2⟩
  · refine ax_lump ax_layM ok_kX3 [(4, .iload_n 1, 1, 0, 0, 0)] (pc' := 5) (lc' := [(0, (2, 3, 0)), (1, (0, 0, x1))]) (st' := [(0, 0, x1)]) (M' := M) (C' := True) (by decide +kernel) rfl trivial ?_
    refine ax_rngS (fun hr => ?_)
    exact ax_iret (by decide +kernel) rfl ⟨rfl, rfl, hr.1, hr.2⟩
def f_X3_merges (x1 : Int) (M : ax_M) : Prop × Int × ax_M := ax_bd (ax_up M 0 0 0) (fun M1 => ax_rc (f_X3_putsBy M1) (fun M2 => ax_bd (f_X3_marks 7 M2) (fun M3 => ax_rc (f_X3_mergesOf x1 M3) (fun y4 => ax_rc (f_X3_told y4.1 y4.2) (fun y5 => (True, (y5.1, y5.2)))))))
set_option maxRecDepth 100000 in
set_option maxHeartbeats 4000000 in
theorem c_X3_merges (d : Nat) (x1 : Int) (M : ax_M)  (hX : (f_X3_merges x1 M).1) : ax_Met ax_LM gX3_merges (d + 6) [(2, 3, 0), (0, 0, x1)] M ((ax_qm (-2147483648) 2147483647) (f_X3_merges x1 M).2) := by
  refine ax_body (by decide) (fun X => Nat.le_of_ble_eq_true rfl) (fun hok => ?_)
  have hr_x1 : (-2147483648) ≤ x1 ∧ x1 ≤ 2147483647 := hok (0, 0, x1) (by simp)
  show ax_W ax_LM gX3_merges (d + 6) 0 [(0, (2, 3, 0)), (1, (0, 0, x1))] [] M _
  unfold f_X3_merges at hX ⊢
  refine ax_lump ax_layM ok_kX3 [(0, .aload_n 0, 1, 0, 0, 0), (1, .iconst 0, 1, 0, 0, 0), (2, .putfield 3, 3, 3, 0, 0)] (pc' := 5) (lc' := [(0, (2, 3, 0)), (1, (0, 0, x1))]) (st' := []) (M' := (ax_up M 0 0 0)) (C' := (True ∧ (0 ≤ 0 ∧ 0 < ((2 : Nat) : Int)))) (by decide +kernel) rfl ⟨trivial, by omega⟩ ?_
  refine ax_bdMe_s hX (fun M1 hM_M1 hX => ?_)
  refine ax_lump ax_layM ok_kX3 [(5, .aload_n 0, 1, 0, 0, 0)] (pc' := 6) (lc' := [(0, (2, 3, 0)), (1, (0, 0, x1))]) (st' := [(2, 3, 0)]) (M' := M1) (C' := True) (by decide +kernel) rfl trivial ?_
  refine ax_cVv_r hX (G1 := gX3_putsBy) (d1 := d + 0) (i := 354) (n := 0) (as := []) (st := []) (c := 3) (a := 0) (by decide +kernel) ax_cls3 calX3_putsBy (by omega) rfl wt_1136 wt_1138 ws_81 (Nat.le_of_ble_eq_true rfl) rfl (fun hY => c_X3_putsBy d  M1 hY) (fun M2 hX => ?_)
  refine ax_lump ax_layM ok_kX3 [(9, .aload_n 0, 1, 0, 0, 0), (10, .aload_n 0, 1, 0, 0, 0), (11, .getfield 138, 3, 3, 14, 0)] (pc' := 14) (lc' := [(0, (2, 3, 0)), (1, (0, 0, x1))]) (st' := [(3, 274, 7), (2, 3, 0)]) (M' := M2) (C' := True) (by decide +kernel) rfl trivial ?_
  refine ax_cVv_s hX (G1 := gX3_marks) (d1 := d + 0) (i := 357) (n := 1) (as := [(3, 274, 7)]) (st := []) (c := 3) (a := 0) (by decide +kernel) ax_cls3 calX3_marks (by omega) rfl wt_1140 wt_1142 ws_82 (Nat.le_of_ble_eq_true rfl) rfl (c_X3_marks d 7 M2) (fun M3 hX => ?_)
  refine ax_lump ax_layM ok_kX3 [(17, .aload_n 0, 1, 0, 0, 0), (18, .aload_n 0, 1, 0, 0, 0), (19, .iload_n 1, 1, 0, 0, 0)] (pc' := 20) (lc' := [(0, (2, 3, 0)), (1, (0, 0, x1))]) (st' := [(0, 0, x1), (2, 3, 0), (2, 3, 0)]) (M' := M3) (C' := True) (by decide +kernel) rfl trivial ?_
  refine ax_cVm_r hX (G1 := gX3_mergesOf) (d1 := d + 5) (i := 377) (n := 1) (as := [(0, 0, x1)]) (st := [(2, 3, 0)]) (c := 3) (a := 0) (by decide +kernel) ax_cls3 calX3_mergesOf (by omega) rfl wt_1276 wt_1278 ws_101 (Nat.le_of_ble_eq_true rfl) rfl (fun hY => c_X3_mergesOf d x1 M3 hY) (fun y4 h_y4 hX => ?_)
  refine ax_cVm_r hX (G1 := gX3_told) (d1 := d + 2) (i := 380) (n := 1) (as := [(0, 0, y4.1)]) (st := []) (c := 3) (a := 0) (by decide +kernel) ax_cls3 calX3_told (by omega) rfl wt_1284 wt_1286 ws_102 (Nat.le_of_ble_eq_true rfl) rfl (fun hY => c_X3_told d y4.1 y4.2 hY) (fun y5 h_y5 hX => ?_)
  refine ax_rngS (fun hr => ?_)
  exact ax_iret (by decide +kernel) rfl ⟨rfl, rfl, hr.1, hr.2⟩
def f_X3_seals  (M : ax_M) : Prop × Int × ax_M := ax_bd (ax_up M 0 0 0) (fun M1 => ax_rc (f_X3_putsBy M1) (fun M2 => ax_bd (f_X3_marks 7 M2) (fun M3 => ax_rc (f_X3_sealsNow M3) (fun y4 => ax_rc (f_X3_told y4.1 y4.2) (fun y5 => (True, (y5.1, y5.2)))))))
set_option maxRecDepth 100000 in
set_option maxHeartbeats 4000000 in
theorem c_X3_seals (d : Nat)  (M : ax_M)  (hX : (f_X3_seals  M).1) : ax_Met ax_LM gX3_seals (d + 7) [(2, 3, 0)] M ((ax_qm (-2147483648) 2147483647) (f_X3_seals  M).2) := by
  refine ax_body (by decide) (fun X => Nat.le_of_ble_eq_true rfl) (fun hok => ?_)
  show ax_W ax_LM gX3_seals (d + 7) 0 [(0, (2, 3, 0))] [] M _
  unfold f_X3_seals at hX ⊢
  refine ax_lump ax_layM ok_kX3 [(0, .aload_n 0, 1, 0, 0, 0), (1, .iconst 0, 1, 0, 0, 0), (2, .putfield 3, 3, 3, 0, 0)] (pc' := 5) (lc' := [(0, (2, 3, 0))]) (st' := []) (M' := (ax_up M 0 0 0)) (C' := (True ∧ (0 ≤ 0 ∧ 0 < ((2 : Nat) : Int)))) (by decide +kernel) rfl ⟨trivial, by omega⟩ ?_
  refine ax_bdMe_s hX (fun M1 hM_M1 hX => ?_)
  refine ax_lump ax_layM ok_kX3 [(5, .aload_n 0, 1, 0, 0, 0)] (pc' := 6) (lc' := [(0, (2, 3, 0))]) (st' := [(2, 3, 0)]) (M' := M1) (C' := True) (by decide +kernel) rfl trivial ?_
  refine ax_cVv_r hX (G1 := gX3_putsBy) (d1 := d + 0) (i := 354) (n := 0) (as := []) (st := []) (c := 3) (a := 0) (by decide +kernel) ax_cls3 calX3_putsBy (by omega) rfl wt_1136 wt_1138 ws_81 (Nat.le_of_ble_eq_true rfl) rfl (fun hY => c_X3_putsBy d  M1 hY) (fun M2 hX => ?_)
  refine ax_lump ax_layM ok_kX3 [(9, .aload_n 0, 1, 0, 0, 0), (10, .aload_n 0, 1, 0, 0, 0), (11, .getfield 138, 3, 3, 14, 0)] (pc' := 14) (lc' := [(0, (2, 3, 0))]) (st' := [(3, 274, 7), (2, 3, 0)]) (M' := M2) (C' := True) (by decide +kernel) rfl trivial ?_
  refine ax_cVv_s hX (G1 := gX3_marks) (d1 := d + 0) (i := 357) (n := 1) (as := [(3, 274, 7)]) (st := []) (c := 3) (a := 0) (by decide +kernel) ax_cls3 calX3_marks (by omega) rfl wt_1140 wt_1142 ws_82 (Nat.le_of_ble_eq_true rfl) rfl (c_X3_marks d 7 M2) (fun M3 hX => ?_)
  refine ax_lump ax_layM ok_kX3 [(17, .aload_n 0, 1, 0, 0, 0), (18, .aload_n 0, 1, 0, 0, 0)] (pc' := 19) (lc' := [(0, (2, 3, 0))]) (st' := [(2, 3, 0), (2, 3, 0)]) (M' := M3) (C' := True) (by decide +kernel) rfl trivial ?_
  refine ax_cVm_r hX (G1 := gX3_sealsNow) (d1 := d + 6) (i := 382) (n := 0) (as := []) (st := [(2, 3, 0)]) (c := 3) (a := 0) (by decide +kernel) ax_cls3 calX3_sealsNow (by omega) rfl wt_1292 wt_1294 ws_103 (Nat.le_of_ble_eq_true rfl) rfl (fun hY => c_X3_sealsNow d  M3 hY) (fun y4 h_y4 hX => ?_)
  refine ax_cVm_r hX (G1 := gX3_told) (d1 := d + 2) (i := 380) (n := 1) (as := [(0, 0, y4.1)]) (st := []) (c := 3) (a := 0) (by decide +kernel) ax_cls3 calX3_told (by omega) rfl wt_1284 wt_1286 ws_102 (Nat.le_of_ble_eq_true rfl) rfl (fun hY => c_X3_told d y4.1 y4.2 hY) (fun y5 h_y5 hX => ?_)
  refine ax_rngS (fun hr => ?_)
  exact ax_iret (by decide +kernel) rfl ⟨rfl, rfl, hr.1, hr.2⟩
def f_X3_clears (x1 : Int) (M : ax_M) : Prop × Int × ax_M := ax_bd (ax_up M 0 0 0) (fun M1 => ax_rc (f_X3_putsBy M1) (fun M2 => ax_bd (f_X3_marks 7 M2) (fun M3 => ax_rc (f_X3_clearsOf x1 M3) (fun y4 => ax_rc (f_X3_told y4.1 y4.2) (fun y5 => (True, (y5.1, y5.2)))))))
set_option maxRecDepth 100000 in
set_option maxHeartbeats 4000000 in
theorem c_X3_clears (d : Nat) (x1 : Int) (M : ax_M)  (hX : (f_X3_clears x1 M).1) : ax_Met ax_LM gX3_clears (d + 7) [(2, 3, 0), (0, 0, x1)] M ((ax_qm (-2147483648) 2147483647) (f_X3_clears x1 M).2) := by
  refine ax_body (by decide) (fun X => Nat.le_of_ble_eq_true rfl) (fun hok => ?_)
  have hr_x1 : (-2147483648) ≤ x1 ∧ x1 ≤ 2147483647 := hok (0, 0, x1) (by simp)
  show ax_W ax_LM gX3_clears (d + 7) 0 [(0, (2, 3, 0)), (1, (0, 0, x1))] [] M _
  unfold f_X3_clears at hX ⊢
  refine ax_lump ax_layM ok_kX3 [(0, .aload_n 0, 1, 0, 0, 0), (1, .iconst 0, 1, 0, 0, 0), (2, .putfield 3, 3, 3, 0, 0)] (pc' := 5) (lc' := [(0, (2, 3, 0)), (1, (0, 0, x1))]) (st' := []) (M' := (ax_up M 0 0 0)) (C' := (True ∧ (0 ≤ 0 ∧ 0 < ((2 : Nat) : Int)))) (by decide +kernel) rfl ⟨trivial, by omega⟩ ?_
  refine ax_bdMe_s hX (fun M1 hM_M1 hX => ?_)
  refine ax_lump ax_layM ok_kX3 [(5, .aload_n 0, 1, 0, 0, 0)] (pc' := 6) (lc' := [(0, (2, 3, 0)), (1, (0, 0, x1))]) (st' := [(2, 3, 0)]) (M' := M1) (C' := True) (by decide +kernel) rfl trivial ?_
  refine ax_cVv_r hX (G1 := gX3_putsBy) (d1 := d + 0) (i := 354) (n := 0) (as := []) (st := []) (c := 3) (a := 0) (by decide +kernel) ax_cls3 calX3_putsBy (by omega) rfl wt_1136 wt_1138 ws_81 (Nat.le_of_ble_eq_true rfl) rfl (fun hY => c_X3_putsBy d  M1 hY) (fun M2 hX => ?_)
  refine ax_lump ax_layM ok_kX3 [(9, .aload_n 0, 1, 0, 0, 0), (10, .aload_n 0, 1, 0, 0, 0), (11, .getfield 138, 3, 3, 14, 0)] (pc' := 14) (lc' := [(0, (2, 3, 0)), (1, (0, 0, x1))]) (st' := [(3, 274, 7), (2, 3, 0)]) (M' := M2) (C' := True) (by decide +kernel) rfl trivial ?_
  refine ax_cVv_s hX (G1 := gX3_marks) (d1 := d + 0) (i := 357) (n := 1) (as := [(3, 274, 7)]) (st := []) (c := 3) (a := 0) (by decide +kernel) ax_cls3 calX3_marks (by omega) rfl wt_1140 wt_1142 ws_82 (Nat.le_of_ble_eq_true rfl) rfl (c_X3_marks d 7 M2) (fun M3 hX => ?_)
  refine ax_lump ax_layM ok_kX3 [(17, .aload_n 0, 1, 0, 0, 0), (18, .aload_n 0, 1, 0, 0, 0), (19, .iload_n 1, 1, 0, 0, 0)] (pc' := 20) (lc' := [(0, (2, 3, 0)), (1, (0, 0, x1))]) (st' := [(0, 0, x1), (2, 3, 0), (2, 3, 0)]) (M' := M3) (C' := True) (by decide +kernel) rfl trivial ?_
  refine ax_cVm_r hX (G1 := gX3_clearsOf) (d1 := d + 6) (i := 385) (n := 1) (as := [(0, 0, x1)]) (st := [(2, 3, 0)]) (c := 3) (a := 0) (by decide +kernel) ax_cls3 calX3_clearsOf (by omega) rfl wt_1300 wt_1302 ws_104 (Nat.le_of_ble_eq_true rfl) rfl (fun hY => c_X3_clearsOf d x1 M3 hY) (fun y4 h_y4 hX => ?_)
  refine ax_cVm_r hX (G1 := gX3_told) (d1 := d + 2) (i := 380) (n := 1) (as := [(0, 0, y4.1)]) (st := []) (c := 3) (a := 0) (by decide +kernel) ax_cls3 calX3_told (by omega) rfl wt_1284 wt_1286 ws_102 (Nat.le_of_ble_eq_true rfl) rfl (fun hY => c_X3_told d y4.1 y4.2 hY) (fun y5 h_y5 hX => ?_)
  refine ax_rngS (fun hr => ?_)
  exact ax_iret (by decide +kernel) rfl ⟨rfl, rfl, hr.1, hr.2⟩
