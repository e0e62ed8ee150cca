def f_X3_sumOf_B5 (a0 : Nat) (M : ax_M) (i : Nat) (v1 : Int) (kc : Int → Int) (kx : Int → Int) : Int := (if (f_X3_isWritten a0 (i : Int) M) = 0 then ax_bd (ax_wr ((ax_wr (31 * v1)) + 0)) (fun y3 => kc y3) else ax_bd (ax_wr ((ax_wr (31 * v1)) + (ax_wr ((ax_wr ((ax_wr (100 * (f_X3_pageAt a0 (i : Int) M))) + 100)) + (M a0 (64 + (i : Int)).toNat))))) (fun y5 => kc y5))
def f_X3_sumOf_L5 (a0 : Nat) (M : ax_M) : Nat → Nat → Int → (Int → Int) → Int
  | 0, i, v1, kx => kx v1
  | n + 1, i, v1, kx => f_X3_sumOf_B5 a0 M i v1 (fun u1 => f_X3_sumOf_L5 a0 M n (i + 1) u1 kx) kx
set_option maxRecDepth 100000 in
set_option maxHeartbeats 4000000 in
theorem wb_X3_sumOf_B5 (d : Nat) (a0 : Nat) (M : ax_M) (i : Nat) (v1 : Int) (kc : Int → Int) (kx : Int → Int)  (hi : 0 ≤ i ∧ i < 64)  (hkc : ∀ (u1 : Int), ax_W ax_LM gX3_sumOf (d + 1) 5 [(0, (3, 274, (a0 : Int))), (1, (0, 0, u1)), (2, (0, 0, ((i : Int) + 1)))] [] M ((ax_qi (-2147483648) 2147483647 M) (kc u1))) (hkx : ∀ (x1 : Int), (True) → ax_W ax_LM gX3_sumOf (d + 1) 53 [(1, (0, 0, x1))] [] M ((ax_qi (-2147483648) 2147483647 M) (kx x1))) : ax_W ax_LM gX3_sumOf (d + 1) 11 [(0, (3, 274, (a0 : Int))), (1, (0, 0, v1)), (2, (0, 0, (i : Int)))] [] M ((ax_qi (-2147483648) 2147483647 M) (f_X3_sumOf_B5 a0 M i v1 kc kx)) := by
  unfold f_X3_sumOf_B5
  refine ax_lump ax_layM ok_kX3 [(11, .bipush 31, 2, 0, 0, 0), (13, .iload_n 1, 1, 0, 0, 0), (14, .imul, 1, 0, 0, 0), (15, .aload_n 0, 1, 0, 0, 0), (16, .iload_n 2, 1, 0, 0, 0)] (pc' := 17) (lc' := [(0, (3, 274, (a0 : Int))), (1, (0, 0, v1)), (2, (0, 0, (i : Int)))]) (st' := [(0, 0, (i : Int)), (3, 274, (a0 : Int)), (0, 0, (ax_wr (31 * v1)))]) (M' := M) (C' := True) (by decide +kernel) rfl trivial ?_
  refine ax_cSi (G1 := gX3_isWritten) (d1 := d + 0) (i := 195) (n := 2) (as := [(3, 274, (a0 : Int)), (0, 0, (i : Int))]) (st := [(0, 0, (ax_wr (31 * v1)))]) (by decide +kernel) calX3_isWritten (by omega) rfl wt_1098 wt_1099 (Nat.le_of_ble_eq_true rfl) rfl (c_X3_isWritten d a0 (i : Int) M (by omega)) (fun hc1 => ?_)
  refine ax_zeq (off := 24) (tgt := 44) (by decide +kernel) (by decide) (fun h2 => ?_) (fun h2 => ?_)
  · refine ax_lump ax_layM ok_kX3 [(44, .iconst 0, 1, 0, 0, 0), (45, .iadd, 1, 0, 0, 0), (46, .istore_n 1, 1, 0, 0, 0)] (pc' := 47) (lc' := [(1, (0, 0, (ax_wr ((ax_wr (31 * v1)) + 0)))), (0, (3, 274, (a0 : Int))), (2, (0, 0, (i : Int)))]) (st' := []) (M' := M) (C' := True) (by decide +kernel) rfl trivial ?_
    refine ax_bdI0 (e := (ax_wr ((ax_wr (31 * v1)) + 0))) (fun y3 => [(1, (0, 0, y3)), (0, (3, 274, (a0 : Int))), (2, (0, 0, (i : Int)))]) (fun y3 => []) (fun y3 => ?_)
    refine ax_lump ax_layM ok_kX3 [(47, .iinc 2 1, 3, 1, 0, 0), (50, .goto (-45), 3, 5, 0, 0)] (pc' := 5) (lc' := [(2, (0, 0, ((i : Int) + 1))), (1, (0, 0, y3)), (0, (3, 274, (a0 : Int)))]) (st' := []) (M' := M) (C' := (True ∧ ax_r32 ((i : Int) + 1))) (by decide +kernel) rfl ⟨trivial, ⟨by omega, by omega⟩⟩ ?_
    refine ax_pk [2,1,0] (lc' := [(0, (3, 274, (a0 : Int))), (1, (0, 0, y3)), (2, (0, 0, ((i : Int) + 1)))]) rfl ?_
    exact hkc y3 
  · refine ax_lump ax_layM ok_kX3 [(23, .bipush 100, 2, 0, 0, 0), (25, .aload_n 0, 1, 0, 0, 0), (26, .iload_n 2, 1, 0, 0, 0)] (pc' := 27) (lc' := [(0, (3, 274, (a0 : Int))), (1, (0, 0, v1)), (2, (0, 0, (i : Int)))]) (st' := [(0, 0, (i : Int)), (3, 274, (a0 : Int)), (0, 0, 100), (0, 0, (ax_wr (31 * v1)))]) (M' := M) (C' := True) (by decide +kernel) rfl trivial ?_
    refine ax_cSi (G1 := gX3_pageAt) (d1 := d + 0) (i := 188) (n := 2) (as := [(3, 274, (a0 : Int)), (0, 0, (i : Int))]) (st := [(0, 0, 100), (0, 0, (ax_wr (31 * v1)))]) (by decide +kernel) calX3_pageAt (by omega) rfl wt_1104 wt_1105 (Nat.le_of_ble_eq_true rfl) rfl (c_X3_pageAt d a0 (i : Int) M (by omega)) (fun hc4 => ?_)
    refine ax_lump ax_layM ok_kX3 [(30, .imul, 1, 0, 0, 0), (31, .bipush 100, 2, 0, 0, 0), (33, .iadd, 1, 0, 0, 0), (34, .aload_n 0, 1, 0, 0, 0), (35, .bipush 64, 2, 0, 0, 0), (37, .iload_n 2, 1, 0, 0, 0), (38, .iadd, 1, 1, 0, 0), (39, .iaload, 1, 0, 0, 0), (40, .iadd, 1, 0, 0, 0), (41, .goto 4, 3, 45, 0, 0), (45, .iadd, 1, 0, 0, 0), (46, .istore_n 1, 1, 0, 0, 0)] (pc' := 47) (lc' := [(1, (0, 0, (ax_wr ((ax_wr (31 * v1)) + (ax_wr ((ax_wr ((ax_wr (100 * (f_X3_pageAt a0 (i : Int) M))) + 100)) + (M a0 (64 + (i : Int)).toNat))))))), (0, (3, 274, (a0 : Int))), (2, (0, 0, (i : Int)))]) (st' := []) (M' := M) (C' := ((True ∧ ax_r32 (64 + (i : Int))) ∧ (0 ≤ (64 + (i : Int)) ∧ (64 + (i : Int)) < ((274 : Nat) : Int)))) (by decide +kernel) rfl ⟨⟨trivial, ⟨by omega, by omega⟩⟩, by omega⟩ ?_
    refine ax_bdI0 (e := (ax_wr ((ax_wr (31 * v1)) + (ax_wr ((ax_wr ((ax_wr (100 * (f_X3_pageAt a0 (i : Int) M))) + 100)) + (M a0 (64 + (i : Int)).toNat)))))) (fun y5 => [(1, (0, 0, y5)), (0, (3, 274, (a0 : Int))), (2, (0, 0, (i : Int)))]) (fun y5 => []) (fun y5 => ?_)
    refine ax_lump ax_layM ok_kX3 [(47, .iinc 2 1, 3, 1, 0, 0), (50, .goto (-45), 3, 5, 0, 0)] (pc' := 5) (lc' := [(2, (0, 0, ((i : Int) + 1))), (1, (0, 0, y5)), (0, (3, 274, (a0 : Int)))]) (st' := []) (M' := M) (C' := (True ∧ ax_r32 ((i : Int) + 1))) (by decide +kernel) rfl ⟨trivial, ⟨by omega, by omega⟩⟩ ?_
    refine ax_pk [2,1,0] (lc' := [(0, (3, 274, (a0 : Int))), (1, (0, 0, y5)), (2, (0, 0, ((i : Int) + 1)))]) rfl ?_
    exact hkc y5 
set_option maxRecDepth 100000 in
set_option maxHeartbeats 4000000 in
theorem w_X3_sumOf_L5 (d : Nat) (a0 : Nat) (M : ax_M) (kx : Int → Int)  (hkx : ∀ (x1 : Int), (True) → ax_W ax_LM gX3_sumOf (d + 1) 53 [(1, (0, 0, x1))] [] M ((ax_qi (-2147483648) 2147483647 M) (kx x1))) : ∀ (n : Nat) (i : Nat) (v1 : Int), 0 ≤ i ∧ i + n = 64 → ax_W ax_LM gX3_sumOf (d + 1) 5 [(0, (3, 274, (a0 : Int))), (1, (0, 0, v1)), (2, (0, 0, (i : Int)))] [] M ((ax_qi (-2147483648) 2147483647 M) (f_X3_sumOf_L5 a0 M n i v1 kx)) := by
  intro n
  induction n with
  | zero =>
    intro i v1 hin
    refine ax_lump ax_layM ok_kX3 [(5, .iload_n 2, 1, 0, 0, 0), (6, .bipush 64, 2, 0, 0, 0)] (pc' := 8) (lc' := [(0, (3, 274, (a0 : Int))), (1, (0, 0, v1)), (2, (0, 0, (i : Int)))]) (st' := [(0, 0, 64), (0, 0, (i : Int))]) (M' := M) (C' := True) (by decide +kernel) rfl trivial ?_
    refine ax_icmp_ge (off := 45) (tgt := 53) (by decide +kernel) (by decide) (fun h => ?_) (fun h => ?_)
    · refine ax_pk [1] (lc' := [(1, (0, 0, v1))]) rfl ?_
      exact hkx v1 trivial
    · exfalso; omega
  | succ n ih =>
    intro i v1 hin
    refine ax_lump ax_layM ok_kX3 [(5, .iload_n 2, 1, 0, 0, 0), (6, .bipush 64, 2, 0, 0, 0)] (pc' := 8) (lc' := [(0, (3, 274, (a0 : Int))), (1, (0, 0, v1)), (2, (0, 0, (i : Int)))]) (st' := [(0, 0, 64), (0, 0, (i : Int))]) (M' := M) (C' := True) (by decide +kernel) rfl trivial ?_
    refine ax_icmp_ge (off := 45) (tgt := 53) (by decide +kernel) (by decide) (fun h => ?_) (fun h => ?_)
    · exfalso; omega
    · exact wb_X3_sumOf_B5 d a0 M i v1 _ kx  (by omega)  (fun u1 => ih (i + 1) u1 (by omega) ) hkx
def f_X3_sumOf (a0 : Nat) (M : ax_M) : Int := f_X3_sumOf_L5 a0 M 64 0 7 (fun z6 => z6)
set_option maxRecDepth 100000 in
set_option maxHeartbeats 4000000 in
theorem c_X3_sumOf (d : Nat) (a0 : Nat) (M : ax_M)  : ax_Met ax_LM gX3_sumOf (d + 1) [(3, 274, (a0 : Int))] M ((ax_qi (-2147483648) 2147483647 M) (f_X3_sumOf a0 M)) := by
  refine ax_body (by decide) (fun X => Nat.le_of_ble_eq_true rfl) (fun hok => ?_)
  show ax_W ax_LM gX3_sumOf (d + 1) 0 [(0, (3, 274, (a0 : Int)))] [] M _
  unfold f_X3_sumOf
  refine ax_lump ax_layM ok_kX3 [(0, .bipush 7, 2, 0, 0, 0), (2, .istore_n 1, 1, 0, 0, 0), (3, .iconst 0, 1, 0, 0, 0), (4, .istore_n 2, 1, 0, 0, 0)] (pc' := 5) (lc' := [(2, (0, 0, 0)), (1, (0, 0, 7)), (0, (3, 274, (a0 : Int)))]) (st' := []) (M' := M) (C' := True) (by decide +kernel) rfl trivial ?_
  refine ax_pk [2,1,0] (lc' := [(0, (3, 274, (a0 : Int))), (1, (0, 0, 7)), (2, (0, 0, 0))]) rfl ?_
  refine w_X3_sumOf_L5 d a0 M _  (fun z6 hx_6 => ?_) 64 0 7 (by omega) 
  refine ax_lump ax_layM ok_kX3 [(53, .iload_n 1, 1, 0, 0, 0)] (pc' := 54) (lc' := [(1, (0, 0, z6))]) (st' := [(0, 0, z6)]) (M' := M) (C' := True) (by decide +kernel) rfl trivial ?_
  refine ax_rngS (fun hr => ?_)
  exact ax_iret (by decide +kernel) rfl ⟨rfl, rfl, hr.1, hr.2⟩
def f_X3_sum  (M : ax_M) : Prop × Int × ax_M := ax_bd (ax_up M 0 0 0) (fun M1 => ax_bd (ax_up M1 0 1 0) (fun M2 => ax_rc (f_X3_enters (f_X3_sumOf 7 M2) M2) (fun M4 => (True, (0, M4)))))
set_option maxRecDepth 100000 in
set_option maxHeartbeats 4000000 in
theorem c_X3_sum (d : Nat)  (M : ax_M)  (hX : (f_X3_sum  M).1) : ax_Met ax_LM gX3_sum (d + 2) [(2, 3, 0)] M ((ax_qm 0 0) (f_X3_sum  M).2) := by
  refine ax_body (by decide) (fun X => Nat.le_of_ble_eq_true rfl) (fun hok => ?_)
  show ax_W ax_LM gX3_sum (d + 2) 0 [(0, (2, 3, 0))] [] M _
  unfold f_X3_sum at hX ⊢
  refine ax_lump ax_layM ok_kX3 [(0, .aload_n 0, 1, 0, 0, 0), (1, .iconst 0, 1, 0, 0, 0), (2, .putfield 3, 3, 3, 0, 0)] (pc' := 5) (lc' := [(0, (2, 3, 0))]) (st' := []) (M' := (ax_up M 0 0 0)) (C' := (True ∧ (0 ≤ 0 ∧ 0 < ((2 : Nat) : Int)))) (by decide +kernel) rfl ⟨trivial, by omega⟩ ?_
  refine ax_bdMe_s hX (fun M1 hM_M1 hX => ?_)
  refine ax_lump ax_layM ok_kX3 [(5, .aload_n 0, 1, 0, 0, 0), (6, .iconst 0, 1, 0, 0, 0), (7, .putfield 15, 3, 3, 1, 0)] (pc' := 10) (lc' := [(0, (2, 3, 0))]) (st' := []) (M' := (ax_up M1 0 1 0)) (C' := (True ∧ (0 ≤ 0 ∧ 0 < ((25 : Nat) : Int)))) (by decide +kernel) rfl ⟨trivial, by omega⟩ ?_
  refine ax_bdMe_s hX (fun M2 hM_M2 hX => ?_)
  refine ax_lump ax_layM ok_kX3 [(10, .aload_n 0, 1, 0, 0, 0), (11, .aload_n 0, 1, 0, 0, 0), (12, .getfield 138, 3, 3, 14, 0)] (pc' := 15) (lc' := [(0, (2, 3, 0))]) (st' := [(3, 274, 7), (2, 3, 0)]) (M' := M2) (C' := True) (by decide +kernel) rfl trivial ?_
  refine ax_cSi (G1 := gX3_sumOf) (d1 := d + 1) (i := 467) (n := 1) (as := [(3, 274, 7)]) (st := [(2, 3, 0)]) (by decide +kernel) calX3_sumOf (by omega) rfl wt_1477 wt_1478 (Nat.le_of_ble_eq_true rfl) rfl (c_X3_sumOf d 7 M2) (fun hc3 => ?_)
  refine ax_lump ax_layM ok_kX3 [(18, .i2l, 1, 0, 0, 0)] (pc' := 19) (lc' := [(0, (2, 3, 0))]) (st' := [(1, 0, (f_X3_sumOf 7 M2)), (2, 3, 0)]) (M' := M2) (C' := True) (by decide +kernel) rfl trivial ?_
  refine ax_cVv_r hX (G1 := gX3_enters) (d1 := d + 0) (i := 345) (n := 1) (as := [(1, 0, (f_X3_sumOf 7 M2))]) (st := []) (c := 3) (a := 0) (by decide +kernel) ax_cls3 calX3_enters (by omega) rfl wt_1256 wt_1258 ws_98 (Nat.le_of_ble_eq_true rfl) rfl (fun hY => c_X3_enters d (f_X3_sumOf 7 M2) M2 hY) (fun M4 hX => ?_)
  refine ax_lump ax_layM ok_kX3 [(22, .iconst 0, 1, 0, 0, 0)] (pc' := 23) (lc' := [(0, (2, 3, 0))]) (st' := [(0, 0, 0)]) (M' := M4) (C' := True) (by decide +kernel) rfl trivial ?_
  exact ax_iret (by decide +kernel) rfl ⟨rfl, rfl, (show (0 : Int) ≤ 0 from by omega), (show 0 ≤ (0 : Int) from by omega)⟩
def f_X3_keep_B26 (w1 : Int) (i : Nat)  (M : ax_M) (kc : ax_M → Int × ax_M) (kx : ax_M → Int × ax_M) : Int × ax_M := ax_bd (ax_up M 21 ((274 * w1) + (i : Int)).toNat (M 7 i)) (fun M5 => kc M5)
def f_X3_keep_L26 (w1 : Int) : Nat → Nat → ax_M → (ax_M → Int × ax_M) → Int × ax_M
  | 0, i, M, kx => kx M
  | n + 1, i, M, kx => f_X3_keep_B26 w1 i  M (fun M9 => f_X3_keep_L26 w1 n (i + 1) M9 kx) kx
set_option maxRecDepth 100000 in
set_option maxHeartbeats 4000000 in
theorem wb_X3_keep_B26 (d : Nat) (w1 : Int) (i : Nat)  (M : ax_M) (kc : ax_M → Int × ax_M) (kx : ax_M → Int × ax_M) (hw_w1 : 0 ≤ w1 ∧ w1 ≤ 1) (hi : 0 ≤ i ∧ i < 274)  (hkc : ∀ (M9 : ax_M), ax_W ax_LM gX3_keep (d + 1) 26 [(0, (2, 3, 0)), (1, (0, 0, w1)), (2, (0, 0, ((i : Int) + 1)))] [] M9 ((ax_qm 0 1) (kc M9))) (hkx : ∀ (M9 : ax_M), (True) → ax_W ax_LM gX3_keep (d + 1) 57 [] [] M9 ((ax_qm 0 1) (kx M9))) : ax_W ax_LM gX3_keep (d + 1) 33 [(0, (2, 3, 0)), (1, (0, 0, w1)), (2, (0, 0, (i : Int)))] [] M ((ax_qm 0 1) (f_X3_keep_B26 w1 i  M kc kx)) := by
  unfold f_X3_keep_B26
  refine ax_lump ax_layM ok_kX3 [(33, .aload_n 0, 1, 0, 0, 0), (34, .getfield 181, 3, 3, 38, 0), (37, .sipush 274, 3, 0, 0, 0), (40, .iload_n 1, 1, 0, 0, 0), (41, .imul, 1, 1, 0, 0), (42, .iload_n 2, 1, 0, 0, 0), (43, .iadd, 1, 1, 0, 0), (44, .aload_n 0, 1, 0, 0, 0), (45, .getfield 138, 3, 3, 14, 0), (48, .iload_n 2, 1, 0, 0, 0), (49, .iaload, 1, 0, 0, 0), (50, .iastore, 1, 0, 0, 0)] (pc' := 51) (lc' := [(0, (2, 3, 0)), (1, (0, 0, w1)), (2, (0, 0, (i : Int)))]) (st' := []) (M' := (ax_up M 21 ((274 * w1) + (i : Int)).toNat (M 7 i))) (C' := ((((True ∧ ax_r32 (274 * w1)) ∧ ax_r32 ((274 * w1) + (i : Int))) ∧ (0 ≤ (i : Int) ∧ (i : Int) < ((274 : Nat) : Int))) ∧ (0 ≤ ((274 * w1) + (i : Int)) ∧ ((274 * w1) + (i : Int)) < ((548 : Nat) : Int)))) (by decide +kernel) rfl ⟨⟨⟨⟨trivial, ⟨by omega, by omega⟩⟩, ⟨by omega, by omega⟩⟩, by omega⟩, by omega⟩ ?_
  refine ax_bdMe (fun M5 hM_M5 => ?_)
  refine ax_lump ax_layM ok_kX3 [(51, .iinc 2 1, 3, 1, 0, 0), (54, .goto (-28), 3, 26, 0, 0)] (pc' := 26) (lc' := [(2, (0, 0, ((i : Int) + 1))), (0, (2, 3, 0)), (1, (0, 0, w1))]) (st' := []) (M' := M5) (C' := (True ∧ ax_r32 ((i : Int) + 1))) (by decide +kernel) rfl ⟨trivial, ⟨by omega, by omega⟩⟩ ?_
  refine ax_pk [1,2,0] (lc' := [(0, (2, 3, 0)), (1, (0, 0, w1)), (2, (0, 0, ((i : Int) + 1)))]) rfl ?_
  exact hkc M5 
set_option maxRecDepth 100000 in
set_option maxHeartbeats 4000000 in
theorem w_X3_keep_L26 (d : Nat) (w1 : Int) (kx : ax_M → Int × ax_M) (hw_w1 : 0 ≤ w1 ∧ w1 ≤ 1) (hkx : ∀ (M9 : ax_M), (True) → ax_W ax_LM gX3_keep (d + 1) 57 [] [] M9 ((ax_qm 0 1) (kx M9))) : ∀ (n : Nat) (i : Nat) (M : ax_M), 0 ≤ i ∧ i + n = 274 → ax_W ax_LM gX3_keep (d + 1) 26 [(0, (2, 3, 0)), (1, (0, 0, w1)), (2, (0, 0, (i : Int)))] [] M ((ax_qm 0 1) (f_X3_keep_L26 w1 n i  M kx)) := by
  intro n
  induction n with
  | zero =>
    intro i M hin
    refine ax_lump ax_layM ok_kX3 [(26, .iload_n 2, 1, 0, 0, 0), (27, .sipush 274, 3, 0, 0, 0)] (pc' := 30) (lc' := [(0, (2, 3, 0)), (1, (0, 0, w1)), (2, (0, 0, (i : Int)))]) (st' := [(0, 0, 274), (0, 0, (i : Int))]) (M' := M) (C' := True) (by decide +kernel) rfl trivial ?_
    refine ax_icmp_ge (off := 27) (tgt := 57) (by decide +kernel) (by decide) (fun h => ?_) (fun h => ?_)
    · refine ax_pk [] (lc' := []) rfl ?_
      exact hkx M trivial
    · exfalso; omega
  | succ n ih =>
    intro i M hin
    refine ax_lump ax_layM ok_kX3 [(26, .iload_n 2, 1, 0, 0, 0), (27, .sipush 274, 3, 0, 0, 0)] (pc' := 30) (lc' := [(0, (2, 3, 0)), (1, (0, 0, w1)), (2, (0, 0, (i : Int)))]) (st' := [(0, 0, 274), (0, 0, (i : Int))]) (M' := M) (C' := True) (by decide +kernel) rfl trivial ?_
    refine ax_icmp_ge (off := 27) (tgt := 57) (by decide +kernel) (by decide) (fun h => ?_) (fun h => ?_)
    · exfalso; omega
    · exact wb_X3_keep_B26 d w1 i  M _ kx hw_w1 (by omega)  (fun M9 => ih (i + 1)  M9 (by omega) ) hkx
def f_X3_keep (x1 : Int) (M : ax_M) : Int × ax_M := ax_bd (ax_up M 0 0 0) (fun M1 => (if (f_X3_in x1 0 1 M1) ≠ 0 then ax_bd (ax_up M1 20 x1.toNat 1) (fun M4 => f_X3_keep_L26 x1 274 0  M4 (fun M6 => (1, M6))) else (0, M1)))
set_option maxRecDepth 100000 in
set_option maxHeartbeats 4000000 in
theorem c_X3_keep (d : Nat) (x1 : Int) (M : ax_M)  : ax_Met ax_LM gX3_keep (d + 1) [(2, 3, 0), (0, 0, x1)] M ((ax_qm 0 1) (f_X3_keep x1 M)) := by
  refine ax_body (by decide) (fun X => Nat.le_of_ble_eq_true rfl) (fun hok => ?_)
  have hr_x1 : (-2147483648) ≤ x1 ∧ x1 ≤ 2147483647 := hok (0, 0, x1) (by simp)
  show ax_W ax_LM gX3_keep (d + 1) 0 [(0, (2, 3, 0)), (1, (0, 0, x1))] [] M _
  unfold f_X3_keep
  refine ax_lump ax_layM ok_kX3 [(0, .aload_n 0, 1, 0, 0, 0), (1, .iconst 0, 1, 0, 0, 0), (2, .putfield 3, 3, 3, 0, 0)] (pc' := 5) (lc' := [(0, (2, 3, 0)), (1, (0, 0, x1))]) (st' := []) (M' := (ax_up M 0 0 0)) (C' := (True ∧ (0 ≤ 0 ∧ 0 < ((2 : Nat) : Int)))) (by decide +kernel) rfl ⟨trivial, by omega⟩ ?_
  refine ax_bdMe (fun M1 hM_M1 => ?_)
  refine ax_lump ax_layM ok_kX3 [(5, .iload_n 1, 1, 0, 0, 0), (6, .i2l, 1, 0, 0, 0), (7, .lconst 0, 1, 0, 0, 0), (8, .lconst 1, 1, 0, 0, 0)] (pc' := 9) (lc' := [(0, (2, 3, 0)), (1, (0, 0, x1))]) (st' := [(1, 0, 1), (1, 0, 0), (1, 0, x1)]) (M' := M1) (C' := True) (by decide +kernel) rfl trivial ?_
  refine ax_cSi (G1 := gX3_in) (d1 := d + 0) (i := 25) (n := 3) (as := [(1, 0, x1), (1, 0, 0), (1, 0, 1)]) (st := []) (by decide +kernel) calX3_in (by omega) rfl wt_875 wt_876 (Nat.le_of_ble_eq_true rfl) rfl (c_X3_in d x1 0 1 M1) (fun hc2 => ?_)
  refine ax_zne (off := 5) (tgt := 17) (by decide +kernel) (by decide) (fun h3 => ?_) (fun h3 => ?_)
  · have hgh3 := g_X3_in h3
    refine ax_lump ax_layM ok_kX3 [(17, .aload_n 0, 1, 0, 0, 0), (18, .getfield 177, 3, 3, 37, 0), (21, .iload_n 1, 1, 0, 0, 0), (22, .iconst 1, 1, 0, 0, 0), (23, .bastore, 1, 0, 0, 0)] (pc' := 24) (lc' := [(0, (2, 3, 0)), (1, (0, 0, x1))]) (st' := []) (M' := (ax_up M1 20 x1.toNat 1)) (C' := ((True ∧ (0 ≤ x1 ∧ x1 < ((2 : Nat) : Int))) ∧ (0 ≤ 1 ∧ 1 ≤ 1))) (by decide +kernel) rfl ⟨⟨trivial, by omega⟩, by omega⟩ ?_
    refine ax_bdMe (fun M4 hM_M4 => ?_)
    refine ax_lump ax_layM ok_kX3 [(24, .iconst 0, 1, 0, 0, 0), (25, .istore_n 2, 1, 0, 0, 0)] (pc' := 26) (lc' := [(2, (0, 0, 0)), (0, (2, 3, 0)), (1, (0, 0, x1))]) (st' := []) (M' := M4) (C' := True) (by decide +kernel) rfl trivial ?_
    refine ax_pk [1,2,0] (lc' := [(0, (2, 3, 0)), (1, (0, 0, x1)), (2, (0, 0, 0))]) rfl ?_
    refine w_X3_keep_L26 d x1 _ (by omega) (fun M6 hx_6 => ?_) 274 0  M4 (by omega) 
    refine ax_lump ax_layM ok_kX3 [(57, .iconst 1, 1, 0, 0, 0)] (pc' := 58) (lc' := []) (st' := [(0, 0, 1)]) (M' := M6) (C' := True) (by decide +kernel) rfl trivial ?_
    exact ax_zret (by decide +kernel) rfl (by omega) ⟨rfl, rfl, (show (0 : Int) ≤ 1 from by omega), (show 1 ≤ (1 : Int) from by omega)⟩
  · refine ax_lump ax_layM ok_kX3 [(15, .iconst 0, 1, 0, 0, 0)] (pc' := 16) (lc' := [(0, (2, 3, 0)), (1, (0, 0, x1))]) (st' := [(0, 0, 0)]) (M' := M1) (C' := True) (by decide +kernel) rfl trivial ?_
    exact ax_zret (by decide +kernel) rfl (by omega) ⟨rfl, rfl, (show (0 : Int) ≤ 0 from by omega), (show 0 ≤ (1 : Int) from by omega)⟩
def f_X3_again_B28 (w1 : Int) (i : Nat)  (M : ax_M) (kc : ax_M → Int × ax_M) (kx : ax_M → Int × ax_M) : Int × ax_M := ax_bd (ax_up M 7 i (M 21 ((274 * w1) + (i : Int)).toNat)) (fun M5 => kc M5)
def f_X3_again_L28 (w1 : Int) : Nat → Nat → ax_M → (ax_M → Int × ax_M) → Int × ax_M
  | 0, i, M, kx => kx M
  | n + 1, i, M, kx => f_X3_again_B28 w1 i  M (fun M9 => f_X3_again_L28 w1 n (i + 1) M9 kx) kx
set_option maxRecDepth 100000 in
set_option maxHeartbeats 4000000 in
theorem wb_X3_again_B28 (d : Nat) (w1 : Int) (i : Nat)  (M : ax_M) (kc : ax_M → Int × ax_M) (kx : ax_M → Int × ax_M) (hw_w1 : 0 ≤ w1 ∧ w1 ≤ 1) (hi : 0 ≤ i ∧ i < 274)  (hkc : ∀ (M9 : ax_M), ax_W ax_LM gX3_again (d + 1) 28 [(0, (2, 3, 0)), (1, (0, 0, w1)), (2, (0, 0, ((i : Int) + 1)))] [] M9 ((ax_qm 0 1) (kc M9))) (hkx : ∀ (M9 : ax_M), (True) → ax_W ax_LM gX3_again (d + 1) 59 [(0, (2, 3, 0))] [] M9 ((ax_qm 0 1) (kx M9))) : ax_W ax_LM gX3_again (d + 1) 35 [(0, (2, 3, 0)), (1, (0, 0, w1)), (2, (0, 0, (i : Int)))] [] M ((ax_qm 0 1) (f_X3_again_B28 w1 i  M kc kx)) := by
  unfold f_X3_again_B28
  refine ax_lump ax_layM ok_kX3 [(35, .aload_n 0, 1, 0, 0, 0), (36, .getfield 138, 3, 3, 14, 0), (39, .iload_n 2, 1, 0, 0, 0), (40, .aload_n 0, 1, 0, 0, 0), (41, .getfield 181, 3, 3, 38, 0), (44, .sipush 274, 3, 0, 0, 0), (47, .iload_n 1, 1, 0, 0, 0), (48, .imul, 1, 1, 0, 0), (49, .iload_n 2, 1, 0, 0, 0), (50, .iadd, 1, 1, 0, 0), (51, .iaload, 1, 0, 0, 0), (52, .iastore, 1, 0, 0, 0)] (pc' := 53) (lc' := [(0, (2, 3, 0)), (1, (0, 0, w1)), (2, (0, 0, (i : Int)))]) (st' := []) (M' := (ax_up M 7 i (M 21 ((274 * w1) + (i : Int)).toNat))) (C' := ((((True ∧ ax_r32 (274 * w1)) ∧ ax_r32 ((274 * w1) + (i : Int))) ∧ (0 ≤ ((274 * w1) + (i : Int)) ∧ ((274 * w1) + (i : Int)) < ((548 : Nat) : Int))) ∧ (0 ≤ (i : Int) ∧ (i : Int) < ((274 : Nat) : Int)))) (by decide +kernel) rfl ⟨⟨⟨⟨trivial, ⟨by omega, by omega⟩⟩, ⟨by omega, by omega⟩⟩, by omega⟩, by omega⟩ ?_
  refine ax_bdMe (fun M5 hM_M5 => ?_)
  refine ax_lump ax_layM ok_kX3 [(53, .iinc 2 1, 3, 1, 0, 0), (56, .goto (-28), 3, 28, 0, 0)] (pc' := 28) (lc' := [(2, (0, 0, ((i : Int) + 1))), (0, (2, 3, 0)), (1, (0, 0, w1))]) (st' := []) (M' := M5) (C' := (True ∧ ax_r32 ((i : Int) + 1))) (by decide +kernel) rfl ⟨trivial, ⟨by omega, by omega⟩⟩ ?_
  refine ax_pk [1,2,0] (lc' := [(0, (2, 3, 0)), (1, (0, 0, w1)), (2, (0, 0, ((i : Int) + 1)))]) rfl ?_
  exact hkc M5 
set_option maxRecDepth 100000 in
set_option maxHeartbeats 4000000 in
theorem w_X3_again_L28 (d : Nat) (w1 : Int) (kx : ax_M → Int × ax_M) (hw_w1 : 0 ≤ w1 ∧ w1 ≤ 1) (hkx : ∀ (M9 : ax_M), (True) → ax_W ax_LM gX3_again (d + 1) 59 [(0, (2, 3, 0))] [] M9 ((ax_qm 0 1) (kx M9))) : ∀ (n : Nat) (i : Nat) (M : ax_M), 0 ≤ i ∧ i + n = 274 → ax_W ax_LM gX3_again (d + 1) 28 [(0, (2, 3, 0)), (1, (0, 0, w1)), (2, (0, 0, (i : Int)))] [] M ((ax_qm 0 1) (f_X3_again_L28 w1 n i  M kx)) := by
  intro n
  induction n with
  | zero =>
    intro i M hin
    refine ax_lump ax_layM ok_kX3 [(28, .iload_n 2, 1, 0, 0, 0), (29, .sipush 274, 3, 0, 0, 0)] (pc' := 32) (lc' := [(0, (2, 3, 0)), (1, (0, 0, w1)), (2, (0, 0, (i : Int)))]) (st' := [(0, 0, 274), (0, 0, (i : Int))]) (M' := M) (C' := True) (by decide +kernel) rfl trivial ?_
    refine ax_icmp_ge (off := 27) (tgt := 59) (by decide +kernel) (by decide) (fun h => ?_) (fun h => ?_)
    · refine ax_pk [0] (lc' := [(0, (2, 3, 0))]) rfl ?_
      exact hkx M trivial
    · exfalso; omega
  | succ n ih =>
    intro i M hin
    refine ax_lump ax_layM ok_kX3 [(28, .iload_n 2, 1, 0, 0, 0), (29, .sipush 274, 3, 0, 0, 0)] (pc' := 32) (lc' := [(0, (2, 3, 0)), (1, (0, 0, w1)), (2, (0, 0, (i : Int)))]) (st' := [(0, 0, 274), (0, 0, (i : Int))]) (M' := M) (C' := True) (by decide +kernel) rfl trivial ?_
    refine ax_icmp_ge (off := 27) (tgt := 59) (by decide +kernel) (by decide) (fun h => ?_) (fun h => ?_)
    · exfalso; omega
    · exact wb_X3_again_B28 d w1 i  M _ kx hw_w1 (by omega)  (fun M9 => ih (i + 1)  M9 (by omega) ) hkx
def f_X3_again (x1 : Int) (M : ax_M) : Int × ax_M := ax_bd (ax_up M 0 0 0) (fun M1 => (if (f_X3_in x1 0 1 M1) = 0 then (0, M1) else (if (M1 20 x1.toNat) ≠ 0 then f_X3_again_L28 x1 274 0  M1 (fun M6 => ax_bd (ax_up M6 0 24 0) (fun M7 => (1, M7))) else (0, M1))))
set_option maxRecDepth 100000 in
set_option maxHeartbeats 4000000 in
theorem c_X3_again (d : Nat) (x1 : Int) (M : ax_M)  : ax_Met ax_LM gX3_again (d + 1) [(2, 3, 0), (0, 0, x1)] M ((ax_qm 0 1) (f_X3_again x1 M)) := by
  refine ax_body (by decide) (fun X => Nat.le_of_ble_eq_true rfl) (fun hok => ?_)
  have hr_x1 : (-2147483648) ≤ x1 ∧ x1 ≤ 2147483647 := hok (0, 0, x1) (by simp)
  show ax_W ax_LM gX3_again (d + 1) 0 [(0, (2, 3, 0)), (1, (0, 0, x1))] [] M _
  unfold f_X3_again
  refine ax_lump ax_layM ok_kX3 [(0, .aload_n 0, 1, 0, 0, 0), (1, .iconst 0, 1, 0, 0, 0), (2, .putfield 3, 3, 3, 0, 0)] (pc' := 5) (lc' := [(0, (2, 3, 0)), (1, (0, 0, x1))]) (st' := []) (M' := (ax_up M 0 0 0)) (C' := (True ∧ (0 ≤ 0 ∧ 0 < ((2 : Nat) : Int)))) (by decide +kernel) rfl ⟨trivial, by omega⟩ ?_
  refine ax_bdMe (fun M1 hM_M1 => ?_)
  refine ax_lump ax_layM ok_kX3 [(5, .iload_n 1, 1, 0, 0, 0), (6, .i2l, 1, 0, 0, 0), (7, .lconst 0, 1, 0, 0, 0), (8, .lconst 1, 1, 0, 0, 0)] (pc' := 9) (lc' := [(0, (2, 3, 0)), (1, (0, 0, x1))]) (st' := [(1, 0, 1), (1, 0, 0), (1, 0, x1)]) (M' := M1) (C' := True) (by decide +kernel) rfl trivial ?_
  refine ax_cSi (G1 := gX3_in) (d1 := d + 0) (i := 25) (n := 3) (as := [(1, 0, x1), (1, 0, 0), (1, 0, 1)]) (st := []) (by decide +kernel) calX3_in (by omega) rfl wt_875 wt_876 (Nat.le_of_ble_eq_true rfl) rfl (c_X3_in d x1 0 1 M1) (fun hc2 => ?_)
  refine ax_zeq (off := 12) (tgt := 24) (by decide +kernel) (by decide) (fun h3 => ?_) (fun h3 => ?_)
  · refine ax_lump ax_layM ok_kX3 [(24, .iconst 0, 1, 0, 0, 0)] (pc' := 25) (lc' := [(0, (2, 3, 0)), (1, (0, 0, x1))]) (st' := [(0, 0, 0)]) (M' := M1) (C' := True) (by decide +kernel) rfl trivial ?_
    exact ax_zret (by decide +kernel) rfl (by omega) ⟨rfl, rfl, (show (0 : Int) ≤ 0 from by omega), (show 0 ≤ (1 : Int) from by omega)⟩
  · have hgh3 := g_X3_in h3
    refine ax_lump ax_layM ok_kX3 [(15, .aload_n 0, 1, 0, 0, 0), (16, .getfield 177, 3, 3, 37, 0), (19, .iload_n 1, 1, 0, 0, 0), (20, .baload, 1, 0, 0, 0)] (pc' := 21) (lc' := [(0, (2, 3, 0)), (1, (0, 0, x1))]) (st' := [(0, 0, (M1 20 x1.toNat))]) (M' := M1) (C' := (True ∧ (0 ≤ x1 ∧ x1 < ((2 : Nat) : Int)))) (by decide +kernel) rfl ⟨trivial, by omega⟩ ?_
    refine ax_zne (off := 5) (tgt := 26) (by decide +kernel) (by decide) (fun h4 => ?_) (fun h4 => ?_)
    · refine ax_lump ax_layM ok_kX3 [(26, .iconst 0, 1, 0, 0, 0), (27, .istore_n 2, 1, 0, 0, 0)] (pc' := 28) (lc' := [(2, (0, 0, 0)), (0, (2, 3, 0)), (1, (0, 0, x1))]) (st' := []) (M' := M1) (C' := True) (by decide +kernel) rfl trivial ?_
      refine ax_pk [1,2,0] (lc' := [(0, (2, 3, 0)), (1, (0, 0, x1)), (2, (0, 0, 0))]) rfl ?_
      refine w_X3_again_L28 d x1 _ (by omega) (fun M6 hx_6 => ?_) 274 0  M1 (by omega) 
      refine ax_lump ax_layM ok_kX3 [(59, .aload_n 0, 1, 0, 0, 0), (60, .iconst 0, 1, 0, 0, 0), (61, .putfield 318, 3, 3, 24, 0)] (pc' := 64) (lc' := [(0, (2, 3, 0))]) (st' := []) (M' := (ax_up M6 0 24 0)) (C' := (True ∧ (0 ≤ 0 ∧ 0 < ((10 : Nat) : Int)))) (by decide +kernel) rfl ⟨trivial, by omega⟩ ?_
      refine ax_bdMe (fun M7 hM_M7 => ?_)
      refine ax_lump ax_layM ok_kX3 [(64, .iconst 1, 1, 0, 0, 0)] (pc' := 65) (lc' := [(0, (2, 3, 0))]) (st' := [(0, 0, 1)]) (M' := M7) (C' := True) (by decide +kernel) rfl trivial ?_
      exact ax_zret (by decide +kernel) rfl (by omega) ⟨rfl, rfl, (show (0 : Int) ≤ 1 from by omega), (show 1 ≤ (1 : Int) from by omega)⟩
    · refine ax_lump ax_layM ok_kX3 [(24, .iconst 0, 1, 0, 0, 0)] (pc' := 25) (lc' := [(0, (2, 3, 0)), (1, (0, 0, x1))]) (st' := [(0, 0, 0)]) (M' := M1) (C' := True) (by decide +kernel) rfl trivial ?_
      exact ax_zret (by decide +kernel) rfl (by omega) ⟨rfl, rfl, (show (0 : Int) ≤ 0 from by omega), (show 0 ≤ (1 : Int) from by omega)⟩
def f_X3_count_B12 (w1 : Int) (M : ax_M) (i : Nat) (v2 : Int) (v3 : Int) (kc : Int → Int → Int × ax_M) (kx : Int → Int → Int × ax_M) : Int × ax_M := (if (M 7 (192 + (i : Int)).toNat) ≠ 0 then ax_bd (ax_or v2 0) (fun y3 => kc y3 (v3 + (f_X3_writtenIn (i : Int) M))) else ax_bd (ax_or v2 (ax_shl 1 (i : Int))) (fun y5 => kc y5 (v3 + (f_X3_writtenIn (i : Int) M))))
def f_X3_count_L12 (w1 : Int) (M : ax_M) : Nat → Nat → Int → Int → (Int → Int → Int × ax_M) → Int × ax_M
  | 0, i, v2, v3, kx => kx v2 v3
  | n + 1, i, v2, v3, kx => f_X3_count_B12 w1 M i v2 v3 (fun u2 u3 => f_X3_count_L12 w1 M n (i + 1) u2 u3 kx) kx
set_option maxRecDepth 100000 in
set_option maxHeartbeats 4000000 in
theorem wb_X3_count_B12 (d : Nat) (w1 : Int) (M : ax_M) (i : Nat) (v2 : Int) (v3 : Int) (kc : Int → Int → Int × ax_M) (kx : Int → Int → Int × ax_M)  (hi : 0 ≤ i ∧ i < 16) (hv3 : 0 ≤ v3 ∧ v3 ≤ 0 + 4 * ((i : Int) - 0)) (hkc : ∀ (u2 : Int) (u3 : Int), 0 ≤ u3 ∧ u3 ≤ 0 + 4 * (((i : Int) + 1) - 0) → ax_W ax_LM gX3_count (d + 2) 12 [(0, (2, 3, 0)), (1, (0, 0, w1)), (2, (0, 0, u2)), (3, (0, 0, u3)), (4, (0, 0, ((i : Int) + 1)))] [] M ((ax_qm (-2147483648) 2147483647) (kc u2 u3))) (hkx : ∀ (x2 : Int) (x3 : Int), ((0 ≤ x3 ∧ x3 ≤ 64)) → ax_W ax_LM gX3_count (d + 2) 59 [(0, (2, 3, 0)), (1, (0, 0, w1)), (2, (0, 0, x2)), (3, (0, 0, x3))] [] M ((ax_qm (-2147483648) 2147483647) (kx x2 x3))) : ax_W ax_LM gX3_count (d + 2) 19 [(0, (2, 3, 0)), (1, (0, 0, w1)), (2, (0, 0, v2)), (3, (0, 0, v3)), (4, (0, 0, (i : Int)))] [] M ((ax_qm (-2147483648) 2147483647) (f_X3_count_B12 w1 M i v2 v3 kc kx)) := by
  unfold f_X3_count_B12
  refine ax_lump ax_layM ok_kX3 [(19, .iload_n 2, 1, 0, 0, 0), (20, .aload_n 0, 1, 0, 0, 0), (21, .getfield 138, 3, 3, 14, 0), (24, .sipush 192, 3, 0, 0, 0), (27, .iload 4, 2, 0, 0, 0), (29, .iadd, 1, 1, 0, 0), (30, .iaload, 1, 0, 0, 0)] (pc' := 31) (lc' := [(0, (2, 3, 0)), (1, (0, 0, w1)), (2, (0, 0, v2)), (3, (0, 0, v3)), (4, (0, 0, (i : Int)))]) (st' := [(0, 0, (M 7 (192 + (i : Int)).toNat)), (0, 0, v2)]) (M' := M) (C' := ((True ∧ ax_r32 (192 + (i : Int))) ∧ (0 ≤ (192 + (i : Int)) ∧ (192 + (i : Int)) < ((274 : Nat) : Int)))) (by decide +kernel) rfl ⟨⟨trivial, ⟨by omega, by omega⟩⟩, by omega⟩ ?_
  refine ax_zne (off := 10) (tgt := 41) (by decide +kernel) (by decide) (fun h2 => ?_) (fun h2 => ?_)
  · refine ax_lump ax_layM ok_kX3 [(41, .iconst 0, 1, 0, 0, 0), (42, .ior, 1, 0, 0, 0), (43, .istore_n 2, 1, 0, 0, 0)] (pc' := 44) (lc' := [(2, (0, 0, (ax_or v2 0))), (0, (2, 3, 0)), (1, (0, 0, w1)), (3, (0, 0, v3)), (4, (0, 0, (i : Int)))]) (st' := []) (M' := M) (C' := True) (by decide +kernel) rfl trivial ?_
    refine ax_bdI0 (e := (ax_or v2 0)) (fun y3 => [(2, (0, 0, y3)), (0, (2, 3, 0)), (1, (0, 0, w1)), (3, (0, 0, v3)), (4, (0, 0, (i : Int)))]) (fun y3 => []) (fun y3 => ?_)
    refine ax_lump ax_layM ok_kX3 [(44, .iload_n 3, 1, 0, 0, 0), (45, .aload_n 0, 1, 0, 0, 0), (46, .iload 4, 2, 0, 0, 0)] (pc' := 48) (lc' := [(2, (0, 0, y3)), (0, (2, 3, 0)), (1, (0, 0, w1)), (3, (0, 0, v3)), (4, (0, 0, (i : Int)))]) (st' := [(0, 0, (i : Int)), (2, 3, 0), (0, 0, v3)]) (M' := M) (C' := True) (by decide +kernel) rfl trivial ?_
    refine ax_cVi (G1 := gX3_writtenIn) (d1 := d + 1) (i := 440) (n := 1) (as := [(0, 0, (i : Int))]) (st := [(0, 0, v3)]) (c := 3) (a := 0) (by decide +kernel) ax_cls3 calX3_writtenIn (by omega) rfl wt_1446 wt_1448 ws_115 (Nat.le_of_ble_eq_true rfl) rfl (c_X3_writtenIn d (i : Int) M (by omega)) (fun hc4 => ?_)
    refine ax_lump ax_layM ok_kX3 [(51, .iadd, 1, 1, 0, 0), (52, .istore_n 3, 1, 0, 0, 0), (53, .iinc 4 1, 3, 1, 0, 0), (56, .goto (-44), 3, 12, 0, 0)] (pc' := 12) (lc' := [(4, (0, 0, ((i : Int) + 1))), (3, (0, 0, (v3 + (f_X3_writtenIn (i : Int) M)))), (2, (0, 0, y3)), (0, (2, 3, 0)), (1, (0, 0, w1))]) (st' := []) (M' := M) (C' := ((True ∧ ax_r32 (v3 + (f_X3_writtenIn (i : Int) M))) ∧ ax_r32 ((i : Int) + 1))) (by decide +kernel) rfl ⟨⟨trivial, ⟨by omega, by omega⟩⟩, ⟨by omega, by omega⟩⟩ ?_
    refine ax_pk [3,4,2,1,0] (lc' := [(0, (2, 3, 0)), (1, (0, 0, w1)), (2, (0, 0, y3)), (3, (0, 0, (v3 + (f_X3_writtenIn (i : Int) M)))), (4, (0, 0, ((i : Int) + 1)))]) rfl ?_
    exact hkc y3 (v3 + (f_X3_writtenIn (i : Int) M)) (by omega)
  · refine ax_lump ax_layM ok_kX3 [(34, .iconst 1, 1, 0, 0, 0), (35, .iload 4, 2, 0, 0, 0), (37, .ishl, 1, 0, 0, 0), (38, .goto 4, 3, 42, 0, 0), (42, .ior, 1, 0, 0, 0), (43, .istore_n 2, 1, 0, 0, 0)] (pc' := 44) (lc' := [(2, (0, 0, (ax_or v2 (ax_shl 1 (i : Int))))), (0, (2, 3, 0)), (1, (0, 0, w1)), (3, (0, 0, v3)), (4, (0, 0, (i : Int)))]) (st' := []) (M' := M) (C' := True) (by decide +kernel) rfl trivial ?_
    refine ax_bdI0 (e := (ax_or v2 (ax_shl 1 (i : Int)))) (fun y5 => [(2, (0, 0, y5)), (0, (2, 3, 0)), (1, (0, 0, w1)), (3, (0, 0, v3)), (4, (0, 0, (i : Int)))]) (fun y5 => []) (fun y5 => ?_)
    refine ax_lump ax_layM ok_kX3 [(44, .iload_n 3, 1, 0, 0, 0), (45, .aload_n 0, 1, 0, 0, 0), (46, .iload 4, 2, 0, 0, 0)] (pc' := 48) (lc' := [(2, (0, 0, y5)), (0, (2, 3, 0)), (1, (0, 0, w1)), (3, (0, 0, v3)), (4, (0, 0, (i : Int)))]) (st' := [(0, 0, (i : Int)), (2, 3, 0), (0, 0, v3)]) (M' := M) (C' := True) (by decide +kernel) rfl trivial ?_
    refine ax_cVi (G1 := gX3_writtenIn) (d1 := d + 1) (i := 440) (n := 1) (as := [(0, 0, (i : Int))]) (st := [(0, 0, v3)]) (c := 3) (a := 0) (by decide +kernel) ax_cls3 calX3_writtenIn (by omega) rfl wt_1446 wt_1448 ws_115 (Nat.le_of_ble_eq_true rfl) rfl (c_X3_writtenIn d (i : Int) M (by omega)) (fun hc6 => ?_)
    refine ax_lump ax_layM ok_kX3 [(51, .iadd, 1, 1, 0, 0), (52, .istore_n 3, 1, 0, 0, 0), (53, .iinc 4 1, 3, 1, 0, 0), (56, .goto (-44), 3, 12, 0, 0)] (pc' := 12) (lc' := [(4, (0, 0, ((i : Int) + 1))), (3, (0, 0, (v3 + (f_X3_writtenIn (i : Int) M)))), (2, (0, 0, y5)), (0, (2, 3, 0)), (1, (0, 0, w1))]) (st' := []) (M' := M) (C' := ((True ∧ ax_r32 (v3 + (f_X3_writtenIn (i : Int) M))) ∧ ax_r32 ((i : Int) + 1))) (by decide +kernel) rfl ⟨⟨trivial, ⟨by omega, by omega⟩⟩, ⟨by omega, by omega⟩⟩ ?_
    refine ax_pk [3,4,2,1,0] (lc' := [(0, (2, 3, 0)), (1, (0, 0, w1)), (2, (0, 0, y5)), (3, (0, 0, (v3 + (f_X3_writtenIn (i : Int) M)))), (4, (0, 0, ((i : Int) + 1)))]) rfl ?_
    exact hkc y5 (v3 + (f_X3_writtenIn (i : Int) M)) (by omega)
set_option maxRecDepth 100000 in
set_option maxHeartbeats 4000000 in
theorem w_X3_count_L12 (d : Nat) (w1 : Int) (M : ax_M) (kx : Int → Int → Int × ax_M)  (hkx : ∀ (x2 : Int) (x3 : Int), ((0 ≤ x3 ∧ x3 ≤ 64)) → ax_W ax_LM gX3_count (d + 2) 59 [(0, (2, 3, 0)), (1, (0, 0, w1)), (2, (0, 0, x2)), (3, (0, 0, x3))] [] M ((ax_qm (-2147483648) 2147483647) (kx x2 x3))) : ∀ (n : Nat) (i : Nat) (v2 : Int) (v3 : Int), 0 ≤ i ∧ i + n = 16 → 0 ≤ v3 ∧ v3 ≤ 0 + 4 * ((i : Int) - 0) → ax_W ax_LM gX3_count (d + 2) 12 [(0, (2, 3, 0)), (1, (0, 0, w1)), (2, (0, 0, v2)), (3, (0, 0, v3)), (4, (0, 0, (i : Int)))] [] M ((ax_qm (-2147483648) 2147483647) (f_X3_count_L12 w1 M n i v2 v3 kx)) := by
  intro n
  induction n with
  | zero =>
    intro i v2 v3 hin hv3
    refine ax_lump ax_layM ok_kX3 [(12, .iload 4, 2, 0, 0, 0), (14, .bipush 16, 2, 0, 0, 0)] (pc' := 16) (lc' := [(0, (2, 3, 0)), (1, (0, 0, w1)), (2, (0, 0, v2)), (3, (0, 0, v3)), (4, (0, 0, (i : Int)))]) (st' := [(0, 0, 16), (0, 0, (i : Int))]) (M' := M) (C' := True) (by decide +kernel) rfl trivial ?_
    refine ax_icmp_ge (off := 43) (tgt := 59) (by decide +kernel) (by decide) (fun h => ?_) (fun h => ?_)
    · refine ax_pk [0,1,2,3] (lc' := [(0, (2, 3, 0)), (1, (0, 0, w1)), (2, (0, 0, v2)), (3, (0, 0, v3))]) rfl ?_
      exact hkx v2 v3 (by omega)
    · exfalso; omega
  | succ n ih =>
    intro i v2 v3 hin hv3
    refine ax_lump ax_layM ok_kX3 [(12, .iload 4, 2, 0, 0, 0), (14, .bipush 16, 2, 0, 0, 0)] (pc' := 16) (lc' := [(0, (2, 3, 0)), (1, (0, 0, w1)), (2, (0, 0, v2)), (3, (0, 0, v3)), (4, (0, 0, (i : Int)))]) (st' := [(0, 0, 16), (0, 0, (i : Int))]) (M' := M) (C' := True) (by decide +kernel) rfl trivial ?_
    refine ax_icmp_ge (off := 43) (tgt := 59) (by decide +kernel) (by decide) (fun h => ?_) (fun h => ?_)
    · exfalso; omega
    · exact wb_X3_count_B12 d w1 M i v2 v3 _ kx  (by omega) hv3 (fun u2 u3 hu3 => ih (i + 1) u2 u3 (by omega) (by omega)) hkx
def f_X3_count (x1 : Int) (M : ax_M) : Int × ax_M := ax_bd (ax_up M 0 0 0) (fun M1 => f_X3_count_L12 x1 M1 16 0 0 0 (fun z7 z8 => (if (f_X3_in x1 1 6 M1) = 0 then (if x1 = 0 then (z7, M1) else (if x1 = 1 then ((-100), M1) else (if x1 = 2 then ((-100), M1) else (if x1 = 3 then ((-100), M1) else (if x1 = 4 then ((-100), M1) else (if x1 = 5 then ((-100), M1) else (if x1 = 6 then ((-100), M1) else (if x1 = 7 then (z8, M1) else (if x1 = 8 then ((M1 7 270), M1) else (if x1 = 9 then ((M1 0 32), M1) else (if x1 = 10 then ((M1 0 24), M1) else (if x1 = 11 then ((M1 0 1), M1) else (if x1 = 12 then ((M1 0 4), M1) else ((-100), M1)))))))))))))) else ((M1 7 ((264 + x1) - 1).toNat), M1))))
set_option maxRecDepth 100000 in
set_option maxHeartbeats 4000000 in
theorem c_X3_count (d : Nat) (x1 : Int) (M : ax_M)  : ax_Met ax_LM gX3_count (d + 2) [(2, 3, 0), (0, 0, x1)] M ((ax_qm (-2147483648) 2147483647) (f_X3_count x1 M)) := by
  refine ax_body (by decide) (fun X => Nat.le_of_ble_eq_true rfl) (fun hok => ?_)
  have hr_x1 : (-2147483648) ≤ x1 ∧ x1 ≤ 2147483647 := hok (0, 0, x1) (by simp)
  show ax_W ax_LM gX3_count (d + 2) 0 [(0, (2, 3, 0)), (1, (0, 0, x1))] [] M _
  unfold f_X3_count
  refine ax_lump ax_layM ok_kX3 [(0, .aload_n 0, 1, 0, 0, 0), (1, .iconst 0, 1, 0, 0, 0), (2, .putfield 3, 3, 3, 0, 0)] (pc' := 5) (lc' := [(0, (2, 3, 0)), (1, (0, 0, x1))]) (st' := []) (M' := (ax_up M 0 0 0)) (C' := (True ∧ (0 ≤ 0 ∧ 0 < ((2 : Nat) : Int)))) (by decide +kernel) rfl ⟨trivial, by omega⟩ ?_
  refine ax_bdMe (fun M1 hM_M1 => ?_)
  refine ax_lump ax_layM ok_kX3 [(5, .iconst 0, 1, 0, 0, 0), (6, .istore_n 2, 1, 0, 0, 0), (7, .iconst 0, 1, 0, 0, 0), (8, .istore_n 3, 1, 0, 0, 0), (9, .iconst 0, 1, 0, 0, 0), (10, .istore 4, 2, 0, 0, 0)] (pc' := 12) (lc' := [(4, (0, 0, 0)), (3, (0, 0, 0)), (2, (0, 0, 0)), (0, (2, 3, 0)), (1, (0, 0, x1))]) (st' := []) (M' := M1) (C' := True) (by decide +kernel) rfl trivial ?_
  refine ax_pk [3,4,2,1,0] (lc' := [(0, (2, 3, 0)), (1, (0, 0, x1)), (2, (0, 0, 0)), (3, (0, 0, 0)), (4, (0, 0, 0))]) rfl ?_
  refine w_X3_count_L12 d x1 M1 _  (fun z7 z8 hx_8 => ?_) 16 0 0 0 (by omega) (by omega)
  refine ax_lump ax_layM ok_kX3 [(59, .iload_n 1, 1, 0, 0, 0), (60, .i2l, 1, 0, 0, 0), (61, .lconst 1, 1, 0, 0, 0), (62, .ldc2_w 470, 3, 0, 0, 6)] (pc' := 65) (lc' := [(0, (2, 3, 0)), (1, (0, 0, x1)), (2, (0, 0, z7)), (3, (0, 0, z8))]) (st' := [(1, 0, 6), (1, 0, 1), (1, 0, x1)]) (M' := M1) (C' := True) (by decide +kernel) rfl trivial ?_
  refine ax_cSi (G1 := gX3_in) (d1 := d + 0) (i := 25) (n := 3) (as := [(1, 0, x1), (1, 0, 1), (1, 0, 6)]) (st := []) (by decide +kernel) calX3_in (by omega) rfl wt_875 wt_876 (Nat.le_of_ble_eq_true rfl) rfl (c_X3_in d x1 1 6 M1) (fun hc9 => ?_)
  refine ax_zeq (off := 16) (tgt := 84) (by decide +kernel) (by decide) (fun h10 => ?_) (fun h10 => ?_)
  · refine ax_lump ax_layM ok_kX3 [(84, .iload_n 1, 1, 0, 0, 0)] (pc' := 85) (lc' := [(0, (2, 3, 0)), (1, (0, 0, x1)), (2, (0, 0, z7)), (3, (0, 0, z8))]) (st' := [(0, 0, x1)]) (M' := M1) (C' := True) (by decide +kernel) rfl trivial ?_
    refine ax_ite (fun h11 => ?_) (fun h11 => ?_)
    · refine ax_swIn (dflt := 100) (lo := 0) (hi := 12) (off := 67) (offs := #[67, 100, 100, 100, 100, 100, 100, 69, 71, 80, 85, 90, 95]) (len := 67) (tgt := 152) (by decide +kernel) (by omega) (by omega) (by rw [h11]; rfl) (by decide) ?_
      refine ax_lump ax_layM ok_kX3 [(152, .iload_n 2, 1, 0, 0, 0)] (pc' := 153) (lc' := [(0, (2, 3, 0)), (1, (0, 0, x1)), (2, (0, 0, z7)), (3, (0, 0, z8))]) (st' := [(0, 0, z7)]) (M' := M1) (C' := True) (by decide +kernel) rfl trivial ?_
      refine ax_rngS (fun hr => ?_)
      exact ax_iret (by decide +kernel) rfl ⟨rfl, rfl, hr.1, hr.2⟩
    · refine ax_ite (fun h12 => ?_) (fun h12 => ?_)
      · refine ax_swIn (dflt := 100) (lo := 0) (hi := 12) (off := 100) (offs := #[67, 100, 100, 100, 100, 100, 100, 69, 71, 80, 85, 90, 95]) (len := 67) (tgt := 185) (by decide +kernel) (by omega) (by omega) (by rw [h12]; rfl) (by decide) ?_
        refine ax_lump ax_layM ok_kX3 [(185, .bipush (-100), 2, 0, 0, 0)] (pc' := 187) (lc' := [(0, (2, 3, 0)), (1, (0, 0, x1)), (2, (0, 0, z7)), (3, (0, 0, z8))]) (st' := [(0, 0, (-100))]) (M' := M1) (C' := True) (by decide +kernel) rfl trivial ?_
        refine ax_rngS (fun hr => ?_)
        exact ax_iret (by decide +kernel) rfl ⟨rfl, rfl, hr.1, hr.2⟩
      · refine ax_ite (fun h13 => ?_) (fun h13 => ?_)
        · refine ax_swIn (dflt := 100) (lo := 0) (hi := 12) (off := 100) (offs := #[67, 100, 100, 100, 100, 100, 100, 69, 71, 80, 85, 90, 95]) (len := 67) (tgt := 185) (by decide +kernel) (by omega) (by omega) (by rw [h13]; rfl) (by decide) ?_
          refine ax_lump ax_layM ok_kX3 [(185, .bipush (-100), 2, 0, 0, 0)] (pc' := 187) (lc' := [(0, (2, 3, 0)), (1, (0, 0, x1)), (2, (0, 0, z7)), (3, (0, 0, z8))]) (st' := [(0, 0, (-100))]) (M' := M1) (C' := True) (by decide +kernel) rfl trivial ?_
          refine ax_rngS (fun hr => ?_)
          exact ax_iret (by decide +kernel) rfl ⟨rfl, rfl, hr.1, hr.2⟩
        · refine ax_ite (fun h14 => ?_) (fun h14 => ?_)
          · refine ax_swIn (dflt := 100) (lo := 0) (hi := 12) (off := 100) (offs := #[67, 100, 100, 100, 100, 100, 100, 69, 71, 80, 85, 90, 95]) (len := 67) (tgt := 185) (by decide +kernel) (by omega) (by omega) (by rw [h14]; rfl) (by decide) ?_
            refine ax_lump ax_layM ok_kX3 [(185, .bipush (-100), 2, 0, 0, 0)] (pc' := 187) (lc' := [(0, (2, 3, 0)), (1, (0, 0, x1)), (2, (0, 0, z7)), (3, (0, 0, z8))]) (st' := [(0, 0, (-100))]) (M' := M1) (C' := True) (by decide +kernel) rfl trivial ?_
            refine ax_rngS (fun hr => ?_)
            exact ax_iret (by decide +kernel) rfl ⟨rfl, rfl, hr.1, hr.2⟩
          · refine ax_ite (fun h15 => ?_) (fun h15 => ?_)
            · refine ax_swIn (dflt := 100) (lo := 0) (hi := 12) (off := 100) (offs := #[67, 100, 100, 100, 100, 100, 100, 69, 71, 80, 85, 90, 95]) (len := 67) (tgt := 185) (by decide +kernel) (by omega) (by omega) (by rw [h15]; rfl) (by decide) ?_
              refine ax_lump ax_layM ok_kX3 [(185, .bipush (-100), 2, 0, 0, 0)] (pc' := 187) (lc' := [(0, (2, 3, 0)), (1, (0, 0, x1)), (2, (0, 0, z7)), (3, (0, 0, z8))]) (st' := [(0, 0, (-100))]) (M' := M1) (C' := True) (by decide +kernel) rfl trivial ?_
              refine ax_rngS (fun hr => ?_)
              exact ax_iret (by decide +kernel) rfl ⟨rfl, rfl, hr.1, hr.2⟩
            · refine ax_ite (fun h16 => ?_) (fun h16 => ?_)
              · refine ax_swIn (dflt := 100) (lo := 0) (hi := 12) (off := 100) (offs := #[67, 100, 100, 100, 100, 100, 100, 69, 71, 80, 85, 90, 95]) (len := 67) (tgt := 185) (by decide +kernel) (by omega) (by omega) (by rw [h16]; rfl) (by decide) ?_
                refine ax_lump ax_layM ok_kX3 [(185, .bipush (-100), 2, 0, 0, 0)] (pc' := 187) (lc' := [(0, (2, 3, 0)), (1, (0, 0, x1)), (2, (0, 0, z7)), (3, (0, 0, z8))]) (st' := [(0, 0, (-100))]) (M' := M1) (C' := True) (by decide +kernel) rfl trivial ?_
                refine ax_rngS (fun hr => ?_)
                exact ax_iret (by decide +kernel) rfl ⟨rfl, rfl, hr.1, hr.2⟩
              · refine ax_ite (fun h17 => ?_) (fun h17 => ?_)
                · refine ax_swIn (dflt := 100) (lo := 0) (hi := 12) (off := 100) (offs := #[67, 100, 100, 100, 100, 100, 100, 69, 71, 80, 85, 90, 95]) (len := 67) (tgt := 185) (by decide +kernel) (by omega) (by omega) (by rw [h17]; rfl) (by decide) ?_
                  refine ax_lump ax_layM ok_kX3 [(185, .bipush (-100), 2, 0, 0, 0)] (pc' := 187) (lc' := [(0, (2, 3, 0)), (1, (0, 0, x1)), (2, (0, 0, z7)), (3, (0, 0, z8))]) (st' := [(0, 0, (-100))]) (M' := M1) (C' := True) (by decide +kernel) rfl trivial ?_
                  refine ax_rngS (fun hr => ?_)
                  exact ax_iret (by decide +kernel) rfl ⟨rfl, rfl, hr.1, hr.2⟩
                · refine ax_ite (fun h18 => ?_) (fun h18 => ?_)
                  · refine ax_swIn (dflt := 100) (lo := 0) (hi := 12) (off := 69) (offs := #[67, 100, 100, 100, 100, 100, 100, 69, 71, 80, 85, 90, 95]) (len := 67) (tgt := 154) (by decide +kernel) (by omega) (by omega) (by rw [h18]; rfl) (by decide) ?_
                    refine ax_lump ax_layM ok_kX3 [(154, .iload_n 3, 1, 0, 0, 0)] (pc' := 155) (lc' := [(0, (2, 3, 0)), (1, (0, 0, x1)), (2, (0, 0, z7)), (3, (0, 0, z8))]) (st' := [(0, 0, z8)]) (M' := M1) (C' := True) (by decide +kernel) rfl trivial ?_
                    refine ax_rngS (fun hr => ?_)
                    exact ax_iret (by decide +kernel) rfl ⟨rfl, rfl, hr.1, hr.2⟩
                  · refine ax_ite (fun h19 => ?_) (fun h19 => ?_)
                    · refine ax_swIn (dflt := 100) (lo := 0) (hi := 12) (off := 71) (offs := #[67, 100, 100, 100, 100, 100, 100, 69, 71, 80, 85, 90, 95]) (len := 67) (tgt := 156) (by decide +kernel) (by omega) (by omega) (by rw [h19]; rfl) (by decide) ?_
                      refine ax_lump ax_layM ok_kX3 [(156, .aload_n 0, 1, 0, 0, 0), (157, .getfield 138, 3, 3, 14, 0), (160, .sipush 270, 3, 0, 0, 0), (163, .iaload, 1, 0, 0, 0)] (pc' := 164) (lc' := [(0, (2, 3, 0)), (1, (0, 0, x1)), (2, (0, 0, z7)), (3, (0, 0, z8))]) (st' := [(0, 0, (M1 7 270))]) (M' := M1) (C' := (True ∧ (0 ≤ 270 ∧ 270 < ((274 : Nat) : Int)))) (by decide +kernel) rfl ⟨trivial, by omega⟩ ?_
                      refine ax_rngS (fun hr => ?_)
                      exact ax_iret (by decide +kernel) rfl ⟨rfl, rfl, hr.1, hr.2⟩
                    · refine ax_ite (fun h20 => ?_) (fun h20 => ?_)
                      · refine ax_swIn (dflt := 100) (lo := 0) (hi := 12) (off := 80) (offs := #[67, 100, 100, 100, 100, 100, 100, 69, 71, 80, 85, 90, 95]) (len := 67) (tgt := 165) (by decide +kernel) (by omega) (by omega) (by rw [h20]; rfl) (by decide) ?_
                        refine ax_fact (i := 0) (c := 3) (f := 32) (hi := 12) (s := 0) (by simp) rfl rfl rfl (fun hf21 => ?_)
                        have hf21 : 0 ≤ (M1 0 32) ∧ (M1 0 32) ≤ 12 := hf21
                        refine ax_lump ax_layM ok_kX3 [(165, .aload_n 0, 1, 0, 0, 0), (166, .getfield 437, 3, 3, 32, 0)] (pc' := 169) (lc' := [(0, (2, 3, 0)), (1, (0, 0, x1)), (2, (0, 0, z7)), (3, (0, 0, z8))]) (st' := [(0, 0, (M1 0 32))]) (M' := M1) (C' := True) (by decide +kernel) rfl trivial ?_
                        refine ax_rngS (fun hr => ?_)
                        exact ax_iret (by decide +kernel) rfl ⟨rfl, rfl, hr.1, hr.2⟩
                      · refine ax_ite (fun h22 => ?_) (fun h22 => ?_)
                        · refine ax_swIn (dflt := 100) (lo := 0) (hi := 12) (off := 85) (offs := #[67, 100, 100, 100, 100, 100, 100, 69, 71, 80, 85, 90, 95]) (len := 67) (tgt := 170) (by decide +kernel) (by omega) (by omega) (by rw [h22]; rfl) (by decide) ?_
                          refine ax_fact (i := 0) (c := 3) (f := 24) (hi := 9) (s := 0) (by simp) rfl rfl rfl (fun hf23 => ?_)
                          have hf23 : 0 ≤ (M1 0 24) ∧ (M1 0 24) ≤ 9 := hf23
                          refine ax_lump ax_layM ok_kX3 [(170, .aload_n 0, 1, 0, 0, 0), (171, .getfield 318, 3, 3, 24, 0)] (pc' := 174) (lc' := [(0, (2, 3, 0)), (1, (0, 0, x1)), (2, (0, 0, z7)), (3, (0, 0, z8))]) (st' := [(0, 0, (M1 0 24))]) (M' := M1) (C' := True) (by decide +kernel) rfl trivial ?_
                          refine ax_rngS (fun hr => ?_)
                          exact ax_iret (by decide +kernel) rfl ⟨rfl, rfl, hr.1, hr.2⟩
                        · refine ax_ite (fun h24 => ?_) (fun h24 => ?_)
                          · refine ax_swIn (dflt := 100) (lo := 0) (hi := 12) (off := 90) (offs := #[67, 100, 100, 100, 100, 100, 100, 69, 71, 80, 85, 90, 95]) (len := 67) (tgt := 175) (by decide +kernel) (by omega) (by omega) (by rw [h24]; rfl) (by decide) ?_
                            refine ax_fact (i := 0) (c := 3) (f := 1) (hi := 24) (s := 0) (by simp) rfl rfl rfl (fun hf25 => ?_)
                            have hf25 : 0 ≤ (M1 0 1) ∧ (M1 0 1) ≤ 24 := hf25
                            refine ax_lump ax_layM ok_kX3 [(175, .aload_n 0, 1, 0, 0, 0), (176, .getfield 15, 3, 3, 1, 0)] (pc' := 179) (lc' := [(0, (2, 3, 0)), (1, (0, 0, x1)), (2, (0, 0, z7)), (3, (0, 0, z8))]) (st' := [(0, 0, (M1 0 1))]) (M' := M1) (C' := True) (by decide +kernel) rfl trivial ?_
                            refine ax_rngS (fun hr => ?_)
                            exact ax_iret (by decide +kernel) rfl ⟨rfl, rfl, hr.1, hr.2⟩
                          · refine ax_ite (fun h26 => ?_) (fun h26 => ?_)
                            · refine ax_swIn (dflt := 100) (lo := 0) (hi := 12) (off := 95) (offs := #[67, 100, 100, 100, 100, 100, 100, 69, 71, 80, 85, 90, 95]) (len := 67) (tgt := 180) (by decide +kernel) (by omega) (by omega) (by rw [h26]; rfl) (by decide) ?_
                              refine ax_fact (i := 0) (c := 3) (f := 4) (hi := 80) (s := 0) (by simp) rfl rfl rfl (fun hf27 => ?_)
                              have hf27 : 0 ≤ (M1 0 4) ∧ (M1 0 4) ≤ 80 := hf27
                              refine ax_lump ax_layM ok_kX3 [(180, .aload_n 0, 1, 0, 0, 0), (181, .getfield 18, 3, 3, 4, 0)] (pc' := 184) (lc' := [(0, (2, 3, 0)), (1, (0, 0, x1)), (2, (0, 0, z7)), (3, (0, 0, z8))]) (st' := [(0, 0, (M1 0 4))]) (M' := M1) (C' := True) (by decide +kernel) rfl trivial ?_
                              refine ax_rngS (fun hr => ?_)
                              exact ax_iret (by decide +kernel) rfl ⟨rfl, rfl, hr.1, hr.2⟩
                            · refine ax_swOut (dflt := 100) (lo := 0) (hi := 12) (offs := #[67, 100, 100, 100, 100, 100, 100, 69, 71, 80, 85, 90, 95]) (len := 67) (tgt := 185) (by decide +kernel) (by omega) (by decide) ?_
                              refine ax_lump ax_layM ok_kX3 [(185, .bipush (-100), 2, 0, 0, 0)] (pc' := 187) (lc' := [(0, (2, 3, 0)), (1, (0, 0, x1)), (2, (0, 0, z7)), (3, (0, 0, z8))]) (st' := [(0, 0, (-100))]) (M' := M1) (C' := True) (by decide +kernel) rfl trivial ?_
                              refine ax_rngS (fun hr => ?_)
                              exact ax_iret (by decide +kernel) rfl ⟨rfl, rfl, hr.1, hr.2⟩
  · have hgh10 := g_X3_in h10
    refine ax_lump ax_layM ok_kX3 [(71, .aload_n 0, 1, 0, 0, 0), (72, .getfield 138, 3, 3, 14, 0), (75, .sipush 264, 3, 0, 0, 0), (78, .iload_n 1, 1, 0, 0, 0), (79, .iadd, 1, 1, 0, 0), (80, .iconst 1, 1, 0, 0, 0), (81, .isub, 1, 1, 0, 0), (82, .iaload, 1, 0, 0, 0)] (pc' := 83) (lc' := [(0, (2, 3, 0)), (1, (0, 0, x1)), (2, (0, 0, z7)), (3, (0, 0, z8))]) (st' := [(0, 0, (M1 7 ((264 + x1) - 1).toNat))]) (M' := M1) (C' := (((True ∧ ax_r32 (264 + x1)) ∧ ax_r32 ((264 + x1) - 1)) ∧ (0 ≤ ((264 + x1) - 1) ∧ ((264 + x1) - 1) < ((274 : Nat) : Int)))) (by decide +kernel) rfl ⟨⟨⟨trivial, ⟨by omega, by omega⟩⟩, ⟨by omega, by omega⟩⟩, by omega⟩ ?_
    refine ax_rngS (fun hr => ?_)
    exact ax_iret (by decide +kernel) rfl ⟨rfl, rfl, hr.1, hr.2⟩
def ax_qn (x : Int × ax_M) : Option ax_V → ax_M → Prop := fun r M1 => r = some (1, 0, x.1) ∧ M1 = x.2
def f_X3_row (x1 : Int) (M : ax_M) : Int × ax_M := ax_bd (ax_up M 0 0 0) (fun M1 => (if (f_X3_in x1 0 ((M1 0 1) - 1) M1) ≠ 0 then ((M1 1 x1.toNat), M1) else ax_bd (ax_up M1 0 0 1) (fun M5 => (0, M5))))
set_option maxRecDepth 100000 in
set_option maxHeartbeats 4000000 in
theorem c_X3_row (d : Nat) (x1 : Int) (M : ax_M)  : ax_Met ax_LM gX3_row (d + 1) [(2, 3, 0), (0, 0, x1)] M (ax_qn (f_X3_row x1 M)) := by
  refine ax_body (by decide) (fun X => Nat.le_of_ble_eq_true rfl) (fun hok => ?_)
  have hr_x1 : (-2147483648) ≤ x1 ∧ x1 ≤ 2147483647 := hok (0, 0, x1) (by simp)
  show ax_W ax_LM gX3_row (d + 1) 0 [(0, (2, 3, 0)), (1, (0, 0, x1))] [] M _
  unfold f_X3_row
  refine ax_lump ax_layM ok_kX3 [(0, .aload_n 0, 1, 0, 0, 0), (1, .iconst 0, 1, 0, 0, 0), (2, .putfield 3, 3, 3, 0, 0)] (pc' := 5) (lc' := [(0, (2, 3, 0)), (1, (0, 0, x1))]) (st' := []) (M' := (ax_up M 0 0 0)) (C' := (True ∧ (0 ≤ 0 ∧ 0 < ((2 : Nat) : Int)))) (by decide +kernel) rfl ⟨trivial, by omega⟩ ?_
  refine ax_bdMe (fun M1 hM_M1 => ?_)
  refine ax_fact (i := 0) (c := 3) (f := 1) (hi := 24) (s := 0) (by simp) rfl rfl rfl (fun hf2 => ?_)
  have hf2 : 0 ≤ (M1 0 1) ∧ (M1 0 1) ≤ 24 := hf2
  refine ax_lump ax_layM ok_kX3 [(5, .iload_n 1, 1, 0, 0, 0), (6, .i2l, 1, 0, 0, 0), (7, .lconst 0, 1, 0, 0, 0), (8, .aload_n 0, 1, 0, 0, 0), (9, .getfield 15, 3, 3, 1, 0), (12, .iconst 1, 1, 0, 0, 0), (13, .isub, 1, 1, 0, 0), (14, .i2l, 1, 0, 0, 0)] (pc' := 15) (lc' := [(0, (2, 3, 0)), (1, (0, 0, x1))]) (st' := [(1, 0, ((M1 0 1) - 1)), (1, 0, 0), (1, 0, x1)]) (M' := M1) (C' := (True ∧ ax_r32 ((M1 0 1) - 1))) (by decide +kernel) rfl ⟨trivial, ⟨by omega, by omega⟩⟩ ?_
  refine ax_cSi (G1 := gX3_in) (d1 := d + 0) (i := 25) (n := 3) (as := [(1, 0, x1), (1, 0, 0), (1, 0, ((M1 0 1) - 1))]) (st := []) (by decide +kernel) calX3_in (by omega) rfl wt_875 wt_876 (Nat.le_of_ble_eq_true rfl) rfl (c_X3_in d x1 0 ((M1 0 1) - 1) M1) (fun hc3 => ?_)
  refine ax_zne (off := 10) (tgt := 28) (by decide +kernel) (by decide) (fun h4 => ?_) (fun h4 => ?_)
  · have hgh4 := g_X3_in h4
    refine ax_lump ax_layM ok_kX3 [(28, .aload_n 0, 1, 0, 0, 0), (29, .getfield 11, 3, 3, 2, 0), (32, .iload_n 1, 1, 0, 0, 0), (33, .laload, 1, 0, 0, 0)] (pc' := 34) (lc' := [(0, (2, 3, 0)), (1, (0, 0, x1))]) (st' := [(1, 0, (M1 1 x1.toNat))]) (M' := M1) (C' := (True ∧ (0 ≤ x1 ∧ x1 < ((24 : Nat) : Int)))) (by decide +kernel) rfl ⟨trivial, by omega⟩ ?_
    exact ax_lret (by decide +kernel) rfl ⟨rfl, rfl⟩
  · refine ax_lump ax_layM ok_kX3 [(21, .aload_n 0, 1, 0, 0, 0), (22, .iconst 1, 1, 0, 0, 0), (23, .putfield 3, 3, 3, 0, 0)] (pc' := 26) (lc' := [(0, (2, 3, 0)), (1, (0, 0, x1))]) (st' := []) (M' := (ax_up M1 0 0 1)) (C' := (True ∧ (0 ≤ 1 ∧ 1 < ((2 : Nat) : Int)))) (by decide +kernel) rfl ⟨trivial, by omega⟩ ?_
    refine ax_bdMe (fun M5 hM_M5 => ?_)
    have hk_k6 : (M5 0 1) = (M1 0 1) := by rw [hM_M5]; exact ax_up_o2 (by decide)
    refine ax_lump ax_layM ok_kX3 [(26, .lconst 0, 1, 0, 0, 0)] (pc' := 27) (lc' := [(0, (2, 3, 0)), (1, (0, 0, x1))]) (st' := [(1, 0, 0)]) (M' := M5) (C' := True) (by decide +kernel) rfl trivial ?_
    exact ax_lret (by decide +kernel) rfl ⟨rfl, rfl⟩
def f_X0_carryPart (n0 : Nat) (a0 : Nat) (n1 : Nat) (a1 : Nat) (x2 : Int) (x3 : Int) (M : ax_M) : Int × ax_M := (if x2 < 0 then (x2, M) else (if x2 ≤ ((n1 : Int) - (n0 : Int)) then (if x3 = 0 then ax_bd (ax_cp M a1 x2.toNat a0 0 (n0 : Int).toNat) (fun M4 => ((x2 + (n0 : Int)), M4)) else ax_bd (ax_cp M a0 0 a1 x2.toNat (n0 : Int).toNat) (fun M5 => ((x2 + (n0 : Int)), M5))) else (x2, M)))
set_option maxRecDepth 100000 in
set_option maxHeartbeats 4000000 in
theorem c_X0_carryPart (d : Nat) (n0 : Nat) (a0 : Nat) (n1 : Nat) (a1 : Nat) (x2 : Int) (x3 : Int) (M : ax_M) (hl_n0 : (n0 : Int) ≤ 100000) (hl_n1 : (n1 : Int) ≤ 100000) (hp3 : 0 ≤ x3 ∧ x3 ≤ 1) : ax_Met ax_LC gX0_carryPart (d + 1) [(3, n0, (a0 : Int)), (3, n1, (a1 : Int)), (0, 0, x2), (0, 0, x3)] M ((ax_qm (-2147483648) 2147483647) (f_X0_carryPart n0 a0 n1 a1 x2 x3 M)) := by
  refine ax_body (by decide) (fun X => Nat.le_of_ble_eq_true rfl) (fun hok => ?_)
  have hr_x2 : (-2147483648) ≤ x2 ∧ x2 ≤ 2147483647 := hok (0, 0, x2) (by simp)
  have hr_x3 : (-2147483648) ≤ x3 ∧ x3 ≤ 2147483647 := hok (0, 0, x3) (by simp)
  show ax_W ax_LC gX0_carryPart (d + 1) 0 [(0, (3, n0, (a0 : Int))), (1, (3, n1, (a1 : Int))), (2, (0, 0, x2)), (3, (0, 0, x3))] [] M _
  unfold f_X0_carryPart
  refine ax_lump ax_layC ok_kX0 [(0, .iload_n 2, 1, 0, 0, 0)] (pc' := 1) (lc' := [(0, (3, n0, (a0 : Int))), (1, (3, n1, (a1 : Int))), (2, (0, 0, x2)), (3, (0, 0, x3))]) (st' := [(0, 0, x2)]) (M' := M) (C' := True) (by decide +kernel) rfl trivial ?_
  refine ax_zlt (off := 12) (tgt := 13) (by decide +kernel) (by decide) (fun h1 => ?_) (fun h1 => ?_)
  · refine ax_lump ax_layC ok_kX0 [(13, .iload_n 2, 1, 0, 0, 0)] (pc' := 14) (lc' := [(0, (3, n0, (a0 : Int))), (1, (3, n1, (a1 : Int))), (2, (0, 0, x2)), (3, (0, 0, x3))]) (st' := [(0, 0, x2)]) (M' := M) (C' := True) (by decide +kernel) rfl trivial ?_
    refine ax_rngS (fun hr => ?_)
    exact ax_iret (by decide +kernel) rfl ⟨rfl, rfl, hr.1, hr.2⟩
  · refine ax_lump ax_layC ok_kX0 [(4, .iload_n 2, 1, 0, 0, 0), (5, .aload_n 1, 1, 0, 0, 0), (6, .arraylength, 1, 0, 0, 0), (7, .aload_n 0, 1, 0, 0, 0), (8, .arraylength, 1, 0, 0, 0), (9, .isub, 1, 1, 0, 0)] (pc' := 10) (lc' := [(0, (3, n0, (a0 : Int))), (1, (3, n1, (a1 : Int))), (2, (0, 0, x2)), (3, (0, 0, x3))]) (st' := [(0, 0, ((n1 : Int) - (n0 : Int))), (0, 0, x2)]) (M' := M) (C' := (((True ∧ ((n1 : Nat) : Int) ≤ 2147483647) ∧ ((n0 : Nat) : Int) ≤ 2147483647) ∧ ax_r32 ((n1 : Int) - (n0 : Int)))) (by decide +kernel) rfl ⟨⟨⟨trivial, by omega⟩, by omega⟩, ⟨by omega, by omega⟩⟩ ?_
    refine ax_jle (off := 5) (tgt := 15) (by decide +kernel) (by decide) (fun h2 => ?_) (fun h2 => ?_)
    · refine ax_lump ax_layC ok_kX0 [(15, .iload_n 3, 1, 0, 0, 0)] (pc' := 16) (lc' := [(0, (3, n0, (a0 : Int))), (1, (3, n1, (a1 : Int))), (2, (0, 0, x2)), (3, (0, 0, x3))]) (st' := [(0, 0, x3)]) (M' := M) (C' := True) (by decide +kernel) rfl trivial ?_
      refine ax_zeq (off := 15) (tgt := 31) (by decide +kernel) (by decide) (fun h3 => ?_) (fun h3 => ?_)
      · refine ax_lump ax_layC ok_kX0 [(31, .aload_n 1, 1, 0, 0, 0), (32, .iload_n 2, 1, 0, 0, 0), (33, .aload_n 0, 1, 0, 0, 0), (34, .iconst 0, 1, 0, 0, 0), (35, .aload_n 0, 1, 0, 0, 0), (36, .arraylength, 1, 0, 0, 0)] (pc' := 37) (lc' := [(0, (3, n0, (a0 : Int))), (1, (3, n1, (a1 : Int))), (2, (0, 0, x2)), (3, (0, 0, x3))]) (st' := [(0, 0, (n0 : Int)), (0, 0, 0), (3, n0, (a0 : Int)), (0, 0, x2), (3, n1, (a1 : Int))]) (M' := M) (C' := (True ∧ ((n0 : Nat) : Int) ≤ 2147483647)) (by decide +kernel) rfl ⟨trivial, by omega⟩ ?_
        refine ax_copy (i := 85) (by decide +kernel) (by omega) (Nat.le_of_ble_eq_true rfl) wt_359 wt_361 wt_360 wt_16 (by omega) ?_
        refine ax_bdMe (fun M4 hM_M4 => ?_)
        refine ax_lump ax_layC ok_kX0 [(40, .iload_n 2, 1, 0, 0, 0), (41, .aload_n 0, 1, 0, 0, 0), (42, .arraylength, 1, 0, 0, 0), (43, .iadd, 1, 1, 0, 0)] (pc' := 44) (lc' := [(0, (3, n0, (a0 : Int))), (1, (3, n1, (a1 : Int))), (2, (0, 0, x2)), (3, (0, 0, x3))]) (st' := [(0, 0, (x2 + (n0 : Int)))]) (M' := M4) (C' := ((True ∧ ((n0 : Nat) : Int) ≤ 2147483647) ∧ ax_r32 (x2 + (n0 : Int)))) (by decide +kernel) rfl ⟨⟨trivial, by omega⟩, ⟨by omega, by omega⟩⟩ ?_
        refine ax_rngS (fun hr => ?_)
        exact ax_iret (by decide +kernel) rfl ⟨rfl, rfl, hr.1, hr.2⟩
      · refine ax_lump ax_layC ok_kX0 [(19, .aload_n 0, 1, 0, 0, 0), (20, .iconst 0, 1, 0, 0, 0), (21, .aload_n 1, 1, 0, 0, 0), (22, .iload_n 2, 1, 0, 0, 0), (23, .aload_n 0, 1, 0, 0, 0), (24, .arraylength, 1, 0, 0, 0)] (pc' := 25) (lc' := [(0, (3, n0, (a0 : Int))), (1, (3, n1, (a1 : Int))), (2, (0, 0, x2)), (3, (0, 0, x3))]) (st' := [(0, 0, (n0 : Int)), (0, 0, x2), (3, n1, (a1 : Int)), (0, 0, 0), (3, n0, (a0 : Int))]) (M' := M) (C' := (True ∧ ((n0 : Nat) : Int) ≤ 2147483647)) (by decide +kernel) rfl ⟨trivial, by omega⟩ ?_
        refine ax_copy (i := 85) (by decide +kernel) (by omega) (Nat.le_of_ble_eq_true rfl) wt_359 wt_361 wt_360 wt_16 (by omega) ?_
        refine ax_bdMe (fun M5 hM_M5 => ?_)
        refine ax_lump ax_layC ok_kX0 [(28, .goto 12, 3, 40, 0, 0), (40, .iload_n 2, 1, 0, 0, 0), (41, .aload_n 0, 1, 0, 0, 0), (42, .arraylength, 1, 0, 0, 0), (43, .iadd, 1, 1, 0, 0)] (pc' := 44) (lc' := [(0, (3, n0, (a0 : Int))), (1, (3, n1, (a1 : Int))), (2, (0, 0, x2)), (3, (0, 0, x3))]) (st' := [(0, 0, (x2 + (n0 : Int)))]) (M' := M5) (C' := ((True ∧ ((n0 : Nat) : Int) ≤ 2147483647) ∧ ax_r32 (x2 + (n0 : Int)))) (by decide +kernel) rfl ⟨⟨trivial, by omega⟩, ⟨by omega, by omega⟩⟩ ?_
        refine ax_rngS (fun hr => ?_)
        exact ax_iret (by decide +kernel) rfl ⟨rfl, rfl, hr.1, hr.2⟩
    · refine ax_lump ax_layC ok_kX0 [(13, .iload_n 2, 1, 0, 0, 0)] (pc' := 14) (lc' := [(0, (3, n0, (a0 : Int))), (1, (3, n1, (a1 : Int))), (2, (0, 0, x2)), (3, (0, 0, x3))]) (st' := [(0, 0, x2)]) (M' := M) (C' := True) (by decide +kernel) rfl trivial ?_
      refine ax_rngS (fun hr => ?_)
      exact ax_iret (by decide +kernel) rfl ⟨rfl, rfl, hr.1, hr.2⟩
def f_X0_mark (b : Nat) (M : ax_M) : ax_M := ax_bd (ax_cp M (b + 9) 0 (b + 10) 0 7) (fun M1 => M1)
set_option maxRecDepth 100000 in
set_option maxHeartbeats 4000000 in
theorem c_X0_mark (d : Nat) (b : Nat) (M : ax_M)  : ax_Met ax_LC gX0_mark (d + 1) [(2, 0, (b : Int))] M (ax_qv (f_X0_mark b M)) := by
  refine ax_body (by decide) (fun X => Nat.le_of_ble_eq_true rfl) (fun hok => ?_)
  show ax_W ax_LC gX0_mark (d + 1) 0 [(0, (2, 0, (b : Int)))] [] M _
  unfold f_X0_mark
  refine ax_lump ax_layC ok_kX0 [(0, .aload_n 0, 1, 0, 0, 0), (1, .getfield 36, 3, 0, 8, 0), (4, .iconst 0, 1, 0, 0, 0), (5, .aload_n 0, 1, 0, 0, 0), (6, .getfield 39, 3, 0, 9, 0), (9, .iconst 0, 1, 0, 0, 0), (10, .bipush 7, 2, 0, 0, 0)] (pc' := 12) (lc' := [(0, (2, 0, (b : Int)))]) (st' := [(0, 0, 7), (0, 0, 0), (3, 7, ((b : Int) + 10)), (0, 0, 0), (3, 7, ((b : Int) + 9))]) (M' := M) (C' := True) (by decide +kernel) rfl trivial ?_
  refine ax_copy (i := 85) (by decide +kernel) (by omega) (Nat.le_of_ble_eq_true rfl) wt_359 wt_361 wt_360 wt_16 (by omega) ?_
  refine ax_bdMe (fun M1 hM_M1 => ?_)
  exact ax_vret (by decide +kernel) rfl ⟨rfl, rfl⟩
def f_X0_since (b : Nat) (x1 : Int) (M : ax_M) : Int := (if x1 < 0 then 0 else (if x1 < 7 then (ax_wr ((M (b + 9) x1.toNat) - (M (b + 10) x1.toNat))) else 0))
set_option maxRecDepth 100000 in
set_option maxHeartbeats 4000000 in
theorem c_X0_since (d : Nat) (b : Nat) (x1 : Int) (M : ax_M)  : ax_Met ax_LC gX0_since (d + 0) [(2, 0, (b : Int)), (0, 0, x1)] M ((ax_qi (-2147483648) 2147483647 M) (f_X0_since b x1 M)) := by
  refine ax_body (by decide) (fun X => Nat.le_of_ble_eq_true rfl) (fun hok => ?_)
  have hr_x1 : (-2147483648) ≤ x1 ∧ x1 ≤ 2147483647 := hok (0, 0, x1) (by simp)
  show ax_W ax_LC gX0_since (d + 0) 0 [(0, (2, 0, (b : Int))), (1, (0, 0, x1))] [] M _
  unfold f_X0_since
  refine ax_lump ax_layC ok_kX0 [(0, .iload_n 1, 1, 0, 0, 0)] (pc' := 1) (lc' := [(0, (2, 0, (b : Int))), (1, (0, 0, x1))]) (st' := [(0, 0, x1)]) (M' := M) (C' := True) (by decide +kernel) rfl trivial ?_
  refine ax_zlt (off := 9) (tgt := 10) (by decide +kernel) (by decide) (fun h1 => ?_) (fun h1 => ?_)
  · refine ax_lump ax_layC ok_kX0 [(10, .iconst 0, 1, 0, 0, 0), (11, .goto 16, 3, 27, 0, 0)] (pc' := 27) (lc' := [(0, (2, 0, (b : Int))), (1, (0, 0, x1))]) (st' := [(0, 0, 0)]) (M' := M) (C' := True) (by decide +kernel) rfl trivial ?_
    refine ax_rngS (fun hr => ?_)
    exact ax_iret (by decide +kernel) rfl ⟨rfl, rfl, hr.1, hr.2⟩
  · refine ax_lump ax_layC ok_kX0 [(4, .iload_n 1, 1, 0, 0, 0), (5, .bipush 7, 2, 0, 0, 0)] (pc' := 7) (lc' := [(0, (2, 0, (b : Int))), (1, (0, 0, x1))]) (st' := [(0, 0, 7), (0, 0, x1)]) (M' := M) (C' := True) (by decide +kernel) rfl trivial ?_
    refine ax_jlt (off := 7) (tgt := 14) (by decide +kernel) (by decide) (fun h2 => ?_) (fun h2 => ?_)
    · refine ax_lump ax_layC ok_kX0 [(14, .aload_n 0, 1, 0, 0, 0), (15, .getfield 36, 3, 0, 8, 0), (18, .iload_n 1, 1, 0, 0, 0), (19, .iaload, 1, 0, 0, 0), (20, .aload_n 0, 1, 0, 0, 0), (21, .getfield 39, 3, 0, 9, 0), (24, .iload_n 1, 1, 0, 0, 0), (25, .iaload, 1, 0, 0, 0), (26, .isub, 1, 0, 0, 0)] (pc' := 27) (lc' := [(0, (2, 0, (b : Int))), (1, (0, 0, x1))]) (st' := [(0, 0, (ax_wr ((M (b + 9) x1.toNat) - (M (b + 10) x1.toNat))))]) (M' := M) (C' := ((True ∧ (0 ≤ x1 ∧ x1 < ((7 : Nat) : Int))) ∧ (0 ≤ x1 ∧ x1 < ((7 : Nat) : Int)))) (by decide +kernel) rfl ⟨⟨trivial, by omega⟩, by omega⟩ ?_
      refine ax_rngS (fun hr => ?_)
      exact ax_iret (by decide +kernel) rfl ⟨rfl, rfl, hr.1, hr.2⟩
    · refine ax_lump ax_layC ok_kX0 [(10, .iconst 0, 1, 0, 0, 0), (11, .goto 16, 3, 27, 0, 0)] (pc' := 27) (lc' := [(0, (2, 0, (b : Int))), (1, (0, 0, x1))]) (st' := [(0, 0, 0)]) (M' := M) (C' := True) (by decide +kernel) rfl trivial ?_
      refine ax_rngS (fun hr => ?_)
      exact ax_iret (by decide +kernel) rfl ⟨rfl, rfl, hr.1, hr.2⟩
def f_X0_countOne (b : Nat) (x1 : Int) (M : ax_M) : ax_M := (if x1 < 0 then M else (if 7 ≤ x1 then M else (if 99999 ≤ (M (b + 9) x1.toNat) then M else ax_bd (ax_up M (b + 9) x1.toNat (ax_wr ((M (b + 9) x1.toNat) + 1))) (fun M4 => M4))))
set_option maxRecDepth 100000 in
set_option maxHeartbeats 4000000 in
theorem c_X0_countOne (d : Nat) (b : Nat) (x1 : Int) (M : ax_M)  : ax_Met ax_LC gX0_countOne (d + 0) [(2, 0, (b : Int)), (0, 0, x1)] M (ax_qv (f_X0_countOne b x1 M)) := by
  refine ax_body (by decide) (fun X => Nat.le_of_ble_eq_true rfl) (fun hok => ?_)
  have hr_x1 : (-2147483648) ≤ x1 ∧ x1 ≤ 2147483647 := hok (0, 0, x1) (by simp)
  show ax_W ax_LC gX0_countOne (d + 0) 0 [(0, (2, 0, (b : Int))), (1, (0, 0, x1))] [] M _
  unfold f_X0_countOne
  refine ax_lump ax_layC ok_kX0 [(0, .iload_n 1, 1, 0, 0, 0)] (pc' := 1) (lc' := [(0, (2, 0, (b : Int))), (1, (0, 0, x1))]) (st' := [(0, 0, x1)]) (M' := M) (C' := True) (by decide +kernel) rfl trivial ?_
  refine ax_zlt (off := 30) (tgt := 31) (by decide +kernel) (by decide) (fun h1 => ?_) (fun h1 => ?_)
  · exact ax_vret (by decide +kernel) rfl ⟨rfl, rfl⟩
  · refine ax_lump ax_layC ok_kX0 [(4, .iload_n 1, 1, 0, 0, 0), (5, .bipush 7, 2, 0, 0, 0)] (pc' := 7) (lc' := [(0, (2, 0, (b : Int))), (1, (0, 0, x1))]) (st' := [(0, 0, 7), (0, 0, x1)]) (M' := M) (C' := True) (by decide +kernel) rfl trivial ?_
    refine ax_jge (off := 24) (tgt := 31) (by decide +kernel) (by decide) (fun h2 => ?_) (fun h2 => ?_)
    · exact ax_vret (by decide +kernel) rfl ⟨rfl, rfl⟩
    · refine ax_lump ax_layC ok_kX0 [(10, .aload_n 0, 1, 0, 0, 0), (11, .getfield 36, 3, 0, 8, 0), (14, .iload_n 1, 1, 0, 0, 0), (15, .iaload, 1, 0, 0, 0), (16, .ldc 91, 2, 0, 0, 99999)] (pc' := 18) (lc' := [(0, (2, 0, (b : Int))), (1, (0, 0, x1))]) (st' := [(0, 0, 99999), (0, 0, (M (b + 9) x1.toNat))]) (M' := M) (C' := (True ∧ (0 ≤ x1 ∧ x1 < ((7 : Nat) : Int)))) (by decide +kernel) rfl ⟨trivial, by omega⟩ ?_
      refine ax_jge (off := 13) (tgt := 31) (by decide +kernel) (by decide) (fun h3 => ?_) (fun h3 => ?_)
      · exact ax_vret (by decide +kernel) rfl ⟨rfl, rfl⟩
      · refine ax_lump ax_layC ok_kX0 [(21, .aload_n 0, 1, 0, 0, 0), (22, .getfield 36, 3, 0, 8, 0), (25, .iload_n 1, 1, 0, 0, 0), (26, .dup2, 1, 0, 0, 0), (27, .iaload, 1, 0, 0, 0), (28, .iconst 1, 1, 0, 0, 0), (29, .iadd, 1, 0, 0, 0), (30, .iastore, 1, 0, 0, 0)] (pc' := 31) (lc' := [(0, (2, 0, (b : Int))), (1, (0, 0, x1))]) (st' := []) (M' := (ax_up M (b + 9) x1.toNat (ax_wr ((M (b + 9) x1.toNat) + 1)))) (C' := ((True ∧ (0 ≤ x1 ∧ x1 < ((7 : Nat) : Int))) ∧ (0 ≤ x1 ∧ x1 < ((7 : Nat) : Int)))) (by decide +kernel) rfl ⟨⟨trivial, by omega⟩, by omega⟩ ?_
        refine ax_bdMe (fun M4 hM_M4 => ?_)
        exact ax_vret (by decide +kernel) rfl ⟨rfl, rfl⟩
def f_X0_isEmptyAt (b : Nat) (x1 : Int) (M : ax_M) : Int := (if x1 < 0 then 0 else (if 64 ≤ x1 then 0 else (if (M (b + 1) x1.toNat) ≠ (-1) then 0 else 1)))
set_option maxRecDepth 100000 in
set_option maxHeartbeats 4000000 in
theorem c_X0_isEmptyAt (d : Nat) (b : Nat) (x1 : Int) (M : ax_M)  : ax_Met ax_LC gX0_isEmptyAt (d + 0) [(2, 0, (b : Int)), (0, 0, x1)] M ((ax_qi 0 1 M) (f_X0_isEmptyAt b x1 M)) := by
  refine ax_body (by decide) (fun X => Nat.le_of_ble_eq_true rfl) (fun hok => ?_)
  have hr_x1 : (-2147483648) ≤ x1 ∧ x1 ≤ 2147483647 := hok (0, 0, x1) (by simp)
  show ax_W ax_LC gX0_isEmptyAt (d + 0) 0 [(0, (2, 0, (b : Int))), (1, (0, 0, x1))] [] M _
  unfold f_X0_isEmptyAt
  refine ax_lump ax_layC ok_kX0 [(0, .iload_n 1, 1, 0, 0, 0)] (pc' := 1) (lc' := [(0, (2, 0, (b : Int))), (1, (0, 0, x1))]) (st' := [(0, 0, x1)]) (M' := M) (C' := True) (by decide +kernel) rfl trivial ?_
  refine ax_zlt (off := 23) (tgt := 24) (by decide +kernel) (by decide) (fun h1 => ?_) (fun h1 => ?_)
  · refine ax_lump ax_layC ok_kX0 [(24, .iconst 0, 1, 0, 0, 0)] (pc' := 25) (lc' := [(0, (2, 0, (b : Int))), (1, (0, 0, x1))]) (st' := [(0, 0, 0)]) (M' := M) (C' := True) (by decide +kernel) rfl trivial ?_
    exact ax_zret (by decide +kernel) rfl (by omega) ⟨rfl, rfl, (show (0 : Int) ≤ 0 from by omega), (show 0 ≤ (1 : Int) from by omega)⟩
  · refine ax_lump ax_layC ok_kX0 [(4, .iload_n 1, 1, 0, 0, 0), (5, .bipush 64, 2, 0, 0, 0)] (pc' := 7) (lc' := [(0, (2, 0, (b : Int))), (1, (0, 0, x1))]) (st' := [(0, 0, 64), (0, 0, x1)]) (M' := M) (C' := True) (by decide +kernel) rfl trivial ?_
    refine ax_jge (off := 17) (tgt := 24) (by decide +kernel) (by decide) (fun h2 => ?_) (fun h2 => ?_)
    · refine ax_lump ax_layC ok_kX0 [(24, .iconst 0, 1, 0, 0, 0)] (pc' := 25) (lc' := [(0, (2, 0, (b : Int))), (1, (0, 0, x1))]) (st' := [(0, 0, 0)]) (M' := M) (C' := True) (by decide +kernel) rfl trivial ?_
      exact ax_zret (by decide +kernel) rfl (by omega) ⟨rfl, rfl, (show (0 : Int) ≤ 0 from by omega), (show 0 ≤ (1 : Int) from by omega)⟩
    · refine ax_lump ax_layC ok_kX0 [(10, .aload_n 0, 1, 0, 0, 0), (11, .getfield 9, 3, 0, 0, 0), (14, .iload_n 1, 1, 0, 0, 0), (15, .iaload, 1, 0, 0, 0), (16, .iconst (-1), 1, 0, 0, 0)] (pc' := 17) (lc' := [(0, (2, 0, (b : Int))), (1, (0, 0, x1))]) (st' := [(0, 0, (-1)), (0, 0, (M (b + 1) x1.toNat))]) (M' := M) (C' := (True ∧ (0 ≤ x1 ∧ x1 < ((64 : Nat) : Int)))) (by decide +kernel) rfl ⟨trivial, by omega⟩ ?_
      refine ax_jne (off := 7) (tgt := 24) (by decide +kernel) (by decide) (fun h3 => ?_) (fun h3 => ?_)
      · refine ax_lump ax_layC ok_kX0 [(24, .iconst 0, 1, 0, 0, 0)] (pc' := 25) (lc' := [(0, (2, 0, (b : Int))), (1, (0, 0, x1))]) (st' := [(0, 0, 0)]) (M' := M) (C' := True) (by decide +kernel) rfl trivial ?_
        exact ax_zret (by decide +kernel) rfl (by omega) ⟨rfl, rfl, (show (0 : Int) ≤ 0 from by omega), (show 0 ≤ (1 : Int) from by omega)⟩
      · refine ax_lump ax_layC ok_kX0 [(20, .iconst 1, 1, 0, 0, 0), (21, .goto 4, 3, 25, 0, 0)] (pc' := 25) (lc' := [(0, (2, 0, (b : Int))), (1, (0, 0, x1))]) (st' := [(0, 0, 1)]) (M' := M) (C' := True) (by decide +kernel) rfl trivial ?_
        exact ax_zret (by decide +kernel) rfl (by omega) ⟨rfl, rfl, (show (0 : Int) ≤ 1 from by omega), (show 1 ≤ (1 : Int) from by omega)⟩
def f_X0_put (b : Nat) (x1 : Int) (x2 : Int) (x3 : Int) (x4 : Int) (M : ax_M) : ax_M := ax_bd (ax_up M b 11 (ax_wr ((M b 11) + 1))) (fun M1 => (if (M1 b 12) < (M1 b 11) then M1 else (if x1 < 0 then M1 else (if x1 < 64 then ax_bd (ax_up M1 (b + 1) x1.toNat x2) (fun M5 => ax_bd (ax_up M5 (b + 2) x1.toNat x3) (fun M8 => ax_bd (ax_up M8 (b + 3) x1.toNat x4) (fun M11 => M11))) else M1))))
set_option maxRecDepth 100000 in
set_option maxHeartbeats 4000000 in
theorem c_X0_put (d : Nat) (b : Nat) (x1 : Int) (x2 : Int) (x3 : Int) (x4 : Int) (M : ax_M)  : ax_Met ax_LC gX0_put (d + 0) [(2, 0, (b : Int)), (0, 0, x1), (0, 0, x2), (0, 0, x3), (0, 0, x4)] M (ax_qv (f_X0_put b x1 x2 x3 x4 M)) := by
  refine ax_body (by decide) (fun X => Nat.le_of_ble_eq_true rfl) (fun hok => ?_)
  have hr_x1 : (-2147483648) ≤ x1 ∧ x1 ≤ 2147483647 := hok (0, 0, x1) (by simp)
  have hr_x2 : (-2147483648) ≤ x2 ∧ x2 ≤ 2147483647 := hok (0, 0, x2) (by simp)
  have hr_x3 : (-2147483648) ≤ x3 ∧ x3 ≤ 2147483647 := hok (0, 0, x3) (by simp)
  have hr_x4 : (-2147483648) ≤ x4 ∧ x4 ≤ 2147483647 := hok (0, 0, x4) (by simp)
  show ax_W ax_LC gX0_put (d + 0) 0 [(0, (2, 0, (b : Int))), (1, (0, 0, x1)), (2, (0, 0, x2)), (3, (0, 0, x3)), (4, (0, 0, x4))] [] M _
  unfold f_X0_put
  refine ax_lump ax_layC ok_kX0 [(0, .aload_n 0, 1, 0, 0, 0), (1, .dup, 1, 0, 0, 0), (2, .getfield 47, 3, 0, 11, 0), (5, .iconst 1, 1, 0, 0, 0), (6, .iadd, 1, 0, 0, 0), (7, .putfield 47, 3, 0, 11, 0)] (pc' := 10) (lc' := [(0, (2, 0, (b : Int))), (1, (0, 0, x1)), (2, (0, 0, x2)), (3, (0, 0, x3)), (4, (0, 0, x4))]) (st' := []) (M' := (ax_up M b 11 (ax_wr ((M b 11) + 1)))) (C' := True) (by decide +kernel) rfl trivial ?_
  refine ax_bdMe (fun M1 hM_M1 => ?_)
  refine ax_lump ax_layC ok_kX0 [(10, .aload_n 0, 1, 0, 0, 0), (11, .getfield 47, 3, 0, 11, 0), (14, .aload_n 0, 1, 0, 0, 0), (15, .getfield 52, 3, 0, 12, 0)] (pc' := 18) (lc' := [(0, (2, 0, (b : Int))), (1, (0, 0, x1)), (2, (0, 0, x2)), (3, (0, 0, x3)), (4, (0, 0, x4))]) (st' := [(0, 0, (M1 b 12)), (0, 0, (M1 b 11))]) (M' := M1) (C' := True) (by decide +kernel) rfl trivial ?_
  refine ax_jgt (off := 13) (tgt := 31) (by decide +kernel) (by decide) (fun h2 => ?_) (fun h2 => ?_)
  · exact ax_vret (by decide +kernel) rfl ⟨rfl, rfl⟩
  · refine ax_lump ax_layC ok_kX0 [(21, .iload_n 1, 1, 0, 0, 0)] (pc' := 22) (lc' := [(0, (2, 0, (b : Int))), (1, (0, 0, x1)), (2, (0, 0, x2)), (3, (0, 0, x3)), (4, (0, 0, x4))]) (st' := [(0, 0, x1)]) (M' := M1) (C' := True) (by decide +kernel) rfl trivial ?_
    refine ax_zlt (off := 9) (tgt := 31) (by decide +kernel) (by decide) (fun h3 => ?_) (fun h3 => ?_)
    · exact ax_vret (by decide +kernel) rfl ⟨rfl, rfl⟩
    · refine ax_lump ax_layC ok_kX0 [(25, .iload_n 1, 1, 0, 0, 0), (26, .bipush 64, 2, 0, 0, 0)] (pc' := 28) (lc' := [(0, (2, 0, (b : Int))), (1, (0, 0, x1)), (2, (0, 0, x2)), (3, (0, 0, x3)), (4, (0, 0, x4))]) (st' := [(0, 0, 64), (0, 0, x1)]) (M' := M1) (C' := True) (by decide +kernel) rfl trivial ?_
      refine ax_jlt (off := 4) (tgt := 32) (by decide +kernel) (by decide) (fun h4 => ?_) (fun h4 => ?_)
      · refine ax_lump ax_layC ok_kX0 [(32, .aload_n 0, 1, 0, 0, 0), (33, .getfield 9, 3, 0, 0, 0), (36, .iload_n 1, 1, 0, 0, 0), (37, .iload_n 2, 1, 0, 0, 0), (38, .iastore, 1, 0, 0, 0)] (pc' := 39) (lc' := [(0, (2, 0, (b : Int))), (1, (0, 0, x1)), (2, (0, 0, x2)), (3, (0, 0, x3)), (4, (0, 0, x4))]) (st' := []) (M' := (ax_up M1 (b + 1) x1.toNat x2)) (C' := (True ∧ (0 ≤ x1 ∧ x1 < ((64 : Nat) : Int)))) (by decide +kernel) rfl ⟨trivial, by omega⟩ ?_
        refine ax_bdMe (fun M5 hM_M5 => ?_)
        have hk_k6 : (M5 b 11) = (M1 b 11) := by rw [hM_M5]; exact ax_up_o1 (by omega)
        have hk_k7 : (M5 b 12) = (M1 b 12) := by rw [hM_M5]; exact ax_up_o1 (by omega)
        refine ax_lump ax_layC ok_kX0 [(39, .aload_n 0, 1, 0, 0, 0), (40, .getfield 15, 3, 0, 1, 0), (43, .iload_n 1, 1, 0, 0, 0), (44, .iload_n 3, 1, 0, 0, 0), (45, .iastore, 1, 0, 0, 0)] (pc' := 46) (lc' := [(0, (2, 0, (b : Int))), (1, (0, 0, x1)), (2, (0, 0, x2)), (3, (0, 0, x3)), (4, (0, 0, x4))]) (st' := []) (M' := (ax_up M5 (b + 2) x1.toNat x3)) (C' := (True ∧ (0 ≤ x1 ∧ x1 < ((64 : Nat) : Int)))) (by decide +kernel) rfl ⟨trivial, by omega⟩ ?_
        refine ax_bdMe (fun M8 hM_M8 => ?_)
        have hk_k9 : (M8 b 11) = (M5 b 11) := by rw [hM_M8]; exact ax_up_o1 (by omega)
        have hk_k10 : (M8 b 12) = (M5 b 12) := by rw [hM_M8]; exact ax_up_o1 (by omega)
        refine ax_lump ax_layC ok_kX0 [(46, .aload_n 0, 1, 0, 0, 0), (47, .getfield 18, 3, 0, 2, 0), (50, .iload_n 1, 1, 0, 0, 0), (51, .iload 4, 2, 0, 0, 0), (53, .iastore, 1, 0, 0, 0)] (pc' := 54) (lc' := [(0, (2, 0, (b : Int))), (1, (0, 0, x1)), (2, (0, 0, x2)), (3, (0, 0, x3)), (4, (0, 0, x4))]) (st' := []) (M' := (ax_up M8 (b + 3) x1.toNat x4)) (C' := (True ∧ (0 ≤ x1 ∧ x1 < ((64 : Nat) : Int)))) (by decide +kernel) rfl ⟨trivial, by omega⟩ ?_
        refine ax_bdMe (fun M11 hM_M11 => ?_)
        have hk_k12 : (M11 b 11) = (M8 b 11) := by rw [hM_M11]; exact ax_up_o1 (by omega)
        have hk_k13 : (M11 b 12) = (M8 b 12) := by rw [hM_M11]; exact ax_up_o1 (by omega)
        exact ax_vret (by decide +kernel) rfl ⟨rfl, rfl⟩
      · exact ax_vret (by decide +kernel) rfl ⟨rfl, rfl⟩
def f_X0_copyLeaf (b : Nat) (x1 : Int) (x2 : Int) (M : ax_M) : ax_M := (if x1 < 0 then M else (if 64 ≤ x1 then M else (if (M (b + 1) x1.toNat) ≠ (-1) then ax_bd (f_X0_put b x2 (M (b + 1) x1.toNat) (M (b + 2) x1.toNat) (M (b + 3) x1.toNat) M) (fun M4 => ax_bd (f_X0_countOne b 2 M4) (fun M5 => M5)) else M)))
set_option maxRecDepth 100000 in
set_option maxHeartbeats 4000000 in
theorem c_X0_copyLeaf (d : Nat) (b : Nat) (x1 : Int) (x2 : Int) (M : ax_M)  : ax_Met ax_LC gX0_copyLeaf (d + 1) [(2, 0, (b : Int)), (0, 0, x1), (0, 0, x2)] M (ax_qv (f_X0_copyLeaf b x1 x2 M)) := by
  refine ax_body (by decide) (fun X => Nat.le_of_ble_eq_true rfl) (fun hok => ?_)
  have hr_x1 : (-2147483648) ≤ x1 ∧ x1 ≤ 2147483647 := hok (0, 0, x1) (by simp)
  have hr_x2 : (-2147483648) ≤ x2 ∧ x2 ≤ 2147483647 := hok (0, 0, x2) (by simp)
  show ax_W ax_LC gX0_copyLeaf (d + 1) 0 [(0, (2, 0, (b : Int))), (1, (0, 0, x1)), (2, (0, 0, x2))] [] M _
  unfold f_X0_copyLeaf
  refine ax_lump ax_layC ok_kX0 [(0, .iload_n 1, 1, 0, 0, 0)] (pc' := 1) (lc' := [(0, (2, 0, (b : Int))), (1, (0, 0, x1)), (2, (0, 0, x2))]) (st' := [(0, 0, x1)]) (M' := M) (C' := True) (by decide +kernel) rfl trivial ?_
  refine ax_zlt (off := 19) (tgt := 20) (by decide +kernel) (by decide) (fun h1 => ?_) (fun h1 => ?_)
  · exact ax_vret (by decide +kernel) rfl ⟨rfl, rfl⟩
  · refine ax_lump ax_layC ok_kX0 [(4, .iload_n 1, 1, 0, 0, 0), (5, .bipush 64, 2, 0, 0, 0)] (pc' := 7) (lc' := [(0, (2, 0, (b : Int))), (1, (0, 0, x1)), (2, (0, 0, x2))]) (st' := [(0, 0, 64), (0, 0, x1)]) (M' := M) (C' := True) (by decide +kernel) rfl trivial ?_
    refine ax_jge (off := 13) (tgt := 20) (by decide +kernel) (by decide) (fun h2 => ?_) (fun h2 => ?_)
    · exact ax_vret (by decide +kernel) rfl ⟨rfl, rfl⟩
    · refine ax_lump ax_layC ok_kX0 [(10, .aload_n 0, 1, 0, 0, 0), (11, .getfield 9, 3, 0, 0, 0), (14, .iload_n 1, 1, 0, 0, 0), (15, .iaload, 1, 0, 0, 0), (16, .iconst (-1), 1, 0, 0, 0)] (pc' := 17) (lc' := [(0, (2, 0, (b : Int))), (1, (0, 0, x1)), (2, (0, 0, x2))]) (st' := [(0, 0, (-1)), (0, 0, (M (b + 1) x1.toNat))]) (M' := M) (C' := (True ∧ (0 ≤ x1 ∧ x1 < ((64 : Nat) : Int)))) (by decide +kernel) rfl ⟨trivial, by omega⟩ ?_
      refine ax_jne (off := 4) (tgt := 21) (by decide +kernel) (by decide) (fun h3 => ?_) (fun h3 => ?_)
      · refine ax_lump ax_layC ok_kX0 [(21, .aload_n 0, 1, 0, 0, 0), (22, .iload_n 2, 1, 0, 0, 0), (23, .aload_n 0, 1, 0, 0, 0), (24, .getfield 9, 3, 0, 0, 0), (27, .iload_n 1, 1, 0, 0, 0), (28, .iaload, 1, 0, 0, 0), (29, .aload_n 0, 1, 0, 0, 0), (30, .getfield 15, 3, 0, 1, 0), (33, .iload_n 1, 1, 0, 0, 0), (34, .iaload, 1, 0, 0, 0), (35, .aload_n 0, 1, 0, 0, 0), (36, .getfield 18, 3, 0, 2, 0), (39, .iload_n 1, 1, 0, 0, 0), (40, .iaload, 1, 0, 0, 0)] (pc' := 41) (lc' := [(0, (2, 0, (b : Int))), (1, (0, 0, x1)), (2, (0, 0, x2))]) (st' := [(0, 0, (M (b + 3) x1.toNat)), (0, 0, (M (b + 2) x1.toNat)), (0, 0, (M (b + 1) x1.toNat)), (0, 0, x2), (2, 0, (b : Int))]) (M' := M) (C' := (((True ∧ (0 ≤ x1 ∧ x1 < ((64 : Nat) : Int))) ∧ (0 ≤ x1 ∧ x1 < ((64 : Nat) : Int))) ∧ (0 ≤ x1 ∧ x1 < ((64 : Nat) : Int)))) (by decide +kernel) rfl ⟨⟨⟨trivial, by omega⟩, by omega⟩, by omega⟩ ?_
        refine ax_cVv (G1 := gX0_put) (d1 := d + 0) (i := 92) (n := 4) (as := [(0, 0, x2), (0, 0, (M (b + 1) x1.toNat)), (0, 0, (M (b + 2) x1.toNat)), (0, 0, (M (b + 3) x1.toNat))]) (st := []) (c := 0) (a := (b : Int)) (by decide +kernel) ax_cls0 calX0_put (by omega) rfl wt_434 wt_436 ws_29 (Nat.le_of_ble_eq_true rfl) rfl (c_X0_put d b x2 (M (b + 1) x1.toNat) (M (b + 2) x1.toNat) (M (b + 3) x1.toNat) M) (fun M4 => ?_)
        refine ax_lump ax_layC ok_kX0 [(44, .aload_n 0, 1, 0, 0, 0), (45, .iconst 2, 1, 0, 0, 0)] (pc' := 46) (lc' := [(0, (2, 0, (b : Int))), (1, (0, 0, x1)), (2, (0, 0, x2))]) (st' := [(0, 0, 2), (2, 0, (b : Int))]) (M' := M4) (C' := True) (by decide +kernel) rfl trivial ?_
        refine ax_cVv (G1 := gX0_countOne) (d1 := d + 0) (i := 96) (n := 1) (as := [(0, 0, 2)]) (st := []) (c := 0) (a := (b : Int)) (by decide +kernel) ax_cls0 calX0_countOne (by omega) rfl wt_438 wt_440 ws_30 (Nat.le_of_ble_eq_true rfl) rfl (c_X0_countOne d b 2 M4) (fun M5 => ?_)
        exact ax_vret (by decide +kernel) rfl ⟨rfl, rfl⟩
      · exact ax_vret (by decide +kernel) rfl ⟨rfl, rfl⟩
def f_X0_wipe_J56 (b : Nat) (j1 : Int) (M : ax_M) : ax_M := ax_bd (ax_up M (b + 4) j1.toNat 0) (fun M5 => ax_bd (ax_up M5 (b + 5) j1.toNat 0) (fun M6 => ax_bd (ax_up M6 (b + 6) j1.toNat (if 999 < (ax_wr ((M6 (b + 6) j1.toNat) + 1)) then 999 else (ax_wr ((M6 (b + 6) j1.toNat) + 1)))) (fun M7 => ax_bd (ax_up M7 b 13 1) (fun M8 => ax_bd (f_X0_countOne b 3 M8) (fun M9 => M9)))))
set_option maxRecDepth 100000 in
set_option maxHeartbeats 4000000 in
theorem w_X0_wipe_J56 (d : Nat) (b : Nat) (j1 : Int) (M : ax_M) (hw_j1 : 0 ≤ j1 ∧ j1 ≤ 15) : ax_W ax_LC gX0_wipe (d + 1) 56 [(0, (2, 0, (b : Int))), (1, (0, 0, j1))] [] M (ax_qv (f_X0_wipe_J56 b j1 M)) := by
  unfold f_X0_wipe_J56
  refine ax_lump ax_layC ok_kX0 [(56, .aload_n 0, 1, 0, 0, 0), (57, .getfield 21, 3, 0, 3, 0), (60, .iload_n 1, 1, 0, 0, 0), (61, .iconst 0, 1, 0, 0, 0), (62, .iastore, 1, 0, 0, 0)] (pc' := 63) (lc' := [(0, (2, 0, (b : Int))), (1, (0, 0, j1))]) (st' := []) (M' := (ax_up M (b + 4) j1.toNat 0)) (C' := (True ∧ (0 ≤ j1 ∧ j1 < ((16 : Nat) : Int)))) (by decide +kernel) rfl ⟨trivial, by omega⟩ ?_
  refine ax_bdMe (fun M5 hM_M5 => ?_)
  refine ax_lump ax_layC ok_kX0 [(63, .aload_n 0, 1, 0, 0, 0), (64, .getfield 24, 3, 0, 4, 0), (67, .iload_n 1, 1, 0, 0, 0), (68, .iconst 0, 1, 0, 0, 0), (69, .iastore, 1, 0, 0, 0)] (pc' := 70) (lc' := [(0, (2, 0, (b : Int))), (1, (0, 0, j1))]) (st' := []) (M' := (ax_up M5 (b + 5) j1.toNat 0)) (C' := (True ∧ (0 ≤ j1 ∧ j1 < ((16 : Nat) : Int)))) (by decide +kernel) rfl ⟨trivial, by omega⟩ ?_
  refine ax_bdMe (fun M6 hM_M6 => ?_)
  refine ax_lump ax_layC ok_kX0 [(70, .aload_n 0, 1, 0, 0, 0), (71, .getfield 27, 3, 0, 5, 0), (74, .iload_n 1, 1, 0, 0, 0), (75, .aload_n 0, 1, 0, 0, 0), (76, .getfield 27, 3, 0, 5, 0), (79, .iload_n 1, 1, 0, 0, 0), (80, .iaload, 1, 0, 0, 0), (81, .iconst 1, 1, 0, 0, 0), (82, .iadd, 1, 0, 0, 0), (83, .sipush 999, 3, 0, 0, 0)] (pc' := 86) (lc' := [(0, (2, 0, (b : Int))), (1, (0, 0, j1))]) (st' := [(0, 0, 999), (0, 0, (ax_wr ((M6 (b + 6) j1.toNat) + 1))), (0, 0, j1), (3, 16, ((b : Int) + 6))]) (M' := M6) (C' := (True ∧ (0 ≤ j1 ∧ j1 < ((16 : Nat) : Int)))) (by decide +kernel) rfl ⟨trivial, by omega⟩ ?_
  refine ax_mmin (i := 100) (by decide +kernel) (by omega) (Nat.le_of_ble_eq_true rfl) wt_381 wt_266 wt_8 wt_267 ?_
  refine ax_lump ax_layC ok_kX0 [(89, .iastore, 1, 0, 0, 0)] (pc' := 90) (lc' := [(0, (2, 0, (b : Int))), (1, (0, 0, j1))]) (st' := []) (M' := (ax_up M6 (b + 6) j1.toNat (if 999 < (ax_wr ((M6 (b + 6) j1.toNat) + 1)) then 999 else (ax_wr ((M6 (b + 6) j1.toNat) + 1))))) (C' := (True ∧ (0 ≤ j1 ∧ j1 < ((16 : Nat) : Int)))) (by decide +kernel) rfl ⟨trivial, by omega⟩ ?_
  refine ax_bdMe (fun M7 hM_M7 => ?_)
  refine ax_lump ax_layC ok_kX0 [(90, .aload_n 0, 1, 0, 0, 0), (91, .iconst 1, 1, 0, 0, 0), (92, .putfield 55, 3, 0, 13, 0)] (pc' := 95) (lc' := [(0, (2, 0, (b : Int))), (1, (0, 0, j1))]) (st' := []) (M' := (ax_up M7 b 13 1)) (C' := (True ∧ (0 ≤ 1 ∧ 1 ≤ 1))) (by decide +kernel) rfl ⟨trivial, by omega⟩ ?_
  refine ax_bdMe (fun M8 hM_M8 => ?_)
  refine ax_lump ax_layC ok_kX0 [(95, .aload_n 0, 1, 0, 0, 0), (96, .iconst 3, 1, 0, 0, 0)] (pc' := 97) (lc' := [(0, (2, 0, (b : Int))), (1, (0, 0, j1))]) (st' := [(0, 0, 3), (2, 0, (b : Int))]) (M' := M8) (C' := True) (by decide +kernel) rfl trivial ?_
  refine ax_cVv (G1 := gX0_countOne) (d1 := d + 0) (i := 96) (n := 1) (as := [(0, 0, 3)]) (st := []) (c := 0) (a := (b : Int)) (by decide +kernel) ax_cls0 calX0_countOne (by omega) rfl wt_438 wt_440 ws_30 (Nat.le_of_ble_eq_true rfl) rfl (c_X0_countOne d b 3 M8) (fun M9 => ?_)
  exact ax_vret (by decide +kernel) rfl ⟨rfl, rfl⟩
def f_X0_wipe_B34 (b : Nat) (w1 : Int) (i : Nat)  (M : ax_M) (kc : ax_M → ax_M) (kx : ax_M → ax_M) : ax_M := ax_bd (ax_up M (b + 1) ((w1 * 4) + (i : Int)).toNat (-1)) (fun M10 => kc M10)
def f_X0_wipe_L34 (b : Nat) (w1 : Int) : Nat → Nat → ax_M → (ax_M → ax_M) → ax_M
  | 0, i, M, kx => kx M
  | n + 1, i, M, kx => f_X0_wipe_B34 b w1 i  M (fun M9 => f_X0_wipe_L34 b w1 n (i + 1) M9 kx) kx
set_option maxRecDepth 100000 in
set_option maxHeartbeats 4000000 in
theorem wb_X0_wipe_B34 (d : Nat) (b : Nat) (w1 : Int) (i : Nat)  (M : ax_M) (kc : ax_M → ax_M) (kx : ax_M → ax_M) (hw_w1 : 0 ≤ w1 ∧ w1 ≤ 15) (hi : 0 ≤ i ∧ i < 4)  (hkc : ∀ (M9 : ax_M), ax_W ax_LC gX0_wipe (d + 1) 34 [(0, (2, 0, (b : Int))), (1, (0, 0, w1)), (2, (0, 0, ((i : Int) + 1)))] [] M9 (ax_qv (kc M9))) (hkx : ∀ (M9 : ax_M), (True) → ax_W ax_LC gX0_wipe (d + 1) 56 [(0, (2, 0, (b : Int))), (1, (0, 0, w1))] [] M9 (ax_qv (kx M9))) : ax_W ax_LC gX0_wipe (d + 1) 39 [(0, (2, 0, (b : Int))), (1, (0, 0, w1)), (2, (0, 0, (i : Int)))] [] M (ax_qv (f_X0_wipe_B34 b w1 i  M kc kx)) := by
  unfold f_X0_wipe_B34
  refine ax_lump ax_layC ok_kX0 [(39, .aload_n 0, 1, 0, 0, 0), (40, .getfield 9, 3, 0, 0, 0), (43, .iload_n 1, 1, 0, 0, 0), (44, .iconst 4, 1, 0, 0, 0), (45, .imul, 1, 1, 0, 0), (46, .iload_n 2, 1, 0, 0, 0), (47, .iadd, 1, 1, 0, 0), (48, .iconst (-1), 1, 0, 0, 0), (49, .iastore, 1, 0, 0, 0)] (pc' := 50) (lc' := [(0, (2, 0, (b : Int))), (1, (0, 0, w1)), (2, (0, 0, (i : Int)))]) (st' := []) (M' := (ax_up M (b + 1) ((w1 * 4) + (i : Int)).toNat (-1))) (C' := (((True ∧ ax_r32 (w1 * 4)) ∧ ax_r32 ((w1 * 4) + (i : Int))) ∧ (0 ≤ ((w1 * 4) + (i : Int)) ∧ ((w1 * 4) + (i : Int)) < ((64 : Nat) : Int)))) (by decide +kernel) rfl ⟨⟨⟨trivial, ⟨by omega, by omega⟩⟩, ⟨by omega, by omega⟩⟩, by omega⟩ ?_
  refine ax_bdMe (fun M10 hM_M10 => ?_)
  refine ax_lump ax_layC ok_kX0 [(50, .iinc 2 1, 3, 1, 0, 0), (53, .goto (-19), 3, 34, 0, 0)] (pc' := 34) (lc' := [(2, (0, 0, ((i : Int) + 1))), (0, (2, 0, (b : Int))), (1, (0, 0, w1))]) (st' := []) (M' := M10) (C' := (True ∧ ax_r32 ((i : Int) + 1))) (by decide +kernel) rfl ⟨trivial, ⟨by omega, by omega⟩⟩ ?_
  refine ax_pk [1,2,0] (lc' := [(0, (2, 0, (b : Int))), (1, (0, 0, w1)), (2, (0, 0, ((i : Int) + 1)))]) rfl ?_
  exact hkc M10 
set_option maxRecDepth 100000 in
set_option maxHeartbeats 4000000 in
theorem w_X0_wipe_L34 (d : Nat) (b : Nat) (w1 : Int) (kx : ax_M → ax_M) (hw_w1 : 0 ≤ w1 ∧ w1 ≤ 15) (hkx : ∀ (M9 : ax_M), (True) → ax_W ax_LC gX0_wipe (d + 1) 56 [(0, (2, 0, (b : Int))), (1, (0, 0, w1))] [] M9 (ax_qv (kx M9))) : ∀ (n : Nat) (i : Nat) (M : ax_M), 0 ≤ i ∧ i + n = 4 → ax_W ax_LC gX0_wipe (d + 1) 34 [(0, (2, 0, (b : Int))), (1, (0, 0, w1)), (2, (0, 0, (i : Int)))] [] M (ax_qv (f_X0_wipe_L34 b w1 n i  M kx)) := by
  intro n
  induction n with
  | zero =>
    intro i M hin
    refine ax_lump ax_layC ok_kX0 [(34, .iload_n 2, 1, 0, 0, 0), (35, .iconst 4, 1, 0, 0, 0)] (pc' := 36) (lc' := [(0, (2, 0, (b : Int))), (1, (0, 0, w1)), (2, (0, 0, (i : Int)))]) (st' := [(0, 0, 4), (0, 0, (i : Int))]) (M' := M) (C' := True) (by decide +kernel) rfl trivial ?_
    refine ax_icmp_ge (off := 20) (tgt := 56) (by decide +kernel) (by decide) (fun h => ?_) (fun h => ?_)
    · refine ax_pk [0,1] (lc' := [(0, (2, 0, (b : Int))), (1, (0, 0, w1))]) rfl ?_
      exact hkx M trivial
    · exfalso; omega
  | succ n ih =>
    intro i M hin
    refine ax_lump ax_layC ok_kX0 [(34, .iload_n 2, 1, 0, 0, 0), (35, .iconst 4, 1, 0, 0, 0)] (pc' := 36) (lc' := [(0, (2, 0, (b : Int))), (1, (0, 0, w1)), (2, (0, 0, (i : Int)))]) (st' := [(0, 0, 4), (0, 0, (i : Int))]) (M' := M) (C' := True) (by decide +kernel) rfl trivial ?_
    refine ax_icmp_ge (off := 20) (tgt := 56) (by decide +kernel) (by decide) (fun h => ?_) (fun h => ?_)
    · exfalso; omega
    · exact wb_X0_wipe_B34 d b w1 i  M _ kx hw_w1 (by omega)  (fun M9 => ih (i + 1)  M9 (by omega) ) hkx
def f_X0_wipe (b : Nat) (x1 : Int) (M : ax_M) : ax_M := (if x1 < 0 then M else (if x1 < 16 then ax_bd (ax_up M b 11 (ax_wr ((M b 11) + 1))) (fun M3 => (if (M3 b 12) < (M3 b 11) then f_X0_wipe_J56 b x1 M3 else f_X0_wipe_L34 b x1 4 0  M3 (fun M11 => f_X0_wipe_J56 b x1 M11))) else M))
set_option maxRecDepth 100000 in
set_option maxHeartbeats 4000000 in
theorem c_X0_wipe (d : Nat) (b : Nat) (x1 : Int) (M : ax_M)  : ax_Met ax_LC gX0_wipe (d + 1) [(2, 0, (b : Int)), (0, 0, x1)] M (ax_qv (f_X0_wipe b x1 M)) := by
  refine ax_body (by decide) (fun X => Nat.le_of_ble_eq_true rfl) (fun hok => ?_)
  have hr_x1 : (-2147483648) ≤ x1 ∧ x1 ≤ 2147483647 := hok (0, 0, x1) (by simp)
  show ax_W ax_LC gX0_wipe (d + 1) 0 [(0, (2, 0, (b : Int))), (1, (0, 0, x1))] [] M _
  unfold f_X0_wipe
  refine ax_lump ax_layC ok_kX0 [(0, .iload_n 1, 1, 0, 0, 0)] (pc' := 1) (lc' := [(0, (2, 0, (b : Int))), (1, (0, 0, x1))]) (st' := [(0, 0, x1)]) (M' := M) (C' := True) (by decide +kernel) rfl trivial ?_
  refine ax_zlt (off := 9) (tgt := 10) (by decide +kernel) (by decide) (fun h1 => ?_) (fun h1 => ?_)
  · exact ax_vret (by decide +kernel) rfl ⟨rfl, rfl⟩
  · refine ax_lump ax_layC ok_kX0 [(4, .iload_n 1, 1, 0, 0, 0), (5, .bipush 16, 2, 0, 0, 0)] (pc' := 7) (lc' := [(0, (2, 0, (b : Int))), (1, (0, 0, x1))]) (st' := [(0, 0, 16), (0, 0, x1)]) (M' := M) (C' := True) (by decide +kernel) rfl trivial ?_
    refine ax_jlt (off := 4) (tgt := 11) (by decide +kernel) (by decide) (fun h2 => ?_) (fun h2 => ?_)
    · refine ax_lump ax_layC ok_kX0 [(11, .aload_n 0, 1, 0, 0, 0), (12, .dup, 1, 0, 0, 0), (13, .getfield 47, 3, 0, 11, 0), (16, .iconst 1, 1, 0, 0, 0), (17, .iadd, 1, 0, 0, 0), (18, .putfield 47, 3, 0, 11, 0)] (pc' := 21) (lc' := [(0, (2, 0, (b : Int))), (1, (0, 0, x1))]) (st' := []) (M' := (ax_up M b 11 (ax_wr ((M b 11) + 1)))) (C' := True) (by decide +kernel) rfl trivial ?_
      refine ax_bdMe (fun M3 hM_M3 => ?_)
      refine ax_lump ax_layC ok_kX0 [(21, .aload_n 0, 1, 0, 0, 0), (22, .getfield 47, 3, 0, 11, 0), (25, .aload_n 0, 1, 0, 0, 0), (26, .getfield 52, 3, 0, 12, 0)] (pc' := 29) (lc' := [(0, (2, 0, (b : Int))), (1, (0, 0, x1))]) (st' := [(0, 0, (M3 b 12)), (0, 0, (M3 b 11))]) (M' := M3) (C' := True) (by decide +kernel) rfl trivial ?_
      refine ax_jgt (off := 27) (tgt := 56) (by decide +kernel) (by decide) (fun h4 => ?_) (fun h4 => ?_)
      · exact w_X0_wipe_J56 d b x1 M3 (by omega)
      · refine ax_lump ax_layC ok_kX0 [(32, .iconst 0, 1, 0, 0, 0), (33, .istore_n 2, 1, 0, 0, 0)] (pc' := 34) (lc' := [(2, (0, 0, 0)), (0, (2, 0, (b : Int))), (1, (0, 0, x1))]) (st' := []) (M' := M3) (C' := True) (by decide +kernel) rfl trivial ?_
        refine ax_pk [1,2,0] (lc' := [(0, (2, 0, (b : Int))), (1, (0, 0, x1)), (2, (0, 0, 0))]) rfl ?_
        refine w_X0_wipe_L34 d b x1 _ (by omega) (fun M11 hx_11 => ?_) 4 0  M3 (by omega) 
        exact w_X0_wipe_J56 d b x1 M11 (by omega)
    · exact ax_vret (by decide +kernel) rfl ⟨rfl, rfl⟩
def f_X0_level_B6 (b : Nat) (M : ax_M) (i : Nat) (v1 : Int) (v2 : Int) (kc : Int → Int → Int × ax_M) (kx : Int → Int → Int × ax_M) : Int × ax_M := (if (M (b + 4) i) ≠ 1 then (if (M (b + 4) i) ≠ 0 then kc v1 v2 else (if v2 = (-1) then kc v1 (i : Int) else (if (M (b + 6) i) ≤ (M (b + 6) v2.toNat) then kc v1 v2 else kc v1 (i : Int)))) else (if v1 = (-1) then kc (i : Int) v2 else (if (M (b + 6) v1.toNat) ≤ (M (b + 6) i) then kc v1 v2 else kc (i : Int) v2)))
def f_X0_level_L6 (b : Nat) (M : ax_M) : Nat → Nat → Int → Int → (Int → Int → Int × ax_M) → Int × ax_M
  | 0, i, v1, v2, kx => kx v1 v2
  | n + 1, i, v1, v2, kx => f_X0_level_B6 b M i v1 v2 (fun u1 u2 => f_X0_level_L6 b M n (i + 1) u1 u2 kx) kx
set_option maxRecDepth 100000 in
set_option maxHeartbeats 4000000 in
theorem wb_X0_level_B6 (d : Nat) (b : Nat) (M : ax_M) (i : Nat) (v1 : Int) (v2 : Int) (kc : Int → Int → Int × ax_M) (kx : Int → Int → Int × ax_M)  (hi : 0 ≤ i ∧ i < 16) (hv1 : (-1) ≤ v1 ∧ v1 ≤ 15) (hv2 : (-1) ≤ v2 ∧ v2 ≤ 15) (hkc : ∀ (u1 : Int) (u2 : Int), (-1) ≤ u1 ∧ u1 ≤ 15 → (-1) ≤ u2 ∧ u2 ≤ 15 → ax_W ax_LC gX0_level (d + 2) 6 [(0, (2, 0, (b : Int))), (1, (0, 0, u1)), (2, (0, 0, u2)), (3, (0, 0, ((i : Int) + 1)))] [] M ((ax_qm (-2) 15) (kc u1 u2))) (hkx : ∀ (x1 : Int) (x2 : Int), (((-1) ≤ x1 ∧ x1 ≤ 15) ∧ ((-1) ≤ x2 ∧ x2 ≤ 15)) → ax_W ax_LC gX0_level (d + 2) 81 [(0, (2, 0, (b : Int))), (1, (0, 0, x1)), (2, (0, 0, x2))] [] M ((ax_qm (-2) 15) (kx x1 x2))) : ax_W ax_LC gX0_level (d + 2) 12 [(0, (2, 0, (b : Int))), (1, (0, 0, v1)), (2, (0, 0, v2)), (3, (0, 0, (i : Int)))] [] M ((ax_qm (-2) 15) (f_X0_level_B6 b M i v1 v2 kc kx)) := by
  unfold f_X0_level_B6
  refine ax_lump ax_layC ok_kX0 [(12, .aload_n 0, 1, 0, 0, 0), (13, .getfield 21, 3, 0, 3, 0), (16, .iload_n 3, 1, 0, 0, 0), (17, .iaload, 1, 0, 0, 0), (18, .iconst 1, 1, 0, 0, 0)] (pc' := 19) (lc' := [(0, (2, 0, (b : Int))), (1, (0, 0, v1)), (2, (0, 0, v2)), (3, (0, 0, (i : Int)))]) (st' := [(0, 0, 1), (0, 0, (M (b + 4) i))]) (M' := M) (C' := (True ∧ (0 ≤ (i : Int) ∧ (i : Int) < ((16 : Nat) : Int)))) (by decide +kernel) rfl ⟨trivial, by omega⟩ ?_
  refine ax_jne (off := 25) (tgt := 44) (by decide +kernel) (by decide) (fun h1 => ?_) (fun h1 => ?_)
  · refine ax_lump ax_layC ok_kX0 [(44, .aload_n 0, 1, 0, 0, 0), (45, .getfield 21, 3, 0, 3, 0), (48, .iload_n 3, 1, 0, 0, 0), (49, .iaload, 1, 0, 0, 0)] (pc' := 50) (lc' := [(0, (2, 0, (b : Int))), (1, (0, 0, v1)), (2, (0, 0, v2)), (3, (0, 0, (i : Int)))]) (st' := [(0, 0, (M (b + 4) i))]) (M' := M) (C' := (True ∧ (0 ≤ (i : Int) ∧ (i : Int) < ((16 : Nat) : Int)))) (by decide +kernel) rfl ⟨trivial, by omega⟩ ?_
    refine ax_zne (off := 25) (tgt := 75) (by decide +kernel) (by decide) (fun h2 => ?_) (fun h2 => ?_)
    · refine ax_lump ax_layC ok_kX0 [(75, .iinc 3 1, 3, 1, 0, 0), (78, .goto (-72), 3, 6, 0, 0)] (pc' := 6) (lc' := [(3, (0, 0, ((i : Int) + 1))), (0, (2, 0, (b : Int))), (1, (0, 0, v1)), (2, (0, 0, v2))]) (st' := []) (M' := M) (C' := (True ∧ ax_r32 ((i : Int) + 1))) (by decide +kernel) rfl ⟨trivial, ⟨by omega, by omega⟩⟩ ?_
      refine ax_pk [1,2,3,0] (lc' := [(0, (2, 0, (b : Int))), (1, (0, 0, v1)), (2, (0, 0, v2)), (3, (0, 0, ((i : Int) + 1)))]) rfl ?_
      exact hkc v1 v2 (by omega) (by omega)
    · refine ax_lump ax_layC ok_kX0 [(53, .iload_n 2, 1, 0, 0, 0), (54, .iconst (-1), 1, 0, 0, 0)] (pc' := 55) (lc' := [(0, (2, 0, (b : Int))), (1, (0, 0, v1)), (2, (0, 0, v2)), (3, (0, 0, (i : Int)))]) (st' := [(0, 0, (-1)), (0, 0, v2)]) (M' := M) (C' := True) (by decide +kernel) rfl trivial ?_
      refine ax_jeq (off := 18) (tgt := 73) (by decide +kernel) (by decide) (fun h3 => ?_) (fun h3 => ?_)
      · refine ax_lump ax_layC ok_kX0 [(73, .iload_n 3, 1, 0, 0, 0), (74, .istore_n 2, 1, 0, 0, 0), (75, .iinc 3 1, 3, 1, 0, 0), (78, .goto (-72), 3, 6, 0, 0)] (pc' := 6) (lc' := [(3, (0, 0, ((i : Int) + 1))), (2, (0, 0, (i : Int))), (0, (2, 0, (b : Int))), (1, (0, 0, v1))]) (st' := []) (M' := M) (C' := (True ∧ ax_r32 ((i : Int) + 1))) (by decide +kernel) rfl ⟨trivial, ⟨by omega, by omega⟩⟩ ?_
        refine ax_pk [2,3,1,0] (lc' := [(0, (2, 0, (b : Int))), (1, (0, 0, v1)), (2, (0, 0, (i : Int))), (3, (0, 0, ((i : Int) + 1)))]) rfl ?_
        exact hkc v1 (i : Int) (by omega) (by omega)
      · refine ax_lump ax_layC ok_kX0 [(58, .aload_n 0, 1, 0, 0, 0), (59, .getfield 27, 3, 0, 5, 0), (62, .iload_n 3, 1, 0, 0, 0), (63, .iaload, 1, 0, 0, 0), (64, .aload_n 0, 1, 0, 0, 0), (65, .getfield 27, 3, 0, 5, 0), (68, .iload_n 2, 1, 0, 0, 0), (69, .iaload, 1, 0, 0, 0)] (pc' := 70) (lc' := [(0, (2, 0, (b : Int))), (1, (0, 0, v1)), (2, (0, 0, v2)), (3, (0, 0, (i : Int)))]) (st' := [(0, 0, (M (b + 6) v2.toNat)), (0, 0, (M (b + 6) i))]) (M' := M) (C' := ((True ∧ (0 ≤ (i : Int) ∧ (i : Int) < ((16 : Nat) : Int))) ∧ (0 ≤ v2 ∧ v2 < ((16 : Nat) : Int)))) (by decide +kernel) rfl ⟨⟨trivial, by omega⟩, by omega⟩ ?_
        refine ax_jle (off := 5) (tgt := 75) (by decide +kernel) (by decide) (fun h4 => ?_) (fun h4 => ?_)
        · refine ax_lump ax_layC ok_kX0 [(75, .iinc 3 1, 3, 1, 0, 0), (78, .goto (-72), 3, 6, 0, 0)] (pc' := 6) (lc' := [(3, (0, 0, ((i : Int) + 1))), (0, (2, 0, (b : Int))), (1, (0, 0, v1)), (2, (0, 0, v2))]) (st' := []) (M' := M) (C' := (True ∧ ax_r32 ((i : Int) + 1))) (by decide +kernel) rfl ⟨trivial, ⟨by omega, by omega⟩⟩ ?_
          refine ax_pk [1,2,3,0] (lc' := [(0, (2, 0, (b : Int))), (1, (0, 0, v1)), (2, (0, 0, v2)), (3, (0, 0, ((i : Int) + 1)))]) rfl ?_
          exact hkc v1 v2 (by omega) (by omega)
        · refine ax_lump ax_layC ok_kX0 [(73, .iload_n 3, 1, 0, 0, 0), (74, .istore_n 2, 1, 0, 0, 0), (75, .iinc 3 1, 3, 1, 0, 0), (78, .goto (-72), 3, 6, 0, 0)] (pc' := 6) (lc' := [(3, (0, 0, ((i : Int) + 1))), (2, (0, 0, (i : Int))), (0, (2, 0, (b : Int))), (1, (0, 0, v1))]) (st' := []) (M' := M) (C' := (True ∧ ax_r32 ((i : Int) + 1))) (by decide +kernel) rfl ⟨trivial, ⟨by omega, by omega⟩⟩ ?_
          refine ax_pk [2,3,1,0] (lc' := [(0, (2, 0, (b : Int))), (1, (0, 0, v1)), (2, (0, 0, (i : Int))), (3, (0, 0, ((i : Int) + 1)))]) rfl ?_
          exact hkc v1 (i : Int) (by omega) (by omega)
  · refine ax_lump ax_layC ok_kX0 [(22, .iload_n 1, 1, 0, 0, 0), (23, .iconst (-1), 1, 0, 0, 0)] (pc' := 24) (lc' := [(0, (2, 0, (b : Int))), (1, (0, 0, v1)), (2, (0, 0, v2)), (3, (0, 0, (i : Int)))]) (st' := [(0, 0, (-1)), (0, 0, v1)]) (M' := M) (C' := True) (by decide +kernel) rfl trivial ?_
    refine ax_jeq (off := 18) (tgt := 42) (by decide +kernel) (by decide) (fun h5 => ?_) (fun h5 => ?_)
    · refine ax_lump ax_layC ok_kX0 [(42, .iload_n 3, 1, 0, 0, 0), (43, .istore_n 1, 1, 0, 0, 0), (44, .aload_n 0, 1, 0, 0, 0), (45, .getfield 21, 3, 0, 3, 0), (48, .iload_n 3, 1, 0, 0, 0), (49, .iaload, 1, 0, 0, 0)] (pc' := 50) (lc' := [(1, (0, 0, (i : Int))), (0, (2, 0, (b : Int))), (2, (0, 0, v2)), (3, (0, 0, (i : Int)))]) (st' := [(0, 0, (M (b + 4) i))]) (M' := M) (C' := (True ∧ (0 ≤ (i : Int) ∧ (i : Int) < ((16 : Nat) : Int)))) (by decide +kernel) rfl ⟨trivial, by omega⟩ ?_
      refine ax_if_ne (off := 25) (tgt := 75) (by decide +kernel) (by decide) (fun h6 => ?_) (fun h6 => ?_)
      · refine ax_lump ax_layC ok_kX0 [(75, .iinc 3 1, 3, 1, 0, 0), (78, .goto (-72), 3, 6, 0, 0)] (pc' := 6) (lc' := [(3, (0, 0, ((i : Int) + 1))), (1, (0, 0, (i : Int))), (0, (2, 0, (b : Int))), (2, (0, 0, v2))]) (st' := []) (M' := M) (C' := (True ∧ ax_r32 ((i : Int) + 1))) (by decide +kernel) rfl ⟨trivial, ⟨by omega, by omega⟩⟩ ?_
        refine ax_pk [2,1,3,0] (lc' := [(0, (2, 0, (b : Int))), (1, (0, 0, (i : Int))), (2, (0, 0, v2)), (3, (0, 0, ((i : Int) + 1)))]) rfl ?_
        exact hkc (i : Int) v2 (by omega) (by omega)
      · exfalso; omega
    · refine ax_lump ax_layC ok_kX0 [(27, .aload_n 0, 1, 0, 0, 0), (28, .getfield 27, 3, 0, 5, 0), (31, .iload_n 3, 1, 0, 0, 0), (32, .iaload, 1, 0, 0, 0), (33, .aload_n 0, 1, 0, 0, 0), (34, .getfield 27, 3, 0, 5, 0), (37, .iload_n 1, 1, 0, 0, 0), (38, .iaload, 1, 0, 0, 0)] (pc' := 39) (lc' := [(0, (2, 0, (b : Int))), (1, (0, 0, v1)), (2, (0, 0, v2)), (3, (0, 0, (i : Int)))]) (st' := [(0, 0, (M (b + 6) v1.toNat)), (0, 0, (M (b + 6) i))]) (M' := M) (C' := ((True ∧ (0 ≤ (i : Int) ∧ (i : Int) < ((16 : Nat) : Int))) ∧ (0 ≤ v1 ∧ v1 < ((16 : Nat) : Int)))) (by decide +kernel) rfl ⟨⟨trivial, by omega⟩, by omega⟩ ?_
      refine ax_jge (off := 5) (tgt := 44) (by decide +kernel) (by decide) (fun h7 => ?_) (fun h7 => ?_)
      · refine ax_lump ax_layC ok_kX0 [(44, .aload_n 0, 1, 0, 0, 0), (45, .getfield 21, 3, 0, 3, 0), (48, .iload_n 3, 1, 0, 0, 0), (49, .iaload, 1, 0, 0, 0)] (pc' := 50) (lc' := [(0, (2, 0, (b : Int))), (1, (0, 0, v1)), (2, (0, 0, v2)), (3, (0, 0, (i : Int)))]) (st' := [(0, 0, (M (b + 4) i))]) (M' := M) (C' := (True ∧ (0 ≤ (i : Int) ∧ (i : Int) < ((16 : Nat) : Int)))) (by decide +kernel) rfl ⟨trivial, by omega⟩ ?_
        refine ax_if_ne (off := 25) (tgt := 75) (by decide +kernel) (by decide) (fun h8 => ?_) (fun h8 => ?_)
        · refine ax_lump ax_layC ok_kX0 [(75, .iinc 3 1, 3, 1, 0, 0), (78, .goto (-72), 3, 6, 0, 0)] (pc' := 6) (lc' := [(3, (0, 0, ((i : Int) + 1))), (0, (2, 0, (b : Int))), (1, (0, 0, v1)), (2, (0, 0, v2))]) (st' := []) (M' := M) (C' := (True ∧ ax_r32 ((i : Int) + 1))) (by decide +kernel) rfl ⟨trivial, ⟨by omega, by omega⟩⟩ ?_
          refine ax_pk [1,2,3,0] (lc' := [(0, (2, 0, (b : Int))), (1, (0, 0, v1)), (2, (0, 0, v2)), (3, (0, 0, ((i : Int) + 1)))]) rfl ?_
          exact hkc v1 v2 (by omega) (by omega)
        · exfalso; omega
      · refine ax_lump ax_layC ok_kX0 [(42, .iload_n 3, 1, 0, 0, 0), (43, .istore_n 1, 1, 0, 0, 0), (44, .aload_n 0, 1, 0, 0, 0), (45, .getfield 21, 3, 0, 3, 0), (48, .iload_n 3, 1, 0, 0, 0), (49, .iaload, 1, 0, 0, 0)] (pc' := 50) (lc' := [(1, (0, 0, (i : Int))), (0, (2, 0, (b : Int))), (2, (0, 0, v2)), (3, (0, 0, (i : Int)))]) (st' := [(0, 0, (M (b + 4) i))]) (M' := M) (C' := (True ∧ (0 ≤ (i : Int) ∧ (i : Int) < ((16 : Nat) : Int)))) (by decide +kernel) rfl ⟨trivial, by omega⟩ ?_
        refine ax_if_ne (off := 25) (tgt := 75) (by decide +kernel) (by decide) (fun h9 => ?_) (fun h9 => ?_)
        · refine ax_lump ax_layC ok_kX0 [(75, .iinc 3 1, 3, 1, 0, 0), (78, .goto (-72), 3, 6, 0, 0)] (pc' := 6) (lc' := [(3, (0, 0, ((i : Int) + 1))), (1, (0, 0, (i : Int))), (0, (2, 0, (b : Int))), (2, (0, 0, v2))]) (st' := []) (M' := M) (C' := (True ∧ ax_r32 ((i : Int) + 1))) (by decide +kernel) rfl ⟨trivial, ⟨by omega, by omega⟩⟩ ?_
          refine ax_pk [2,1,3,0] (lc' := [(0, (2, 0, (b : Int))), (1, (0, 0, (i : Int))), (2, (0, 0, v2)), (3, (0, 0, ((i : Int) + 1)))]) rfl ?_
          exact hkc (i : Int) v2 (by omega) (by omega)
        · exfalso; omega
set_option maxRecDepth 100000 in
set_option maxHeartbeats 4000000 in
theorem w_X0_level_L6 (d : Nat) (b : Nat) (M : ax_M) (kx : Int → Int → Int × ax_M)  (hkx : ∀ (x1 : Int) (x2 : Int), (((-1) ≤ x1 ∧ x1 ≤ 15) ∧ ((-1) ≤ x2 ∧ x2 ≤ 15)) → ax_W ax_LC gX0_level (d + 2) 81 [(0, (2, 0, (b : Int))), (1, (0, 0, x1)), (2, (0, 0, x2))] [] M ((ax_qm (-2) 15) (kx x1 x2))) : ∀ (n : Nat) (i : Nat) (v1 : Int) (v2 : Int), 0 ≤ i ∧ i + n = 16 → (-1) ≤ v1 ∧ v1 ≤ 15 → (-1) ≤ v2 ∧ v2 ≤ 15 → ax_W ax_LC gX0_level (d + 2) 6 [(0, (2, 0, (b : Int))), (1, (0, 0, v1)), (2, (0, 0, v2)), (3, (0, 0, (i : Int)))] [] M ((ax_qm (-2) 15) (f_X0_level_L6 b M n i v1 v2 kx)) := by
  intro n
  induction n with
  | zero =>
    intro i v1 v2 hin hv1 hv2
    refine ax_lump ax_layC ok_kX0 [(6, .iload_n 3, 1, 0, 0, 0), (7, .bipush 16, 2, 0, 0, 0)] (pc' := 9) (lc' := [(0, (2, 0, (b : Int))), (1, (0, 0, v1)), (2, (0, 0, v2)), (3, (0, 0, (i : Int)))]) (st' := [(0, 0, 16), (0, 0, (i : Int))]) (M' := M) (C' := True) (by decide +kernel) rfl trivial ?_
    refine ax_icmp_ge (off := 72) (tgt := 81) (by decide +kernel) (by decide) (fun h => ?_) (fun h => ?_)
    · refine ax_pk [0,1,2] (lc' := [(0, (2, 0, (b : Int))), (1, (0, 0, v1)), (2, (0, 0, v2))]) rfl ?_
      exact hkx v1 v2 ⟨(by omega), (by omega)⟩
    · exfalso; omega
  | succ n ih =>
    intro i v1 v2 hin hv1 hv2
    refine ax_lump ax_layC ok_kX0 [(6, .iload_n 3, 1, 0, 0, 0), (7, .bipush 16, 2, 0, 0, 0)] (pc' := 9) (lc' := [(0, (2, 0, (b : Int))), (1, (0, 0, v1)), (2, (0, 0, v2)), (3, (0, 0, (i : Int)))]) (st' := [(0, 0, 16), (0, 0, (i : Int))]) (M' := M) (C' := True) (by decide +kernel) rfl trivial ?_
    refine ax_icmp_ge (off := 72) (tgt := 81) (by decide +kernel) (by decide) (fun h => ?_) (fun h => ?_)
    · exfalso; omega
    · exact wb_X0_level_B6 d b M i v1 v2 _ kx  (by omega) hv1 hv2 (fun u1 u2 hu1 hu2 => ih (i + 1) u1 u2 (by omega) hu1 hu2) hkx
def f_X0_level_B111 (b : Nat) (w1 : Int) (w2 : Int) (i : Nat)  (M : ax_M) (kc : ax_M → Int × ax_M) (kx : ax_M → Int × ax_M) : Int × ax_M := ax_bd (f_X0_copyLeaf b ((w1 * 4) + (i : Int)) ((w2 * 4) + (i : Int)) M) (fun M15 => kc M15)
def f_X0_level_L111 (b : Nat) (w1 : Int) (w2 : Int) : Nat → Nat → ax_M → (ax_M → Int × ax_M) → Int × ax_M
  | 0, i, M, kx => kx M
  | n + 1, i, M, kx => f_X0_level_B111 b w1 w2 i  M (fun M9 => f_X0_level_L111 b w1 w2 n (i + 1) M9 kx) kx
set_option maxRecDepth 100000 in
set_option maxHeartbeats 4000000 in
theorem wb_X0_level_B111 (d : Nat) (b : Nat) (w1 : Int) (w2 : Int) (i : Nat)  (M : ax_M) (kc : ax_M → Int × ax_M) (kx : ax_M → Int × ax_M) (hw_w1 : 0 ≤ w1 ∧ w1 ≤ 15) (hw_w2 : 0 ≤ w2 ∧ w2 ≤ 15) (hi : 0 ≤ i ∧ i < 4)  (hkc : ∀ (M9 : ax_M), ax_W ax_LC gX0_level (d + 2) 111 [(0, (2, 0, (b : Int))), (1, (0, 0, w1)), (2, (0, 0, w2)), (3, (0, 0, ((i : Int) + 1)))] [] M9 ((ax_qm (-2) 15) (kc M9))) (hkx : ∀ (M9 : ax_M), (True) → ax_W ax_LC gX0_level (d + 2) 136 [(0, (2, 0, (b : Int))), (1, (0, 0, w1)), (2, (0, 0, w2))] [] M9 ((ax_qm (-2) 15) (kx M9))) : ax_W ax_LC gX0_level (d + 2) 116 [(0, (2, 0, (b : Int))), (1, (0, 0, w1)), (2, (0, 0, w2)), (3, (0, 0, (i : Int)))] [] M ((ax_qm (-2) 15) (f_X0_level_B111 b w1 w2 i  M kc kx)) := by
  unfold f_X0_level_B111
  refine ax_lump ax_layC ok_kX0 [(116, .aload_n 0, 1, 0, 0, 0), (117, .iload_n 1, 1, 0, 0, 0), (118, .iconst 4, 1, 0, 0, 0), (119, .imul, 1, 1, 0, 0), (120, .iload_n 3, 1, 0, 0, 0), (121, .iadd, 1, 1, 0, 0), (122, .iload_n 2, 1, 0, 0, 0), (123, .iconst 4, 1, 0, 0, 0), (124, .imul, 1, 1, 0, 0), (125, .iload_n 3, 1, 0, 0, 0), (126, .iadd, 1, 1, 0, 0)] (pc' := 127) (lc' := [(0, (2, 0, (b : Int))), (1, (0, 0, w1)), (2, (0, 0, w2)), (3, (0, 0, (i : Int)))]) (st' := [(0, 0, ((w2 * 4) + (i : Int))), (0, 0, ((w1 * 4) + (i : Int))), (2, 0, (b : Int))]) (M' := M) (C' := ((((True ∧ ax_r32 (w1 * 4)) ∧ ax_r32 ((w1 * 4) + (i : Int))) ∧ ax_r32 (w2 * 4)) ∧ ax_r32 ((w2 * 4) + (i : Int)))) (by decide +kernel) rfl ⟨⟨⟨⟨trivial, ⟨by omega, by omega⟩⟩, ⟨by omega, by omega⟩⟩, ⟨by omega, by omega⟩⟩, ⟨by omega, by omega⟩⟩ ?_
  refine ax_cVv (G1 := gX0_copyLeaf) (d1 := d + 1) (i := 159) (n := 2) (as := [(0, 0, ((w1 * 4) + (i : Int))), (0, 0, ((w2 * 4) + (i : Int)))]) (st := []) (c := 0) (a := (b : Int)) (by decide +kernel) ax_cls0 calX0_copyLeaf (by omega) rfl wt_430 wt_432 ws_28 (Nat.le_of_ble_eq_true rfl) rfl (c_X0_copyLeaf d b ((w1 * 4) + (i : Int)) ((w2 * 4) + (i : Int)) M) (fun M15 => ?_)
  refine ax_lump ax_layC ok_kX0 [(130, .iinc 3 1, 3, 1, 0, 0), (133, .goto (-22), 3, 111, 0, 0)] (pc' := 111) (lc' := [(3, (0, 0, ((i : Int) + 1))), (0, (2, 0, (b : Int))), (1, (0, 0, w1)), (2, (0, 0, w2))]) (st' := []) (M' := M15) (C' := (True ∧ ax_r32 ((i : Int) + 1))) (by decide +kernel) rfl ⟨trivial, ⟨by omega, by omega⟩⟩ ?_
  refine ax_pk [1,2,3,0] (lc' := [(0, (2, 0, (b : Int))), (1, (0, 0, w1)), (2, (0, 0, w2)), (3, (0, 0, ((i : Int) + 1)))]) rfl ?_
  exact hkc M15 
set_option maxRecDepth 100000 in
set_option maxHeartbeats 4000000 in
theorem w_X0_level_L111 (d : Nat) (b : Nat) (w1 : Int) (w2 : Int) (kx : ax_M → Int × ax_M) (hw_w1 : 0 ≤ w1 ∧ w1 ≤ 15) (hw_w2 : 0 ≤ w2 ∧ w2 ≤ 15) (hkx : ∀ (M9 : ax_M), (True) → ax_W ax_LC gX0_level (d + 2) 136 [(0, (2, 0, (b : Int))), (1, (0, 0, w1)), (2, (0, 0, w2))] [] M9 ((ax_qm (-2) 15) (kx M9))) : ∀ (n : Nat) (i : Nat) (M : ax_M), 0 ≤ i ∧ i + n = 4 → ax_W ax_LC gX0_level (d + 2) 111 [(0, (2, 0, (b : Int))), (1, (0, 0, w1)), (2, (0, 0, w2)), (3, (0, 0, (i : Int)))] [] M ((ax_qm (-2) 15) (f_X0_level_L111 b w1 w2 n i  M kx)) := by
  intro n
  induction n with
  | zero =>
    intro i M hin
    refine ax_lump ax_layC ok_kX0 [(111, .iload_n 3, 1, 0, 0, 0), (112, .iconst 4, 1, 0, 0, 0)] (pc' := 113) (lc' := [(0, (2, 0, (b : Int))), (1, (0, 0, w1)), (2, (0, 0, w2)), (3, (0, 0, (i : Int)))]) (st' := [(0, 0, 4), (0, 0, (i : Int))]) (M' := M) (C' := True) (by decide +kernel) rfl trivial ?_
    refine ax_icmp_ge (off := 23) (tgt := 136) (by decide +kernel) (by decide) (fun h => ?_) (fun h => ?_)
    · refine ax_pk [0,1,2] (lc' := [(0, (2, 0, (b : Int))), (1, (0, 0, w1)), (2, (0, 0, w2))]) rfl ?_
      exact hkx M trivial
    · exfalso; omega
  | succ n ih =>
    intro i M hin
    refine ax_lump ax_layC ok_kX0 [(111, .iload_n 3, 1, 0, 0, 0), (112, .iconst 4, 1, 0, 0, 0)] (pc' := 113) (lc' := [(0, (2, 0, (b : Int))), (1, (0, 0, w1)), (2, (0, 0, w2)), (3, (0, 0, (i : Int)))]) (st' := [(0, 0, 4), (0, 0, (i : Int))]) (M' := M) (C' := True) (by decide +kernel) rfl trivial ?_
    refine ax_icmp_ge (off := 23) (tgt := 136) (by decide +kernel) (by decide) (fun h => ?_) (fun h => ?_)
    · exfalso; omega
    · exact wb_X0_level_B111 d b w1 w2 i  M _ kx hw_w1 hw_w2 (by omega)  (fun M9 => ih (i + 1)  M9 (by omega) ) hkx
def f_X0_level (b : Nat) (M : ax_M) : Int × ax_M := f_X0_level_L6 b M 16 0 (-1) (-1) (fun z10 z11 => (if z10 = (-1) then ((-2), M) else (if z11 = (-1) then ((-2), M) else (if (M (b + 6) z10.toNat) < (M (b + 6) z11.toNat) then f_X0_level_L111 b z10 z11 4 0  M (fun M16 => ax_bd (ax_up M16 (b + 4) z11.toNat 1) (fun M17 => ax_bd (ax_up M17 (b + 5) z11.toNat (M17 (b + 5) z10.toNat)) (fun M18 => ax_bd (f_X0_wipe b z10 M18) (fun M19 => ax_bd (ax_up M19 b 17 z10) (fun M20 => (z11, M20)))))) else ((-2), M)))))
set_option maxRecDepth 100000 in
set_option maxHeartbeats 4000000 in
theorem c_X0_level (d : Nat) (b : Nat) (M : ax_M)  : ax_Met ax_LC gX0_level (d + 2) [(2, 0, (b : Int))] M ((ax_qm (-2) 15) (f_X0_level b M)) := by
  refine ax_body (by decide) (fun X => Nat.le_of_ble_eq_true rfl) (fun hok => ?_)
  show ax_W ax_LC gX0_level (d + 2) 0 [(0, (2, 0, (b : Int)))] [] M _
  unfold f_X0_level
  refine ax_lump ax_layC ok_kX0 [(0, .iconst (-1), 1, 0, 0, 0), (1, .istore_n 1, 1, 0, 0, 0), (2, .iconst (-1), 1, 0, 0, 0), (3, .istore_n 2, 1, 0, 0, 0), (4, .iconst 0, 1, 0, 0, 0), (5, .istore_n 3, 1, 0, 0, 0)] (pc' := 6) (lc' := [(3, (0, 0, 0)), (2, (0, 0, (-1))), (1, (0, 0, (-1))), (0, (2, 0, (b : Int)))]) (st' := []) (M' := M) (C' := True) (by decide +kernel) rfl trivial ?_
  refine ax_pk [3,2,1,0] (lc' := [(0, (2, 0, (b : Int))), (1, (0, 0, (-1))), (2, (0, 0, (-1))), (3, (0, 0, 0))]) rfl ?_
  refine w_X0_level_L6 d b M _  (fun z10 z11 hx_11 => ?_) 16 0 (-1) (-1) (by omega) (by omega) (by omega)
  refine ax_lump ax_layC ok_kX0 [(81, .iload_n 1, 1, 0, 0, 0), (82, .iconst (-1), 1, 0, 0, 0)] (pc' := 83) (lc' := [(0, (2, 0, (b : Int))), (1, (0, 0, z10)), (2, (0, 0, z11))]) (st' := [(0, 0, (-1)), (0, 0, z10)]) (M' := M) (C' := True) (by decide +kernel) rfl trivial ?_
  refine ax_jeq (off := 23) (tgt := 106) (by decide +kernel) (by decide) (fun h12 => ?_) (fun h12 => ?_)
  · refine ax_lump ax_layC ok_kX0 [(106, .bipush (-2), 2, 0, 0, 0)] (pc' := 108) (lc' := [(0, (2, 0, (b : Int))), (1, (0, 0, z10)), (2, (0, 0, z11))]) (st' := [(0, 0, (-2))]) (M' := M) (C' := True) (by decide +kernel) rfl trivial ?_
    exact ax_iret (by decide +kernel) rfl ⟨rfl, rfl, (show ((-2) : Int) ≤ (-2) from by omega), (show (-2) ≤ (15 : Int) from by omega)⟩
  · refine ax_lump ax_layC ok_kX0 [(86, .iload_n 2, 1, 0, 0, 0), (87, .iconst (-1), 1, 0, 0, 0)] (pc' := 88) (lc' := [(0, (2, 0, (b : Int))), (1, (0, 0, z10)), (2, (0, 0, z11))]) (st' := [(0, 0, (-1)), (0, 0, z11)]) (M' := M) (C' := True) (by decide +kernel) rfl trivial ?_
    refine ax_jeq (off := 18) (tgt := 106) (by decide +kernel) (by decide) (fun h13 => ?_) (fun h13 => ?_)
    · refine ax_lump ax_layC ok_kX0 [(106, .bipush (-2), 2, 0, 0, 0)] (pc' := 108) (lc' := [(0, (2, 0, (b : Int))), (1, (0, 0, z10)), (2, (0, 0, z11))]) (st' := [(0, 0, (-2))]) (M' := M) (C' := True) (by decide +kernel) rfl trivial ?_
      exact ax_iret (by decide +kernel) rfl ⟨rfl, rfl, (show ((-2) : Int) ≤ (-2) from by omega), (show (-2) ≤ (15 : Int) from by omega)⟩
    · refine ax_lump ax_layC ok_kX0 [(91, .aload_n 0, 1, 0, 0, 0), (92, .getfield 27, 3, 0, 5, 0), (95, .iload_n 1, 1, 0, 0, 0), (96, .iaload, 1, 0, 0, 0), (97, .aload_n 0, 1, 0, 0, 0), (98, .getfield 27, 3, 0, 5, 0), (101, .iload_n 2, 1, 0, 0, 0), (102, .iaload, 1, 0, 0, 0)] (pc' := 103) (lc' := [(0, (2, 0, (b : Int))), (1, (0, 0, z10)), (2, (0, 0, z11))]) (st' := [(0, 0, (M (b + 6) z11.toNat)), (0, 0, (M (b + 6) z10.toNat))]) (M' := M) (C' := ((True ∧ (0 ≤ z10 ∧ z10 < ((16 : Nat) : Int))) ∧ (0 ≤ z11 ∧ z11 < ((16 : Nat) : Int)))) (by decide +kernel) rfl ⟨⟨trivial, by omega⟩, by omega⟩ ?_
      refine ax_jlt (off := 6) (tgt := 109) (by decide +kernel) (by decide) (fun h14 => ?_) (fun h14 => ?_)
      · refine ax_lump ax_layC ok_kX0 [(109, .iconst 0, 1, 0, 0, 0), (110, .istore_n 3, 1, 0, 0, 0)] (pc' := 111) (lc' := [(3, (0, 0, 0)), (0, (2, 0, (b : Int))), (1, (0, 0, z10)), (2, (0, 0, z11))]) (st' := []) (M' := M) (C' := True) (by decide +kernel) rfl trivial ?_
        refine ax_pk [1,2,3,0] (lc' := [(0, (2, 0, (b : Int))), (1, (0, 0, z10)), (2, (0, 0, z11)), (3, (0, 0, 0))]) rfl ?_
        refine w_X0_level_L111 d b z10 z11 _ (by omega) (by omega) (fun M16 hx_16 => ?_) 4 0  M (by omega) 
        refine ax_lump ax_layC ok_kX0 [(136, .aload_n 0, 1, 0, 0, 0), (137, .getfield 21, 3, 0, 3, 0), (140, .iload_n 2, 1, 0, 0, 0), (141, .iconst 1, 1, 0, 0, 0), (142, .iastore, 1, 0, 0, 0)] (pc' := 143) (lc' := [(0, (2, 0, (b : Int))), (1, (0, 0, z10)), (2, (0, 0, z11))]) (st' := []) (M' := (ax_up M16 (b + 4) z11.toNat 1)) (C' := (True ∧ (0 ≤ z11 ∧ z11 < ((16 : Nat) : Int)))) (by decide +kernel) rfl ⟨trivial, by omega⟩ ?_
        refine ax_bdMe (fun M17 hM_M17 => ?_)
        refine ax_lump ax_layC ok_kX0 [(143, .aload_n 0, 1, 0, 0, 0), (144, .getfield 24, 3, 0, 4, 0), (147, .iload_n 2, 1, 0, 0, 0), (148, .aload_n 0, 1, 0, 0, 0), (149, .getfield 24, 3, 0, 4, 0), (152, .iload_n 1, 1, 0, 0, 0), (153, .iaload, 1, 0, 0, 0), (154, .iastore, 1, 0, 0, 0)] (pc' := 155) (lc' := [(0, (2, 0, (b : Int))), (1, (0, 0, z10)), (2, (0, 0, z11))]) (st' := []) (M' := (ax_up M17 (b + 5) z11.toNat (M17 (b + 5) z10.toNat))) (C' := ((True ∧ (0 ≤ z10 ∧ z10 < ((16 : Nat) : Int))) ∧ (0 ≤ z11 ∧ z11 < ((16 : Nat) : Int)))) (by decide +kernel) rfl ⟨⟨trivial, by omega⟩, by omega⟩ ?_
        refine ax_bdMe (fun M18 hM_M18 => ?_)
        refine ax_lump ax_layC ok_kX0 [(155, .aload_n 0, 1, 0, 0, 0), (156, .iload_n 1, 1, 0, 0, 0)] (pc' := 157) (lc' := [(0, (2, 0, (b : Int))), (1, (0, 0, z10)), (2, (0, 0, z11))]) (st' := [(0, 0, z10), (2, 0, (b : Int))]) (M' := M18) (C' := True) (by decide +kernel) rfl trivial ?_
        refine ax_cVv (G1 := gX0_wipe) (d1 := d + 1) (i := 163) (n := 1) (as := [(0, 0, z10)]) (st := []) (c := 0) (a := (b : Int)) (by decide +kernel) ax_cls0 calX0_wipe (by omega) rfl wt_443 wt_445 ws_31 (Nat.le_of_ble_eq_true rfl) rfl (c_X0_wipe d b z10 M18) (fun M19 => ?_)
        refine ax_lump ax_layC ok_kX0 [(160, .aload_n 0, 1, 0, 0, 0), (161, .iload_n 1, 1, 0, 0, 0), (162, .putfield 68, 3, 0, 17, 0)] (pc' := 165) (lc' := [(0, (2, 0, (b : Int))), (1, (0, 0, z10)), (2, (0, 0, z11))]) (st' := []) (M' := (ax_up M19 b 17 z10)) (C' := (True ∧ (0 ≤ z10 ∧ z10 < ((16 : Nat) : Int)))) (by decide +kernel) rfl ⟨trivial, by omega⟩ ?_
        refine ax_bdMe (fun M20 hM_M20 => ?_)
        refine ax_lump ax_layC ok_kX0 [(165, .iload_n 2, 1, 0, 0, 0)] (pc' := 166) (lc' := [(0, (2, 0, (b : Int))), (1, (0, 0, z10)), (2, (0, 0, z11))]) (st' := [(0, 0, z11)]) (M' := M20) (C' := True) (by decide +kernel) rfl trivial ?_
        exact ax_iret (by decide +kernel) rfl ⟨rfl, rfl, (show ((-2) : Int) ≤ z11 from by omega), (show z11 ≤ (15 : Int) from by omega)⟩
      · refine ax_lump ax_layC ok_kX0 [(106, .bipush (-2), 2, 0, 0, 0)] (pc' := 108) (lc' := [(0, (2, 0, (b : Int))), (1, (0, 0, z10)), (2, (0, 0, z11))]) (st' := [(0, 0, (-2))]) (M' := M) (C' := True) (by decide +kernel) rfl trivial ?_
        exact ax_iret (by decide +kernel) rfl ⟨rfl, rfl, (show ((-2) : Int) ≤ (-2) from by omega), (show (-2) ≤ (15 : Int) from by omega)⟩
def f_X0_firstOf_B2 (b : Nat) (w1 : Int) (M : ax_M) (i : Nat)  (kc : Unit → Int) (kx : Unit → Int) : Int := (if (M (b + 4) i) ≠ w1 then kc () else (i : Int))
def f_X0_firstOf_L2 (b : Nat) (w1 : Int) (M : ax_M) : Nat → Nat → (Unit → Int) → Int
  | 0, i, kx => kx ()
  | n + 1, i, kx => f_X0_firstOf_B2 b w1 M i  (fun _ => f_X0_firstOf_L2 b w1 M n (i + 1)  kx) kx
set_option maxRecDepth 100000 in
set_option maxHeartbeats 4000000 in
theorem wb_X0_firstOf_B2 (d : Nat) (b : Nat) (w1 : Int) (M : ax_M) (i : Nat)  (kc : Unit → Int) (kx : Unit → Int)  (hi : 0 ≤ i ∧ i < 16)  (hkc : ∀ (_ : Unit), ax_W ax_LC gX0_firstOf (d + 0) 2 [(0, (2, 0, (b : Int))), (1, (0, 0, w1)), (2, (0, 0, ((i : Int) + 1)))] [] M ((ax_qi (-1) 15 M) (kc ()))) (hkx : ∀ (_ : Unit), (True) → ax_W ax_LC gX0_firstOf (d + 0) 26 [] [] M ((ax_qi (-1) 15 M) (kx ()))) : ax_W ax_LC gX0_firstOf (d + 0) 8 [(0, (2, 0, (b : Int))), (1, (0, 0, w1)), (2, (0, 0, (i : Int)))] [] M ((ax_qi (-1) 15 M) (f_X0_firstOf_B2 b w1 M i  kc kx)) := by
  unfold f_X0_firstOf_B2
  refine ax_lump ax_layC ok_kX0 [(8, .aload_n 0, 1, 0, 0, 0), (9, .getfield 21, 3, 0, 3, 0), (12, .iload_n 2, 1, 0, 0, 0), (13, .iaload, 1, 0, 0, 0), (14, .iload_n 1, 1, 0, 0, 0)] (pc' := 15) (lc' := [(0, (2, 0, (b : Int))), (1, (0, 0, w1)), (2, (0, 0, (i : Int)))]) (st' := [(0, 0, w1), (0, 0, (M (b + 4) i))]) (M' := M) (C' := (True ∧ (0 ≤ (i : Int) ∧ (i : Int) < ((16 : Nat) : Int)))) (by decide +kernel) rfl ⟨trivial, by omega⟩ ?_
  refine ax_jne (off := 5) (tgt := 20) (by decide +kernel) (by decide) (fun h1 => ?_) (fun h1 => ?_)
  · refine ax_lump ax_layC ok_kX0 [(20, .iinc 2 1, 3, 1, 0, 0), (23, .goto (-21), 3, 2, 0, 0)] (pc' := 2) (lc' := [(2, (0, 0, ((i : Int) + 1))), (0, (2, 0, (b : Int))), (1, (0, 0, w1))]) (st' := []) (M' := M) (C' := (True ∧ ax_r32 ((i : Int) + 1))) (by decide +kernel) rfl ⟨trivial, ⟨by omega, by omega⟩⟩ ?_
    refine ax_pk [1,2,0] (lc' := [(0, (2, 0, (b : Int))), (1, (0, 0, w1)), (2, (0, 0, ((i : Int) + 1)))]) rfl ?_
    exact hkc () 
  · refine ax_lump ax_layC ok_kX0 [(18, .iload_n 2, 1, 0, 0, 0)] (pc' := 19) (lc' := [(0, (2, 0, (b : Int))), (1, (0, 0, w1)), (2, (0, 0, (i : Int)))]) (st' := [(0, 0, (i : Int))]) (M' := M) (C' := True) (by decide +kernel) rfl trivial ?_
    exact ax_iret (by decide +kernel) rfl ⟨rfl, rfl, (show ((-1) : Int) ≤ (i : Int) from by omega), (show (i : Int) ≤ (15 : Int) from by omega)⟩
set_option maxRecDepth 100000 in
set_option maxHeartbeats 4000000 in
theorem w_X0_firstOf_L2 (d : Nat) (b : Nat) (w1 : Int) (M : ax_M) (kx : Unit → Int)  (hkx : ∀ (_ : Unit), (True) → ax_W ax_LC gX0_firstOf (d + 0) 26 [] [] M ((ax_qi (-1) 15 M) (kx ()))) : ∀ (n : Nat) (i : Nat), 0 ≤ i ∧ i + n = 16 → ax_W ax_LC gX0_firstOf (d + 0) 2 [(0, (2, 0, (b : Int))), (1, (0, 0, w1)), (2, (0, 0, (i : Int)))] [] M ((ax_qi (-1) 15 M) (f_X0_firstOf_L2 b w1 M n i  kx)) := by
  intro n
  induction n with
  | zero =>
    intro i hin
    refine ax_lump ax_layC ok_kX0 [(2, .iload_n 2, 1, 0, 0, 0), (3, .bipush 16, 2, 0, 0, 0)] (pc' := 5) (lc' := [(0, (2, 0, (b : Int))), (1, (0, 0, w1)), (2, (0, 0, (i : Int)))]) (st' := [(0, 0, 16), (0, 0, (i : Int))]) (M' := M) (C' := True) (by decide +kernel) rfl trivial ?_
    refine ax_icmp_ge (off := 21) (tgt := 26) (by decide +kernel) (by decide) (fun h => ?_) (fun h => ?_)
    · refine ax_pk [] (lc' := []) rfl ?_
      exact hkx () trivial
    · exfalso; omega
  | succ n ih =>
    intro i hin
    refine ax_lump ax_layC ok_kX0 [(2, .iload_n 2, 1, 0, 0, 0), (3, .bipush 16, 2, 0, 0, 0)] (pc' := 5) (lc' := [(0, (2, 0, (b : Int))), (1, (0, 0, w1)), (2, (0, 0, (i : Int)))]) (st' := [(0, 0, 16), (0, 0, (i : Int))]) (M' := M) (C' := True) (by decide +kernel) rfl trivial ?_
    refine ax_icmp_ge (off := 21) (tgt := 26) (by decide +kernel) (by decide) (fun h => ?_) (fun h => ?_)
    · exfalso; omega
    · exact wb_X0_firstOf_B2 d b w1 M i  _ kx  (by omega)  (fun _ => ih (i + 1)  (by omega) ) hkx
def f_X0_firstOf (b : Nat) (x1 : Int) (M : ax_M) : Int := f_X0_firstOf_L2 b x1 M 16 0  (fun (_ : Unit) => (-1))
set_option maxRecDepth 100000 in
set_option maxHeartbeats 4000000 in
theorem c_X0_firstOf (d : Nat) (b : Nat) (x1 : Int) (M : ax_M)  : ax_Met ax_LC gX0_firstOf (d + 0) [(2, 0, (b : Int)), (0, 0, x1)] M ((ax_qi (-1) 15 M) (f_X0_firstOf b x1 M)) := by
  refine ax_body (by decide) (fun X => Nat.le_of_ble_eq_true rfl) (fun hok => ?_)
  have hr_x1 : (-2147483648) ≤ x1 ∧ x1 ≤ 2147483647 := hok (0, 0, x1) (by simp)
  show ax_W ax_LC gX0_firstOf (d + 0) 0 [(0, (2, 0, (b : Int))), (1, (0, 0, x1))] [] M _
  unfold f_X0_firstOf
  refine ax_lump ax_layC ok_kX0 [(0, .iconst 0, 1, 0, 0, 0), (1, .istore_n 2, 1, 0, 0, 0)] (pc' := 2) (lc' := [(2, (0, 0, 0)), (0, (2, 0, (b : Int))), (1, (0, 0, x1))]) (st' := []) (M' := M) (C' := True) (by decide +kernel) rfl trivial ?_
  refine ax_pk [1,2,0] (lc' := [(0, (2, 0, (b : Int))), (1, (0, 0, x1)), (2, (0, 0, 0))]) rfl ?_
  refine w_X0_firstOf_L2 d b x1 M _  (fun _ hx_1 => ?_) 16 0  (by omega) 
  refine ax_lump ax_layC ok_kX0 [(26, .iconst (-1), 1, 0, 0, 0)] (pc' := 27) (lc' := []) (st' := [(0, 0, (-1))]) (M' := M) (C' := True) (by decide +kernel) rfl trivial ?_
  exact ax_iret (by decide +kernel) rfl ⟨rfl, rfl, (show ((-1) : Int) ≤ (-1) from by omega), (show (-1) ≤ (15 : Int) from by omega)⟩
def f_X0_owned_B2 (b : Nat) (w1 : Int) (w2 : Int) (M : ax_M) (i : Nat)  (kc : Unit → Int) (kx : Unit → Int) : Int := (if (M (b + 4) i) ≠ w1 then kc () else (if (M (b + 5) i) ≠ w2 then kc () else (i : Int)))
def f_X0_owned_L2 (b : Nat) (w1 : Int) (w2 : Int) (M : ax_M) : Nat → Nat → (Unit → Int) → Int
  | 0, i, kx => kx ()
  | n + 1, i, kx => f_X0_owned_B2 b w1 w2 M i  (fun _ => f_X0_owned_L2 b w1 w2 M n (i + 1)  kx) kx
set_option maxRecDepth 100000 in
set_option maxHeartbeats 4000000 in
theorem wb_X0_owned_B2 (d : Nat) (b : Nat) (w1 : Int) (w2 : Int) (M : ax_M) (i : Nat)  (kc : Unit → Int) (kx : Unit → Int)  (hi : 0 ≤ i ∧ i < 16)  (hkc : ∀ (_ : Unit), ax_W ax_LC gX0_owned (d + 0) 2 [(0, (2, 0, (b : Int))), (1, (0, 0, w1)), (2, (0, 0, w2)), (3, (0, 0, ((i : Int) + 1)))] [] M ((ax_qi (-1) 15 M) (kc ()))) (hkx : ∀ (_ : Unit), (True) → ax_W ax_LC gX0_owned (d + 0) 36 [] [] M ((ax_qi (-1) 15 M) (kx ()))) : ax_W ax_LC gX0_owned (d + 0) 8 [(0, (2, 0, (b : Int))), (1, (0, 0, w1)), (2, (0, 0, w2)), (3, (0, 0, (i : Int)))] [] M ((ax_qi (-1) 15 M) (f_X0_owned_B2 b w1 w2 M i  kc kx)) := by
  unfold f_X0_owned_B2
  refine ax_lump ax_layC ok_kX0 [(8, .aload_n 0, 1, 0, 0, 0), (9, .getfield 21, 3, 0, 3, 0), (12, .iload_n 3, 1, 0, 0, 0), (13, .iaload, 1, 0, 0, 0), (14, .iload_n 1, 1, 0, 0, 0)] (pc' := 15) (lc' := [(0, (2, 0, (b : Int))), (1, (0, 0, w1)), (2, (0, 0, w2)), (3, (0, 0, (i : Int)))]) (st' := [(0, 0, w1), (0, 0, (M (b + 4) i))]) (M' := M) (C' := (True ∧ (0 ≤ (i : Int) ∧ (i : Int) < ((16 : Nat) : Int)))) (by decide +kernel) rfl ⟨trivial, by omega⟩ ?_
  refine ax_jne (off := 15) (tgt := 30) (by decide +kernel) (by decide) (fun h1 => ?_) (fun h1 => ?_)
  · refine ax_lump ax_layC ok_kX0 [(30, .iinc 3 1, 3, 1, 0, 0), (33, .goto (-31), 3, 2, 0, 0)] (pc' := 2) (lc' := [(3, (0, 0, ((i : Int) + 1))), (0, (2, 0, (b : Int))), (1, (0, 0, w1)), (2, (0, 0, w2))]) (st' := []) (M' := M) (C' := (True ∧ ax_r32 ((i : Int) + 1))) (by decide +kernel) rfl ⟨trivial, ⟨by omega, by omega⟩⟩ ?_
    refine ax_pk [1,2,3,0] (lc' := [(0, (2, 0, (b : Int))), (1, (0, 0, w1)), (2, (0, 0, w2)), (3, (0, 0, ((i : Int) + 1)))]) rfl ?_
    exact hkc () 
  · refine ax_lump ax_layC ok_kX0 [(18, .aload_n 0, 1, 0, 0, 0), (19, .getfield 24, 3, 0, 4, 0), (22, .iload_n 3, 1, 0, 0, 0), (23, .iaload, 1, 0, 0, 0), (24, .iload_n 2, 1, 0, 0, 0)] (pc' := 25) (lc' := [(0, (2, 0, (b : Int))), (1, (0, 0, w1)), (2, (0, 0, w2)), (3, (0, 0, (i : Int)))]) (st' := [(0, 0, w2), (0, 0, (M (b + 5) i))]) (M' := M) (C' := (True ∧ (0 ≤ (i : Int) ∧ (i : Int) < ((16 : Nat) : Int)))) (by decide +kernel) rfl ⟨trivial, by omega⟩ ?_
    refine ax_jne (off := 5) (tgt := 30) (by decide +kernel) (by decide) (fun h2 => ?_) (fun h2 => ?_)
    · refine ax_lump ax_layC ok_kX0 [(30, .iinc 3 1, 3, 1, 0, 0), (33, .goto (-31), 3, 2, 0, 0)] (pc' := 2) (lc' := [(3, (0, 0, ((i : Int) + 1))), (0, (2, 0, (b : Int))), (1, (0, 0, w1)), (2, (0, 0, w2))]) (st' := []) (M' := M) (C' := (True ∧ ax_r32 ((i : Int) + 1))) (by decide +kernel) rfl ⟨trivial, ⟨by omega, by omega⟩⟩ ?_
      refine ax_pk [1,2,3,0] (lc' := [(0, (2, 0, (b : Int))), (1, (0, 0, w1)), (2, (0, 0, w2)), (3, (0, 0, ((i : Int) + 1)))]) rfl ?_
      exact hkc () 
    · refine ax_lump ax_layC ok_kX0 [(28, .iload_n 3, 1, 0, 0, 0)] (pc' := 29) (lc' := [(0, (2, 0, (b : Int))), (1, (0, 0, w1)), (2, (0, 0, w2)), (3, (0, 0, (i : Int)))]) (st' := [(0, 0, (i : Int))]) (M' := M) (C' := True) (by decide +kernel) rfl trivial ?_
      exact ax_iret (by decide +kernel) rfl ⟨rfl, rfl, (show ((-1) : Int) ≤ (i : Int) from by omega), (show (i : Int) ≤ (15 : Int) from by omega)⟩
set_option maxRecDepth 100000 in
set_option maxHeartbeats 4000000 in
theorem w_X0_owned_L2 (d : Nat) (b : Nat) (w1 : Int) (w2 : Int) (M : ax_M) (kx : Unit → Int)  (hkx : ∀ (_ : Unit), (True) → ax_W ax_LC gX0_owned (d + 0) 36 [] [] M ((ax_qi (-1) 15 M) (kx ()))) : ∀ (n : Nat) (i : Nat), 0 ≤ i ∧ i + n = 16 → ax_W ax_LC gX0_owned (d + 0) 2 [(0, (2, 0, (b : Int))), (1, (0, 0, w1)), (2, (0, 0, w2)), (3, (0, 0, (i : Int)))] [] M ((ax_qi (-1) 15 M) (f_X0_owned_L2 b w1 w2 M n i  kx)) := by
  intro n
  induction n with
  | zero =>
    intro i hin
    refine ax_lump ax_layC ok_kX0 [(2, .iload_n 3, 1, 0, 0, 0), (3, .bipush 16, 2, 0, 0, 0)] (pc' := 5) (lc' := [(0, (2, 0, (b : Int))), (1, (0, 0, w1)), (2, (0, 0, w2)), (3, (0, 0, (i : Int)))]) (st' := [(0, 0, 16), (0, 0, (i : Int))]) (M' := M) (C' := True) (by decide +kernel) rfl trivial ?_
    refine ax_icmp_ge (off := 31) (tgt := 36) (by decide +kernel) (by decide) (fun h => ?_) (fun h => ?_)
    · refine ax_pk [] (lc' := []) rfl ?_
      exact hkx () trivial
    · exfalso; omega
  | succ n ih =>
    intro i hin
    refine ax_lump ax_layC ok_kX0 [(2, .iload_n 3, 1, 0, 0, 0), (3, .bipush 16, 2, 0, 0, 0)] (pc' := 5) (lc' := [(0, (2, 0, (b : Int))), (1, (0, 0, w1)), (2, (0, 0, w2)), (3, (0, 0, (i : Int)))]) (st' := [(0, 0, 16), (0, 0, (i : Int))]) (M' := M) (C' := True) (by decide +kernel) rfl trivial ?_
    refine ax_icmp_ge (off := 31) (tgt := 36) (by decide +kernel) (by decide) (fun h => ?_) (fun h => ?_)
    · exfalso; omega
    · exact wb_X0_owned_B2 d b w1 w2 M i  _ kx  (by omega)  (fun _ => ih (i + 1)  (by omega) ) hkx
def f_X0_owned (b : Nat) (x1 : Int) (x2 : Int) (M : ax_M) : Int := f_X0_owned_L2 b x1 x2 M 16 0  (fun (_ : Unit) => (-1))
set_option maxRecDepth 100000 in
set_option maxHeartbeats 4000000 in
theorem c_X0_owned (d : Nat) (b : Nat) (x1 : Int) (x2 : Int) (M : ax_M)  : ax_Met ax_LC gX0_owned (d + 0) [(2, 0, (b : Int)), (0, 0, x1), (0, 0, x2)] M ((ax_qi (-1) 15 M) (f_X0_owned b x1 x2 M)) := by
  refine ax_body (by decide) (fun X => Nat.le_of_ble_eq_true rfl) (fun hok => ?_)
  have hr_x1 : (-2147483648) ≤ x1 ∧ x1 ≤ 2147483647 := hok (0, 0, x1) (by simp)
  have hr_x2 : (-2147483648) ≤ x2 ∧ x2 ≤ 2147483647 := hok (0, 0, x2) (by simp)
  show ax_W ax_LC gX0_owned (d + 0) 0 [(0, (2, 0, (b : Int))), (1, (0, 0, x1)), (2, (0, 0, x2))] [] M _
  unfold f_X0_owned
  refine ax_lump ax_layC ok_kX0 [(0, .iconst 0, 1, 0, 0, 0), (1, .istore_n 3, 1, 0, 0, 0)] (pc' := 2) (lc' := [(3, (0, 0, 0)), (0, (2, 0, (b : Int))), (1, (0, 0, x1)), (2, (0, 0, x2))]) (st' := []) (M' := M) (C' := True) (by decide +kernel) rfl trivial ?_
  refine ax_pk [1,2,3,0] (lc' := [(0, (2, 0, (b : Int))), (1, (0, 0, x1)), (2, (0, 0, x2)), (3, (0, 0, 0))]) rfl ?_
  refine w_X0_owned_L2 d b x1 x2 M _  (fun _ hx_2 => ?_) 16 0  (by omega) 
  refine ax_lump ax_layC ok_kX0 [(36, .iconst (-1), 1, 0, 0, 0)] (pc' := 37) (lc' := []) (st' := [(0, 0, (-1))]) (M' := M) (C' := True) (by decide +kernel) rfl trivial ?_
  exact ax_iret (by decide +kernel) rfl ⟨rfl, rfl, (show ((-1) : Int) ≤ (-1) from by omega), (show (-1) ≤ (15 : Int) from by omega)⟩
