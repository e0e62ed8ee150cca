def f_X0_valueOf (b : Nat) (x1 : Int) (M : ax_M) : Int := ax_bd (f_X0_latestOf b x1 M) (fun y2 => (if y2 ≠ (-1) then (M (b + 2) y2.toNat) else 100))
set_option maxRecDepth 100000 in
set_option maxHeartbeats 4000000 in
theorem c_X0_valueOf (d : Nat) (b : Nat) (x1 : Int) (M : ax_M)  : ax_Met ax_LC gX0_valueOf (d + 3) [(2, 0, (b : Int)), (0, 0, x1)] M ((ax_qi (-2147483648) 2147483647 M) (f_X0_valueOf b x1 M)) := by
  refine ax_body (by decide) (fun X => Nat.le_of_ble_eq_true rfl) (fun hok => ?_)
  have hr_x1 : (-2147483648) ≤ x1 ∧ x1 ≤ 2147483647 := hok (0, 0, x1) (by simp)
  show ax_W ax_LC gX0_valueOf (d + 3) 0 [(0, (2, 0, (b : Int))), (1, (0, 0, x1))] [] M _
  unfold f_X0_valueOf
  refine ax_lump ax_layC ok_kX0 [(0, .aload_n 0, 1, 0, 0, 0), (1, .iload_n 1, 1, 0, 0, 0)] (pc' := 2) (lc' := [(0, (2, 0, (b : Int))), (1, (0, 0, x1))]) (st' := [(0, 0, x1), (2, 0, (b : Int))]) (M' := M) (C' := True) (by decide +kernel) rfl trivial ?_
  refine ax_cVi (G1 := gX0_latestOf) (d1 := d + 2) (i := 156) (n := 1) (as := [(0, 0, x1)]) (st := []) (c := 0) (a := (b : Int)) (by decide +kernel) ax_cls0 calX0_latestOf (by omega) rfl wt_414 wt_416 ws_24 (Nat.le_of_ble_eq_true rfl) rfl (c_X0_latestOf d b x1 M) (fun hc1 => ?_)
  refine ax_lump ax_layC ok_kX0 [(5, .istore_n 2, 1, 0, 0, 0)] (pc' := 6) (lc' := [(2, (0, 0, (f_X0_latestOf b x1 M))), (0, (2, 0, (b : Int))), (1, (0, 0, x1))]) (st' := []) (M' := M) (C' := True) (by decide +kernel) rfl trivial ?_
  refine ax_bdI (lo := (-1)) (hi := 63) (e := (f_X0_latestOf b x1 M)) (fun y2 => [(2, (0, 0, y2)), (0, (2, 0, (b : Int))), (1, (0, 0, x1))]) (fun y2 => []) (by omega) (fun y2 h_y2 => ?_)
  refine ax_lump ax_layC ok_kX0 [(6, .iload_n 2, 1, 0, 0, 0), (7, .iconst (-1), 1, 0, 0, 0)] (pc' := 8) (lc' := [(2, (0, 0, y2)), (0, (2, 0, (b : Int))), (1, (0, 0, x1))]) (st' := [(0, 0, (-1)), (0, 0, y2)]) (M' := M) (C' := True) (by decide +kernel) rfl trivial ?_
  refine ax_jne (off := 8) (tgt := 16) (by decide +kernel) (by decide) (fun h3 => ?_) (fun h3 => ?_)
  · refine ax_lump ax_layC ok_kX0 [(16, .aload_n 0, 1, 0, 0, 0), (17, .getfield 15, 3, 0, 1, 0), (20, .iload_n 2, 1, 0, 0, 0), (21, .iaload, 1, 0, 0, 0)] (pc' := 22) (lc' := [(2, (0, 0, y2)), (0, (2, 0, (b : Int))), (1, (0, 0, x1))]) (st' := [(0, 0, (M (b + 2) y2.toNat))]) (M' := M) (C' := (True ∧ (0 ≤ y2 ∧ y2 < ((64 : Nat) : Int)))) (by decide +kernel) rfl ⟨trivial, by omega⟩ ?_
    refine ax_rngS (fun hr => ?_)
    exact ax_iret (by decide +kernel) rfl ⟨rfl, rfl, hr.1, hr.2⟩
  · refine ax_lump ax_layC ok_kX0 [(11, .bipush 100, 2, 0, 0, 0), (13, .goto 9, 3, 22, 0, 0)] (pc' := 22) (lc' := [(2, (0, 0, y2)), (0, (2, 0, (b : Int))), (1, (0, 0, x1))]) (st' := [(0, 0, 100)]) (M' := M) (C' := True) (by decide +kernel) rfl trivial ?_
    refine ax_rngS (fun hr => ?_)
    exact ax_iret (by decide +kernel) rfl ⟨rfl, rfl, hr.1, hr.2⟩
def f_X0_writtenPages_B4 (b : Nat) (M : ax_M) (i : Nat) (v1 : Int) (kc : Int → Int) (kx : Int → Int) : Int := (if (M (b + 1) i) = (-1) then ax_bd (ax_or v1 0) (fun y2 => kc y2) else ax_bd (ax_or v1 (ax_shl 1 (M (b + 1) i))) (fun y3 => kc y3))
def f_X0_writtenPages_L4 (b : Nat) (M : ax_M) : Nat → Nat → Int → (Int → Int) → Int
  | 0, i, v1, kx => kx v1
  | n + 1, i, v1, kx => f_X0_writtenPages_B4 b M i v1 (fun u1 => f_X0_writtenPages_L4 b M n (i + 1) u1 kx) kx
set_option maxRecDepth 100000 in
set_option maxHeartbeats 4000000 in
theorem wb_X0_writtenPages_B4 (d : Nat) (b : Nat) (M : ax_M) (i : Nat) (v1 : Int) (kc : Int → Int) (kx : Int → Int)  (hi : 0 ≤ i ∧ i < 64)  (hkc : ∀ (u1 : Int), ax_W ax_LC gX0_writtenPages (d + 1) 4 [(0, (2, 0, (b : Int))), (1, (0, 0, u1)), (2, (0, 0, ((i : Int) + 1)))] [] M ((ax_qi (-2147483648) 2147483647 M) (kc u1))) (hkx : ∀ (x1 : Int), (True) → ax_W ax_LC gX0_writtenPages (d + 1) 41 [(1, (0, 0, x1))] [] M ((ax_qi (-2147483648) 2147483647 M) (kx x1))) : ax_W ax_LC gX0_writtenPages (d + 1) 10 [(0, (2, 0, (b : Int))), (1, (0, 0, v1)), (2, (0, 0, (i : Int)))] [] M ((ax_qi (-2147483648) 2147483647 M) (f_X0_writtenPages_B4 b M i v1 kc kx)) := by
  unfold f_X0_writtenPages_B4
  refine ax_lump ax_layC ok_kX0 [(10, .iload_n 1, 1, 0, 0, 0), (11, .aload_n 0, 1, 0, 0, 0), (12, .getfield 9, 3, 0, 0, 0), (15, .iload_n 2, 1, 0, 0, 0), (16, .iaload, 1, 0, 0, 0), (17, .iconst (-1), 1, 0, 0, 0)] (pc' := 18) (lc' := [(0, (2, 0, (b : Int))), (1, (0, 0, v1)), (2, (0, 0, (i : Int)))]) (st' := [(0, 0, (-1)), (0, 0, (M (b + 1) i)), (0, 0, v1)]) (M' := M) (C' := (True ∧ (0 ≤ (i : Int) ∧ (i : Int) < ((64 : Nat) : Int)))) (by decide +kernel) rfl ⟨trivial, by omega⟩ ?_
  refine ax_jeq (off := 14) (tgt := 32) (by decide +kernel) (by decide) (fun h1 => ?_) (fun h1 => ?_)
  · refine ax_lump ax_layC ok_kX0 [(32, .iconst 0, 1, 0, 0, 0), (33, .ior, 1, 0, 0, 0), (34, .istore_n 1, 1, 0, 0, 0)] (pc' := 35) (lc' := [(1, (0, 0, (ax_or v1 0))), (0, (2, 0, (b : Int))), (2, (0, 0, (i : Int)))]) (st' := []) (M' := M) (C' := True) (by decide +kernel) rfl trivial ?_
    refine ax_bdI0 (e := (ax_or v1 0)) (fun y2 => [(1, (0, 0, y2)), (0, (2, 0, (b : Int))), (2, (0, 0, (i : Int)))]) (fun y2 => []) (fun y2 => ?_)
    refine ax_lump ax_layC ok_kX0 [(35, .iinc 2 1, 3, 1, 0, 0), (38, .goto (-34), 3, 4, 0, 0)] (pc' := 4) (lc' := [(2, (0, 0, ((i : Int) + 1))), (1, (0, 0, y2)), (0, (2, 0, (b : Int)))]) (st' := []) (M' := M) (C' := (True ∧ ax_r32 ((i : Int) + 1))) (by decide +kernel) rfl ⟨trivial, ⟨by omega, by omega⟩⟩ ?_
    refine ax_pk [2,1,0] (lc' := [(0, (2, 0, (b : Int))), (1, (0, 0, y2)), (2, (0, 0, ((i : Int) + 1)))]) rfl ?_
    exact hkc y2 
  · refine ax_lump ax_layC ok_kX0 [(21, .iconst 1, 1, 0, 0, 0), (22, .aload_n 0, 1, 0, 0, 0), (23, .getfield 9, 3, 0, 0, 0), (26, .iload_n 2, 1, 0, 0, 0), (27, .iaload, 1, 0, 0, 0), (28, .ishl, 1, 0, 0, 0), (29, .goto 4, 3, 33, 0, 0), (33, .ior, 1, 0, 0, 0), (34, .istore_n 1, 1, 0, 0, 0)] (pc' := 35) (lc' := [(1, (0, 0, (ax_or v1 (ax_shl 1 (M (b + 1) i))))), (0, (2, 0, (b : Int))), (2, (0, 0, (i : Int)))]) (st' := []) (M' := M) (C' := (True ∧ (0 ≤ (i : Int) ∧ (i : Int) < ((64 : Nat) : Int)))) (by decide +kernel) rfl ⟨trivial, by omega⟩ ?_
    refine ax_bdI0 (e := (ax_or v1 (ax_shl 1 (M (b + 1) i)))) (fun y3 => [(1, (0, 0, y3)), (0, (2, 0, (b : Int))), (2, (0, 0, (i : Int)))]) (fun y3 => []) (fun y3 => ?_)
    refine ax_lump ax_layC ok_kX0 [(35, .iinc 2 1, 3, 1, 0, 0), (38, .goto (-34), 3, 4, 0, 0)] (pc' := 4) (lc' := [(2, (0, 0, ((i : Int) + 1))), (1, (0, 0, y3)), (0, (2, 0, (b : Int)))]) (st' := []) (M' := M) (C' := (True ∧ ax_r32 ((i : Int) + 1))) (by decide +kernel) rfl ⟨trivial, ⟨by omega, by omega⟩⟩ ?_
    refine ax_pk [2,1,0] (lc' := [(0, (2, 0, (b : Int))), (1, (0, 0, y3)), (2, (0, 0, ((i : Int) + 1)))]) rfl ?_
    exact hkc y3 
set_option maxRecDepth 100000 in
set_option maxHeartbeats 4000000 in
theorem w_X0_writtenPages_L4 (d : Nat) (b : Nat) (M : ax_M) (kx : Int → Int)  (hkx : ∀ (x1 : Int), (True) → ax_W ax_LC gX0_writtenPages (d + 1) 41 [(1, (0, 0, x1))] [] M ((ax_qi (-2147483648) 2147483647 M) (kx x1))) : ∀ (n : Nat) (i : Nat) (v1 : Int), 0 ≤ i ∧ i + n = 64 → ax_W ax_LC gX0_writtenPages (d + 1) 4 [(0, (2, 0, (b : Int))), (1, (0, 0, v1)), (2, (0, 0, (i : Int)))] [] M ((ax_qi (-2147483648) 2147483647 M) (f_X0_writtenPages_L4 b M n i v1 kx)) := by
  intro n
  induction n with
  | zero =>
    intro i v1 hin
    refine ax_lump ax_layC ok_kX0 [(4, .iload_n 2, 1, 0, 0, 0), (5, .bipush 64, 2, 0, 0, 0)] (pc' := 7) (lc' := [(0, (2, 0, (b : Int))), (1, (0, 0, v1)), (2, (0, 0, (i : Int)))]) (st' := [(0, 0, 64), (0, 0, (i : Int))]) (M' := M) (C' := True) (by decide +kernel) rfl trivial ?_
    refine ax_icmp_ge (off := 34) (tgt := 41) (by decide +kernel) (by decide) (fun h => ?_) (fun h => ?_)
    · refine ax_pk [1] (lc' := [(1, (0, 0, v1))]) rfl ?_
      exact hkx v1 trivial
    · exfalso; omega
  | succ n ih =>
    intro i v1 hin
    refine ax_lump ax_layC ok_kX0 [(4, .iload_n 2, 1, 0, 0, 0), (5, .bipush 64, 2, 0, 0, 0)] (pc' := 7) (lc' := [(0, (2, 0, (b : Int))), (1, (0, 0, v1)), (2, (0, 0, (i : Int)))]) (st' := [(0, 0, 64), (0, 0, (i : Int))]) (M' := M) (C' := True) (by decide +kernel) rfl trivial ?_
    refine ax_icmp_ge (off := 34) (tgt := 41) (by decide +kernel) (by decide) (fun h => ?_) (fun h => ?_)
    · exfalso; omega
    · exact wb_X0_writtenPages_B4 d b M i v1 _ kx  (by omega)  (fun u1 => ih (i + 1) u1 (by omega) ) hkx
def f_X0_writtenPages (b : Nat) (M : ax_M) : Int := f_X0_writtenPages_L4 b M 64 0 0 (fun z4 => (f_J_bitCount z4 M))
set_option maxRecDepth 100000 in
set_option maxHeartbeats 4000000 in
theorem c_X0_writtenPages (d : Nat) (b : Nat) (M : ax_M)  : ax_Met ax_LC gX0_writtenPages (d + 1) [(2, 0, (b : Int))] M ((ax_qi (-2147483648) 2147483647 M) (f_X0_writtenPages b M)) := by
  refine ax_body (by decide) (fun X => Nat.le_of_ble_eq_true rfl) (fun hok => ?_)
  show ax_W ax_LC gX0_writtenPages (d + 1) 0 [(0, (2, 0, (b : Int)))] [] M _
  unfold f_X0_writtenPages
  refine ax_lump ax_layC ok_kX0 [(0, .iconst 0, 1, 0, 0, 0), (1, .istore_n 1, 1, 0, 0, 0), (2, .iconst 0, 1, 0, 0, 0), (3, .istore_n 2, 1, 0, 0, 0)] (pc' := 4) (lc' := [(2, (0, 0, 0)), (1, (0, 0, 0)), (0, (2, 0, (b : Int)))]) (st' := []) (M' := M) (C' := True) (by decide +kernel) rfl trivial ?_
  refine ax_pk [2,1,0] (lc' := [(0, (2, 0, (b : Int))), (1, (0, 0, 0)), (2, (0, 0, 0))]) rfl ?_
  refine w_X0_writtenPages_L4 d b M _  (fun z4 hx_4 => ?_) 64 0 0 (by omega) 
  refine ax_lump ax_layC ok_kX0 [(41, .iload_n 1, 1, 0, 0, 0)] (pc' := 42) (lc' := [(1, (0, 0, z4))]) (st' := [(0, 0, z4)]) (M' := M) (C' := True) (by decide +kernel) rfl trivial ?_
  refine ax_cSi (G1 := gJ_bitCount) (d1 := d + 0) (i := 178) (n := 1) (as := [(0, 0, z4)]) (st := []) (by decide +kernel) calJ_bitCount (by omega) rfl wt_467 wt_468 (Nat.le_of_ble_eq_true rfl) rfl (c_J_bitCount ax_LC ax_layC d z4 M) (fun hc5 => ?_)
  refine ax_rngS (fun hr => ?_)
  exact ax_iret (by decide +kernel) rfl ⟨rfl, rfl, hr.1, hr.2⟩
def f_X0_thingsNow (b : Nat) (M : ax_M) : ax_M := ax_bd (ax_up M (b + 11) 0 (f_X0_wear b M)) (fun M2 => ax_bd (ax_up M2 (b + 11) 1 (f_X0_howMany b 0 M2)) (fun M4 => ax_bd (ax_up M4 (b + 11) 2 (ax_rem (M4 (b + 9) 1) 10)) (fun M5 => ax_bd (ax_up M5 (b + 11) 3 (ax_rem (M5 (b + 9) 2) 10)) (fun M6 => ax_bd (ax_up M6 (b + 11) 4 ((f_X0_howMany b 3 M6) + (f_X0_howMany b 4 M6))) (fun M9 => ax_bd (ax_up M9 (b + 11) 5 (ax_wr ((f_X0_writtenLeaves b M9) - (f_X0_writtenPages b M9)))) (fun M12 => M12))))))
set_option maxRecDepth 100000 in
set_option maxHeartbeats 4000000 in
theorem c_X0_thingsNow (d : Nat) (b : Nat) (M : ax_M)  : ax_Met ax_LC gX0_thingsNow (d + 2) [(2, 0, (b : Int))] M ((ax_qa 3 6 ((b : Int) + 11)) (f_X0_thingsNow b M)) := by
  refine ax_body (by decide) (fun X => Nat.le_of_ble_eq_true rfl) (fun hok => ?_)
  show ax_W ax_LC gX0_thingsNow (d + 2) 0 [(0, (2, 0, (b : Int)))] [] M _
  unfold f_X0_thingsNow
  refine ax_lump ax_layC ok_kX0 [(0, .aload_n 0, 1, 0, 0, 0), (1, .getfield 44, 3, 0, 10, 0), (4, .iconst 0, 1, 0, 0, 0), (5, .aload_n 0, 1, 0, 0, 0)] (pc' := 6) (lc' := [(0, (2, 0, (b : Int)))]) (st' := [(2, 0, (b : Int)), (0, 0, 0), (3, 6, ((b : Int) + 11))]) (M' := M) (C' := True) (by decide +kernel) rfl trivial ?_
  refine ax_cVi (G1 := gX0_wear) (d1 := d + 1) (i := 197) (n := 0) (as := []) (st := [(0, 0, 0), (3, 6, ((b : Int) + 11))]) (c := 0) (a := (b : Int)) (by decide +kernel) ax_cls0 calX0_wear (by omega) rfl wt_478 wt_480 ws_38 (Nat.le_of_ble_eq_true rfl) rfl (c_X0_wear d b M) (fun hc1 => ?_)
  refine ax_lump ax_layC ok_kX0 [(9, .iastore, 1, 0, 0, 0)] (pc' := 10) (lc' := [(0, (2, 0, (b : Int)))]) (st' := []) (M' := (ax_up M (b + 11) 0 (f_X0_wear b M))) (C' := (True ∧ (0 ≤ 0 ∧ 0 < ((6 : Nat) : Int)))) (by decide +kernel) rfl ⟨trivial, by omega⟩ ?_
  refine ax_bdMe (fun M2 hM_M2 => ?_)
  refine ax_lump ax_layC ok_kX0 [(10, .aload_n 0, 1, 0, 0, 0), (11, .getfield 44, 3, 0, 10, 0), (14, .iconst 1, 1, 0, 0, 0), (15, .aload_n 0, 1, 0, 0, 0), (16, .iconst 0, 1, 0, 0, 0)] (pc' := 17) (lc' := [(0, (2, 0, (b : Int)))]) (st' := [(0, 0, 0), (2, 0, (b : Int)), (0, 0, 1), (3, 6, ((b : Int) + 11))]) (M' := M2) (C' := True) (by decide +kernel) rfl trivial ?_
  refine ax_cVi (G1 := gX0_howMany) (d1 := d + 0) (i := 133) (n := 1) (as := [(0, 0, 0)]) (st := [(0, 0, 1), (3, 6, ((b : Int) + 11))]) (c := 0) (a := (b : Int)) (by decide +kernel) ax_cls0 calX0_howMany (by omega) rfl wt_455 wt_457 ws_34 (Nat.le_of_ble_eq_true rfl) rfl (c_X0_howMany d b 0 M2) (fun hc3 => ?_)
  refine ax_lump ax_layC ok_kX0 [(20, .iastore, 1, 0, 0, 0)] (pc' := 21) (lc' := [(0, (2, 0, (b : Int)))]) (st' := []) (M' := (ax_up M2 (b + 11) 1 (f_X0_howMany b 0 M2))) (C' := (True ∧ (0 ≤ 1 ∧ 1 < ((6 : Nat) : Int)))) (by decide +kernel) rfl ⟨trivial, by omega⟩ ?_
  refine ax_bdMe (fun M4 hM_M4 => ?_)
  refine ax_lump ax_layC ok_kX0 [(21, .aload_n 0, 1, 0, 0, 0), (22, .getfield 44, 3, 0, 10, 0), (25, .iconst 2, 1, 0, 0, 0), (26, .aload_n 0, 1, 0, 0, 0), (27, .getfield 36, 3, 0, 8, 0), (30, .iconst 1, 1, 0, 0, 0), (31, .iaload, 1, 0, 0, 0), (32, .bipush 10, 2, 0, 0, 0), (34, .irem, 1, 0, 0, 0), (35, .iastore, 1, 0, 0, 0)] (pc' := 36) (lc' := [(0, (2, 0, (b : Int)))]) (st' := []) (M' := (ax_up M4 (b + 11) 2 (ax_rem (M4 (b + 9) 1) 10))) (C' := (((True ∧ (0 ≤ 1 ∧ 1 < ((7 : Nat) : Int))) ∧ 10 ≠ 0) ∧ (0 ≤ 2 ∧ 2 < ((6 : Nat) : Int)))) (by decide +kernel) rfl ⟨⟨⟨trivial, by omega⟩, by omega⟩, by omega⟩ ?_
  refine ax_bdMe (fun M5 hM_M5 => ?_)
  refine ax_lump ax_layC ok_kX0 [(36, .aload_n 0, 1, 0, 0, 0), (37, .getfield 44, 3, 0, 10, 0), (40, .iconst 3, 1, 0, 0, 0), (41, .aload_n 0, 1, 0, 0, 0), (42, .getfield 36, 3, 0, 8, 0), (45, .iconst 2, 1, 0, 0, 0), (46, .iaload, 1, 0, 0, 0), (47, .bipush 10, 2, 0, 0, 0), (49, .irem, 1, 0, 0, 0), (50, .iastore, 1, 0, 0, 0)] (pc' := 51) (lc' := [(0, (2, 0, (b : Int)))]) (st' := []) (M' := (ax_up M5 (b + 11) 3 (ax_rem (M5 (b + 9) 2) 10))) (C' := (((True ∧ (0 ≤ 2 ∧ 2 < ((7 : Nat) : Int))) ∧ 10 ≠ 0) ∧ (0 ≤ 3 ∧ 3 < ((6 : Nat) : Int)))) (by decide +kernel) rfl ⟨⟨⟨trivial, by omega⟩, by omega⟩, by omega⟩ ?_
  refine ax_bdMe (fun M6 hM_M6 => ?_)
  refine ax_lump ax_layC ok_kX0 [(51, .aload_n 0, 1, 0, 0, 0), (52, .getfield 44, 3, 0, 10, 0), (55, .iconst 4, 1, 0, 0, 0), (56, .aload_n 0, 1, 0, 0, 0), (57, .iconst 3, 1, 0, 0, 0)] (pc' := 58) (lc' := [(0, (2, 0, (b : Int)))]) (st' := [(0, 0, 3), (2, 0, (b : Int)), (0, 0, 4), (3, 6, ((b : Int) + 11))]) (M' := M6) (C' := True) (by decide +kernel) rfl trivial ?_
  refine ax_cVi (G1 := gX0_howMany) (d1 := d + 0) (i := 133) (n := 1) (as := [(0, 0, 3)]) (st := [(0, 0, 4), (3, 6, ((b : Int) + 11))]) (c := 0) (a := (b : Int)) (by decide +kernel) ax_cls0 calX0_howMany (by omega) rfl wt_455 wt_457 ws_34 (Nat.le_of_ble_eq_true rfl) rfl (c_X0_howMany d b 3 M6) (fun hc7 => ?_)
  refine ax_lump ax_layC ok_kX0 [(61, .aload_n 0, 1, 0, 0, 0), (62, .iconst 4, 1, 0, 0, 0)] (pc' := 63) (lc' := [(0, (2, 0, (b : Int)))]) (st' := [(0, 0, 4), (2, 0, (b : Int)), (0, 0, (f_X0_howMany b 3 M6)), (0, 0, 4), (3, 6, ((b : Int) + 11))]) (M' := M6) (C' := True) (by decide +kernel) rfl trivial ?_
  refine ax_cVi (G1 := gX0_howMany) (d1 := d + 0) (i := 133) (n := 1) (as := [(0, 0, 4)]) (st := [(0, 0, (f_X0_howMany b 3 M6)), (0, 0, 4), (3, 6, ((b : Int) + 11))]) (c := 0) (a := (b : Int)) (by decide +kernel) ax_cls0 calX0_howMany (by omega) rfl wt_455 wt_457 ws_34 (Nat.le_of_ble_eq_true rfl) rfl (c_X0_howMany d b 4 M6) (fun hc8 => ?_)
  refine ax_lump ax_layC ok_kX0 [(66, .iadd, 1, 1, 0, 0), (67, .iastore, 1, 0, 0, 0)] (pc' := 68) (lc' := [(0, (2, 0, (b : Int)))]) (st' := []) (M' := (ax_up M6 (b + 11) 4 ((f_X0_howMany b 3 M6) + (f_X0_howMany b 4 M6)))) (C' := ((True ∧ ax_r32 ((f_X0_howMany b 3 M6) + (f_X0_howMany b 4 M6))) ∧ (0 ≤ 4 ∧ 4 < ((6 : Nat) : Int)))) (by decide +kernel) rfl ⟨⟨trivial, ⟨by omega, by omega⟩⟩, by omega⟩ ?_
  refine ax_bdMe (fun M9 hM_M9 => ?_)
  refine ax_lump ax_layC ok_kX0 [(68, .aload_n 0, 1, 0, 0, 0), (69, .getfield 44, 3, 0, 10, 0), (72, .iconst 5, 1, 0, 0, 0), (73, .aload_n 0, 1, 0, 0, 0)] (pc' := 74) (lc' := [(0, (2, 0, (b : Int)))]) (st' := [(2, 0, (b : Int)), (0, 0, 5), (3, 6, ((b : Int) + 11))]) (M' := M9) (C' := True) (by decide +kernel) rfl trivial ?_
  refine ax_cVi (G1 := gX0_writtenLeaves) (d1 := d + 0) (i := 200) (n := 0) (as := []) (st := [(0, 0, 5), (3, 6, ((b : Int) + 11))]) (c := 0) (a := (b : Int)) (by decide +kernel) ax_cls0 calX0_writtenLeaves (by omega) rfl wt_490 wt_492 ws_41 (Nat.le_of_ble_eq_true rfl) rfl (c_X0_writtenLeaves d b M9) (fun hc10 => ?_)
  refine ax_lump ax_layC ok_kX0 [(77, .aload_n 0, 1, 0, 0, 0)] (pc' := 78) (lc' := [(0, (2, 0, (b : Int)))]) (st' := [(2, 0, (b : Int)), (0, 0, (f_X0_writtenLeaves b M9)), (0, 0, 5), (3, 6, ((b : Int) + 11))]) (M' := M9) (C' := True) (by decide +kernel) rfl trivial ?_
  refine ax_cVi (G1 := gX0_writtenPages) (d1 := d + 1) (i := 203) (n := 0) (as := []) (st := [(0, 0, (f_X0_writtenLeaves b M9)), (0, 0, 5), (3, 6, ((b : Int) + 11))]) (c := 0) (a := (b : Int)) (by decide +kernel) ax_cls0 calX0_writtenPages (by omega) rfl wt_494 wt_496 ws_42 (Nat.le_of_ble_eq_true rfl) rfl (c_X0_writtenPages d b M9) (fun hc11 => ?_)
  refine ax_lump ax_layC ok_kX0 [(81, .isub, 1, 0, 0, 0), (82, .iastore, 1, 0, 0, 0)] (pc' := 83) (lc' := [(0, (2, 0, (b : Int)))]) (st' := []) (M' := (ax_up M9 (b + 11) 5 (ax_wr ((f_X0_writtenLeaves b M9) - (f_X0_writtenPages b M9))))) (C' := (True ∧ (0 ≤ 5 ∧ 5 < ((6 : Nat) : Int)))) (by decide +kernel) rfl ⟨trivial, by omega⟩ ?_
  refine ax_bdMe (fun M12 hM_M12 => ?_)
  refine ax_lump ax_layC ok_kX0 [(83, .aload_n 0, 1, 0, 0, 0), (84, .getfield 44, 3, 0, 10, 0)] (pc' := 87) (lc' := [(0, (2, 0, (b : Int)))]) (st' := [(3, 6, ((b : Int) + 11))]) (M' := M12) (C' := True) (by decide +kernel) rfl trivial ?_
  exact ax_aret (by decide +kernel) rfl rfl ⟨rfl, rfl⟩
def f_X1_goesOnByDigit (b : Int) (x1 : Int) (M : ax_M) : Int × ax_M := (if (M b.toNat 4) = 0 then (if (M b.toNat 7) = 0 then (0, M) else (if 3 ≤ (M b.toNat 7) then (0, M) else (if 1 ≤ (M b.toNat 1) then ax_bd (ax_up M (b + 1).toNat ((M b.toNat 1) - 1).toNat (ax_wr ((ax_wr (10 * (M (b + 1).toNat ((M b.toNat 1) - 1).toNat))) + x1))) (fun M8 => ax_bd (ax_up M8 b.toNat 7 ((M8 b.toNat 7) + 1)) (fun M12 => (1, M12))) else (0, M)))) else ax_bd (f_X1_emit b x1 M) (fun M16 => ax_bd (ax_up M16 b.toNat 7 1) (fun M17 => ax_bd (ax_up M17 b.toNat 4 0) (fun M18 => (1, M18)))))
set_option maxRecDepth 100000 in
set_option maxHeartbeats 4000000 in
theorem c_X1_goesOnByDigit (d : Nat) (b : Int) (x1 : Int) (M : ax_M)  : ax_Met ax_LC gX1_goesOnByDigit (d + 1) [(2, 1, b), (0, 0, x1)] M ((ax_qm 0 1) (f_X1_goesOnByDigit b x1 M)) := by
  refine ax_body (by decide) (fun X => Nat.le_of_ble_eq_true rfl) (fun hok => ?_)
  have hb0 : 0 ≤ b := (hok (2, 1, b) (by simp)).1
  have hb1 : b ≤ 100000 := by have h8 : b.toNat < ax_LC.length := ax_ltL (hok (2, 1, b) (by simp)).2; have h9 : ax_LC.length = 38 := rfl; rw [h9] at h8; omega
  have hr_x1 : (-2147483648) ≤ x1 ∧ x1 ≤ 2147483647 := hok (0, 0, x1) (by simp)
  show ax_W ax_LC gX1_goesOnByDigit (d + 1) 0 [(0, (2, 1, b)), (1, (0, 0, x1))] [] M _
  unfold f_X1_goesOnByDigit
  refine ax_factZ (i := 0) (c := 1) (f := 4) (s := b) (by simp) rfl rfl (fun hf1 => ?_)
  have hf1 : 0 ≤ (M b.toNat 4) ∧ (M b.toNat 4) ≤ 1 := hf1
  refine ax_lump ax_layC ok_kX1 [(0, .aload_n 0, 1, 0, 0, 0), (1, .getfield 25, 3, 1, 4, 0)] (pc' := 4) (lc' := [(0, (2, 1, b)), (1, (0, 0, x1))]) (st' := [(0, 0, (M b.toNat 4))]) (M' := M) (C' := True) (by decide +kernel) rfl trivial ?_
  refine ax_zeq (off := 20) (tgt := 24) (by decide +kernel) (by decide) (fun h2 => ?_) (fun h2 => ?_)
  · refine ax_fact (i := 0) (c := 1) (f := 7) (hi := 3) (s := b) (by simp) rfl rfl rfl (fun hf3 => ?_)
    have hf3 : 0 ≤ (M b.toNat 7) ∧ (M b.toNat 7) ≤ 3 := hf3
    refine ax_lump ax_layC ok_kX1 [(24, .aload_n 0, 1, 0, 0, 0), (25, .getfield 35, 3, 1, 7, 0)] (pc' := 28) (lc' := [(0, (2, 1, b)), (1, (0, 0, x1))]) (st' := [(0, 0, (M b.toNat 7))]) (M' := M) (C' := True) (by decide +kernel) rfl trivial ?_
    refine ax_zeq (off := 19) (tgt := 47) (by decide +kernel) (by decide) (fun h4 => ?_) (fun h4 => ?_)
    · refine ax_lump ax_layC ok_kX1 [(47, .iconst 0, 1, 0, 0, 0)] (pc' := 48) (lc' := [(0, (2, 1, b)), (1, (0, 0, x1))]) (st' := [(0, 0, 0)]) (M' := M) (C' := True) (by decide +kernel) rfl trivial ?_
      exact ax_zret (by decide +kernel) rfl (by omega) ⟨rfl, rfl, (show (0 : Int) ≤ 0 from by omega), (show 0 ≤ (1 : Int) from by omega)⟩
    · refine ax_lump ax_layC ok_kX1 [(31, .aload_n 0, 1, 0, 0, 0), (32, .getfield 35, 3, 1, 7, 0), (35, .iconst 3, 1, 0, 0, 0)] (pc' := 36) (lc' := [(0, (2, 1, b)), (1, (0, 0, x1))]) (st' := [(0, 0, 3), (0, 0, (M b.toNat 7))]) (M' := M) (C' := True) (by decide +kernel) rfl trivial ?_
      refine ax_jge (off := 11) (tgt := 47) (by decide +kernel) (by decide) (fun h5 => ?_) (fun h5 => ?_)
      · refine ax_lump ax_layC ok_kX1 [(47, .iconst 0, 1, 0, 0, 0)] (pc' := 48) (lc' := [(0, (2, 1, b)), (1, (0, 0, x1))]) (st' := [(0, 0, 0)]) (M' := M) (C' := True) (by decide +kernel) rfl trivial ?_
        exact ax_zret (by decide +kernel) rfl (by omega) ⟨rfl, rfl, (show (0 : Int) ≤ 0 from by omega), (show 0 ≤ (1 : Int) from by omega)⟩
      · refine ax_fact (i := 0) (c := 1) (f := 1) (hi := 40) (s := b) (by simp) rfl rfl rfl (fun hf6 => ?_)
        have hf6 : 0 ≤ (M b.toNat 1) ∧ (M b.toNat 1) ≤ 40 := hf6
        refine ax_lump ax_layC ok_kX1 [(39, .aload_n 0, 1, 0, 0, 0), (40, .getfield 15, 3, 1, 1, 0), (43, .iconst 1, 1, 0, 0, 0)] (pc' := 44) (lc' := [(0, (2, 1, b)), (1, (0, 0, x1))]) (st' := [(0, 0, 1), (0, 0, (M b.toNat 1))]) (M' := M) (C' := True) (by decide +kernel) rfl trivial ?_
        refine ax_jge (off := 5) (tgt := 49) (by decide +kernel) (by decide) (fun h7 => ?_) (fun h7 => ?_)
        · refine ax_lump ax_layC ok_kX1 [(49, .aload_n 0, 1, 0, 0, 0), (50, .getfield 11, 3, 1, 0, 0), (53, .aload_n 0, 1, 0, 0, 0), (54, .getfield 15, 3, 1, 1, 0), (57, .iconst 1, 1, 0, 0, 0), (58, .isub, 1, 1, 0, 0), (59, .bipush 10, 2, 0, 0, 0), (61, .aload_n 0, 1, 0, 0, 0), (62, .getfield 11, 3, 1, 0, 0), (65, .aload_n 0, 1, 0, 0, 0), (66, .getfield 15, 3, 1, 1, 0), (69, .iconst 1, 1, 0, 0, 0), (70, .isub, 1, 1, 0, 0), (71, .iaload, 1, 0, 0, 0), (72, .imul, 1, 0, 0, 0), (73, .iload_n 1, 1, 0, 0, 0), (74, .iadd, 1, 0, 0, 0), (75, .iastore, 1, 0, 0, 0)] (pc' := 76) (lc' := [(0, (2, 1, b)), (1, (0, 0, x1))]) (st' := []) (M' := (ax_up M (b + 1).toNat ((M b.toNat 1) - 1).toNat (ax_wr ((ax_wr (10 * (M (b + 1).toNat ((M b.toNat 1) - 1).toNat))) + x1)))) (C' := ((((True ∧ ax_r32 ((M b.toNat 1) - 1)) ∧ ax_r32 ((M b.toNat 1) - 1)) ∧ (0 ≤ ((M b.toNat 1) - 1) ∧ ((M b.toNat 1) - 1) < ((40 : Nat) : Int))) ∧ (0 ≤ ((M b.toNat 1) - 1) ∧ ((M b.toNat 1) - 1) < ((40 : Nat) : Int)))) (by decide +kernel) rfl ⟨⟨⟨⟨trivial, ⟨by omega, by omega⟩⟩, ⟨by omega, by omega⟩⟩, by omega⟩, by omega⟩ ?_
          refine ax_bdMe (fun M8 hM_M8 => ?_)
          have hk_k9 : (M8 b.toNat 4) = (M b.toNat 4) := by rw [hM_M8]; exact ax_up_o1 (by omega)
          have hk_k10 : (M8 b.toNat 7) = (M b.toNat 7) := by rw [hM_M8]; exact ax_up_o1 (by omega)
          have hk_k11 : (M8 b.toNat 1) = (M b.toNat 1) := by rw [hM_M8]; exact ax_up_o1 (by omega)
          refine ax_lump ax_layC ok_kX1 [(76, .aload_n 0, 1, 0, 0, 0), (77, .dup, 1, 0, 0, 0), (78, .getfield 35, 3, 1, 7, 0), (81, .iconst 1, 1, 0, 0, 0), (82, .iadd, 1, 1, 0, 0), (83, .putfield 35, 3, 1, 7, 0)] (pc' := 86) (lc' := [(0, (2, 1, b)), (1, (0, 0, x1))]) (st' := []) (M' := (ax_up M8 b.toNat 7 ((M8 b.toNat 7) + 1))) (C' := ((True ∧ ax_r32 ((M8 b.toNat 7) + 1)) ∧ (0 ≤ ((M8 b.toNat 7) + 1) ∧ ((M8 b.toNat 7) + 1) < ((4 : Nat) : Int)))) (by decide +kernel) rfl ⟨⟨trivial, ⟨by omega, by omega⟩⟩, by omega⟩ ?_
          refine ax_bdMe (fun M12 hM_M12 => ?_)
          have hk_k13 : (M12 b.toNat 4) = (M8 b.toNat 4) := by rw [hM_M12]; exact ax_up_o2 (by decide)
          have hk_k14 : (M12 b.toNat 7) = ((M8 b.toNat 7) + 1) := by rw [hM_M12]; exact ax_up_s
          have hk_k15 : (M12 b.toNat 1) = (M8 b.toNat 1) := by rw [hM_M12]; exact ax_up_o2 (by decide)
          refine ax_lump ax_layC ok_kX1 [(86, .iconst 1, 1, 0, 0, 0)] (pc' := 87) (lc' := [(0, (2, 1, b)), (1, (0, 0, x1))]) (st' := [(0, 0, 1)]) (M' := M12) (C' := True) (by decide +kernel) rfl trivial ?_
          exact ax_zret (by decide +kernel) rfl (by omega) ⟨rfl, rfl, (show (0 : Int) ≤ 1 from by omega), (show 1 ≤ (1 : Int) from by omega)⟩
        · refine ax_lump ax_layC ok_kX1 [(47, .iconst 0, 1, 0, 0, 0)] (pc' := 48) (lc' := [(0, (2, 1, b)), (1, (0, 0, x1))]) (st' := [(0, 0, 0)]) (M' := M) (C' := True) (by decide +kernel) rfl trivial ?_
          exact ax_zret (by decide +kernel) rfl (by omega) ⟨rfl, rfl, (show (0 : Int) ≤ 0 from by omega), (show 0 ≤ (1 : Int) from by omega)⟩
  · refine ax_lump ax_layC ok_kX1 [(7, .aload_n 0, 1, 0, 0, 0), (8, .iload_n 1, 1, 0, 0, 0)] (pc' := 9) (lc' := [(0, (2, 1, b)), (1, (0, 0, x1))]) (st' := [(0, 0, x1), (2, 1, b)]) (M' := M) (C' := True) (by decide +kernel) rfl trivial ?_
    refine ax_cVv (G1 := gX1_emit) (d1 := d + 0) (i := 38) (n := 1) (as := [(0, 0, x1)]) (st := []) (c := 1) (a := b) (by decide +kernel) ax_cls1 calX1_emit (by omega) rfl wt_213 wt_215 ws_2 (Nat.le_of_ble_eq_true rfl) rfl (c_X1_emit d b x1 M) (fun M16 => ?_)
    refine ax_lump ax_layC ok_kX1 [(12, .aload_n 0, 1, 0, 0, 0), (13, .iconst 1, 1, 0, 0, 0), (14, .putfield 35, 3, 1, 7, 0)] (pc' := 17) (lc' := [(0, (2, 1, b)), (1, (0, 0, x1))]) (st' := []) (M' := (ax_up M16 b.toNat 7 1)) (C' := (True ∧ (0 ≤ 1 ∧ 1 < ((4 : Nat) : Int)))) (by decide +kernel) rfl ⟨trivial, by omega⟩ ?_
    refine ax_bdMe (fun M17 hM_M17 => ?_)
    refine ax_lump ax_layC ok_kX1 [(17, .aload_n 0, 1, 0, 0, 0), (18, .iconst 0, 1, 0, 0, 0), (19, .putfield 25, 3, 1, 4, 0)] (pc' := 22) (lc' := [(0, (2, 1, b)), (1, (0, 0, x1))]) (st' := []) (M' := (ax_up M17 b.toNat 4 0)) (C' := (True ∧ (0 ≤ 0 ∧ 0 ≤ 1))) (by decide +kernel) rfl ⟨trivial, by omega⟩ ?_
    refine ax_bdMe (fun M18 hM_M18 => ?_)
    refine ax_lump ax_layC ok_kX1 [(22, .iconst 1, 1, 0, 0, 0)] (pc' := 23) (lc' := [(0, (2, 1, b)), (1, (0, 0, x1))]) (st' := [(0, 0, 1)]) (M' := M18) (C' := True) (by decide +kernel) rfl trivial ?_
    exact ax_zret (by decide +kernel) rfl (by omega) ⟨rfl, rfl, (show (0 : Int) ≤ 1 from by omega), (show 1 ≤ (1 : Int) from by omega)⟩
def f_X1_followsThing (b : Int) (x1 : Int) (M : ax_M) : Prop × Int × ax_M := (if x1 ≠ 41 then ax_bd (f_X1_bindingOf x1 M) (fun y3 => (if y3 ≠ 0 then (if y3 ≠ 1 then ax_rc (f_X1_unwind b y3 M) (fun M6 => ax_bd (f_X1_push b x1 M6) (fun M7 => ax_bd (ax_up M7 b.toNat 4 1) (fun M8 => (True, (1, M8))))) else (if (ax_and (ax_shr (M b.toNat 6) (M b.toNat 5)) 1) = 0 then ax_bd (ax_up M b.toNat 6 (ax_or (M b.toNat 6) (ax_shl 1 (M b.toNat 5)))) (fun M11 => ax_rc (f_X1_unwind b y3 M11) (fun M13 => ax_bd (f_X1_push b x1 M13) (fun M14 => ax_bd (ax_up M14 b.toNat 4 1) (fun M15 => (True, (1, M15)))))) else (True, (0, M)))) else (True, (0, M)))) else (if 1 ≤ (M b.toNat 5) then ax_bd (ax_up M b.toNat 5 ((M b.toNat 5) - 1)) (fun M18 => ax_rc (f_X1_unwind b 1 M18) (fun M20 => ax_bd (ax_up M20 b.toNat 3 (if 0 < ((M20 b.toNat 3) - 1) then ((M20 b.toNat 3) - 1) else 0)) (fun M22 => (True, (1, M22))))) else (True, (0, M))))
set_option maxRecDepth 100000 in
set_option maxHeartbeats 4000000 in
theorem c_X1_followsThing (d : Nat) (b : Int) (x1 : Int) (M : ax_M)  (hX : (f_X1_followsThing b x1 M).1) : ax_Met ax_LC gX1_followsThing (d + 2) [(2, 1, b), (0, 0, x1)] M ((ax_qm 0 1) (f_X1_followsThing b x1 M).2) := by
  refine ax_body (by decide) (fun X => Nat.le_of_ble_eq_true rfl) (fun hok => ?_)
  have hb0 : 0 ≤ b := (hok (2, 1, b) (by simp)).1
  have hb1 : b ≤ 100000 := by have h8 : b.toNat < ax_LC.length := ax_ltL (hok (2, 1, b) (by simp)).2; have h9 : ax_LC.length = 38 := rfl; rw [h9] at h8; omega
  have hr_x1 : (-2147483648) ≤ x1 ∧ x1 ≤ 2147483647 := hok (0, 0, x1) (by simp)
  show ax_W ax_LC gX1_followsThing (d + 2) 0 [(0, (2, 1, b)), (1, (0, 0, x1))] [] M _
  unfold f_X1_followsThing at hX ⊢
  refine ax_lump ax_layC ok_kX1 [(0, .iload_n 1, 1, 0, 0, 0), (1, .bipush 41, 2, 0, 0, 0)] (pc' := 3) (lc' := [(0, (2, 1, b)), (1, (0, 0, x1))]) (st' := [(0, 0, 41), (0, 0, x1)]) (M' := M) (C' := True) (by decide +kernel) rfl trivial ?_
  refine ax_jne_s hX (off := 44) (tgt := 47) (by decide +kernel) (by decide) (fun h1 hX => ?_) (fun h1 hX => ?_)
  · refine ax_lump ax_layC ok_kX1 [(47, .iload_n 1, 1, 0, 0, 0)] (pc' := 48) (lc' := [(0, (2, 1, b)), (1, (0, 0, x1))]) (st' := [(0, 0, x1)]) (M' := M) (C' := True) (by decide +kernel) rfl trivial ?_
    refine ax_cSi (G1 := gX1_bindingOf) (d1 := d + 0) (i := 76) (n := 1) (as := [(0, 0, x1)]) (st := []) (by decide +kernel) calX1_bindingOf (by omega) rfl wt_328 wt_329 (Nat.le_of_ble_eq_true rfl) rfl (c_X1_bindingOf d x1 M) (fun hc2 => ?_)
    refine ax_lump ax_layC ok_kX1 [(51, .istore_n 2, 1, 0, 0, 0)] (pc' := 52) (lc' := [(2, (0, 0, (f_X1_bindingOf x1 M))), (0, (2, 1, b)), (1, (0, 0, x1))]) (st' := []) (M' := M) (C' := True) (by decide +kernel) rfl trivial ?_
    refine ax_bdI_s hX (lo := 0) (hi := 4) (e := (f_X1_bindingOf x1 M)) (fun y3 => [(2, (0, 0, y3)), (0, (2, 1, b)), (1, (0, 0, x1))]) (fun y3 => []) (by omega) (fun y3 h_y3 hX => ?_)
    refine ax_lump ax_layC ok_kX1 [(52, .iload_n 2, 1, 0, 0, 0)] (pc' := 53) (lc' := [(2, (0, 0, y3)), (0, (2, 1, b)), (1, (0, 0, x1))]) (st' := [(0, 0, y3)]) (M' := M) (C' := True) (by decide +kernel) rfl trivial ?_
    refine ax_zne_s hX (off := 5) (tgt := 58) (by decide +kernel) (by decide) (fun h4 hX => ?_) (fun h4 hX => ?_)
    · refine ax_lump ax_layC ok_kX1 [(58, .iload_n 2, 1, 0, 0, 0), (59, .iconst 1, 1, 0, 0, 0)] (pc' := 60) (lc' := [(2, (0, 0, y3)), (0, (2, 1, b)), (1, (0, 0, x1))]) (st' := [(0, 0, 1), (0, 0, y3)]) (M' := M) (C' := True) (by decide +kernel) rfl trivial ?_
      refine ax_jne_s hX (off := 34) (tgt := 94) (by decide +kernel) (by decide) (fun h5 hX => ?_) (fun h5 hX => ?_)
      · refine ax_lump ax_layC ok_kX1 [(94, .aload_n 0, 1, 0, 0, 0), (95, .iload_n 2, 1, 0, 0, 0)] (pc' := 96) (lc' := [(2, (0, 0, y3)), (0, (2, 1, b)), (1, (0, 0, x1))]) (st' := [(0, 0, y3), (2, 1, b)]) (M' := M) (C' := True) (by decide +kernel) rfl trivial ?_
        refine ax_cVv_r hX (G1 := gX1_unwind) (d1 := d + 1) (i := 46) (n := 1) (as := [(0, 0, y3)]) (st := []) (c := 1) (a := b) (by decide +kernel) ax_cls1 calX1_unwind (by omega) rfl wt_324 wt_326 ws_8 (Nat.le_of_ble_eq_true rfl) rfl (fun hY => c_X1_unwind d b y3 M hY) (fun M6 hX => ?_)
        refine ax_lump ax_layC ok_kX1 [(99, .aload_n 0, 1, 0, 0, 0), (100, .iload_n 1, 1, 0, 0, 0)] (pc' := 101) (lc' := [(2, (0, 0, y3)), (0, (2, 1, b)), (1, (0, 0, x1))]) (st' := [(0, 0, x1), (2, 1, b)]) (M' := M6) (C' := True) (by decide +kernel) rfl trivial ?_
        refine ax_cVv_s hX (G1 := gX1_push) (d1 := d + 0) (i := 59) (n := 1) (as := [(0, 0, x1)]) (st := []) (c := 1) (a := b) (by decide +kernel) ax_cls1 calX1_push (by omega) rfl wt_229 wt_231 ws_6 (Nat.le_of_ble_eq_true rfl) rfl (c_X1_push d b x1 M6) (fun M7 hX => ?_)
        refine ax_lump ax_layC ok_kX1 [(104, .aload_n 0, 1, 0, 0, 0), (105, .iconst 1, 1, 0, 0, 0), (106, .putfield 25, 3, 1, 4, 0)] (pc' := 109) (lc' := [(2, (0, 0, y3)), (0, (2, 1, b)), (1, (0, 0, x1))]) (st' := []) (M' := (ax_up M7 b.toNat 4 1)) (C' := (True ∧ (0 ≤ 1 ∧ 1 ≤ 1))) (by decide +kernel) rfl ⟨trivial, by omega⟩ ?_
        refine ax_bdMe_s hX (fun M8 hM_M8 hX => ?_)
        refine ax_lump ax_layC ok_kX1 [(109, .iconst 1, 1, 0, 0, 0)] (pc' := 110) (lc' := [(2, (0, 0, y3)), (0, (2, 1, b)), (1, (0, 0, x1))]) (st' := [(0, 0, 1)]) (M' := M8) (C' := True) (by decide +kernel) rfl trivial ?_
        exact ax_zret (by decide +kernel) rfl (by omega) ⟨rfl, rfl, (show (0 : Int) ≤ 1 from by omega), (show 1 ≤ (1 : Int) from by omega)⟩
      · refine ax_fact (i := 0) (c := 1) (f := 5) (hi := 4) (s := b) (by simp) rfl rfl rfl (fun hf9 => ?_)
        have hf9 : 0 ≤ (M b.toNat 5) ∧ (M b.toNat 5) ≤ 4 := hf9
        refine ax_lump ax_layC ok_kX1 [(63, .aload_n 0, 1, 0, 0, 0), (64, .getfield 32, 3, 1, 6, 0), (67, .aload_n 0, 1, 0, 0, 0), (68, .getfield 29, 3, 1, 5, 0), (71, .ishr, 1, 0, 0, 0), (72, .iconst 1, 1, 0, 0, 0), (73, .iand, 1, 0, 0, 0)] (pc' := 74) (lc' := [(2, (0, 0, y3)), (0, (2, 1, b)), (1, (0, 0, x1))]) (st' := [(0, 0, (ax_and (ax_shr (M b.toNat 6) (M b.toNat 5)) 1))]) (M' := M) (C' := True) (by decide +kernel) rfl trivial ?_
        refine ax_zeq_s hX (off := 5) (tgt := 79) (by decide +kernel) (by decide) (fun h10 hX => ?_) (fun h10 hX => ?_)
        · refine ax_lump ax_layC ok_kX1 [(79, .aload_n 0, 1, 0, 0, 0), (80, .dup, 1, 0, 0, 0), (81, .getfield 32, 3, 1, 6, 0), (84, .iconst 1, 1, 0, 0, 0), (85, .aload_n 0, 1, 0, 0, 0), (86, .getfield 29, 3, 1, 5, 0), (89, .ishl, 1, 0, 0, 0), (90, .ior, 1, 0, 0, 0), (91, .putfield 32, 3, 1, 6, 0)] (pc' := 94) (lc' := [(2, (0, 0, y3)), (0, (2, 1, b)), (1, (0, 0, x1))]) (st' := []) (M' := (ax_up M b.toNat 6 (ax_or (M b.toNat 6) (ax_shl 1 (M b.toNat 5))))) (C' := True) (by decide +kernel) rfl trivial ?_
          refine ax_bdMe_s hX (fun M11 hM_M11 hX => ?_)
          have hk_k12 : (M11 b.toNat 5) = (M b.toNat 5) := by rw [hM_M11]; exact ax_up_o2 (by decide)
          refine ax_lump ax_layC ok_kX1 [(94, .aload_n 0, 1, 0, 0, 0), (95, .iload_n 2, 1, 0, 0, 0)] (pc' := 96) (lc' := [(2, (0, 0, y3)), (0, (2, 1, b)), (1, (0, 0, x1))]) (st' := [(0, 0, y3), (2, 1, b)]) (M' := M11) (C' := True) (by decide +kernel) rfl trivial ?_
          refine ax_cVv_r hX (G1 := gX1_unwind) (d1 := d + 1) (i := 46) (n := 1) (as := [(0, 0, y3)]) (st := []) (c := 1) (a := b) (by decide +kernel) ax_cls1 calX1_unwind (by omega) rfl wt_324 wt_326 ws_8 (Nat.le_of_ble_eq_true rfl) rfl (fun hY => c_X1_unwind d b y3 M11 hY) (fun M13 hX => ?_)
          refine ax_lump ax_layC ok_kX1 [(99, .aload_n 0, 1, 0, 0, 0), (100, .iload_n 1, 1, 0, 0, 0)] (pc' := 101) (lc' := [(2, (0, 0, y3)), (0, (2, 1, b)), (1, (0, 0, x1))]) (st' := [(0, 0, x1), (2, 1, b)]) (M' := M13) (C' := True) (by decide +kernel) rfl trivial ?_
          refine ax_cVv_s hX (G1 := gX1_push) (d1 := d + 0) (i := 59) (n := 1) (as := [(0, 0, x1)]) (st := []) (c := 1) (a := b) (by decide +kernel) ax_cls1 calX1_push (by omega) rfl wt_229 wt_231 ws_6 (Nat.le_of_ble_eq_true rfl) rfl (c_X1_push d b x1 M13) (fun M14 hX => ?_)
          refine ax_lump ax_layC ok_kX1 [(104, .aload_n 0, 1, 0, 0, 0), (105, .iconst 1, 1, 0, 0, 0), (106, .putfield 25, 3, 1, 4, 0)] (pc' := 109) (lc' := [(2, (0, 0, y3)), (0, (2, 1, b)), (1, (0, 0, x1))]) (st' := []) (M' := (ax_up M14 b.toNat 4 1)) (C' := (True ∧ (0 ≤ 1 ∧ 1 ≤ 1))) (by decide +kernel) rfl ⟨trivial, by omega⟩ ?_
          refine ax_bdMe_s hX (fun M15 hM_M15 hX => ?_)
          refine ax_lump ax_layC ok_kX1 [(109, .iconst 1, 1, 0, 0, 0)] (pc' := 110) (lc' := [(2, (0, 0, y3)), (0, (2, 1, b)), (1, (0, 0, x1))]) (st' := [(0, 0, 1)]) (M' := M15) (C' := True) (by decide +kernel) rfl trivial ?_
          exact ax_zret (by decide +kernel) rfl (by omega) ⟨rfl, rfl, (show (0 : Int) ≤ 1 from by omega), (show 1 ≤ (1 : Int) from by omega)⟩
        · refine ax_lump ax_layC ok_kX1 [(77, .iconst 0, 1, 0, 0, 0)] (pc' := 78) (lc' := [(2, (0, 0, y3)), (0, (2, 1, b)), (1, (0, 0, x1))]) (st' := [(0, 0, 0)]) (M' := M) (C' := True) (by decide +kernel) rfl trivial ?_
          exact ax_zret (by decide +kernel) rfl (by omega) ⟨rfl, rfl, (show (0 : Int) ≤ 0 from by omega), (show 0 ≤ (1 : Int) from by omega)⟩
    · refine ax_lump ax_layC ok_kX1 [(56, .iconst 0, 1, 0, 0, 0)] (pc' := 57) (lc' := [(2, (0, 0, y3)), (0, (2, 1, b)), (1, (0, 0, x1))]) (st' := [(0, 0, 0)]) (M' := M) (C' := True) (by decide +kernel) rfl trivial ?_
      exact ax_zret (by decide +kernel) rfl (by omega) ⟨rfl, rfl, (show (0 : Int) ≤ 0 from by omega), (show 0 ≤ (1 : Int) from by omega)⟩
  · refine ax_fact (i := 0) (c := 1) (f := 5) (hi := 4) (s := b) (by simp) rfl rfl rfl (fun hf16 => ?_)
    have hf16 : 0 ≤ (M b.toNat 5) ∧ (M b.toNat 5) ≤ 4 := hf16
    refine ax_lump ax_layC ok_kX1 [(6, .aload_n 0, 1, 0, 0, 0), (7, .getfield 29, 3, 1, 5, 0), (10, .iconst 1, 1, 0, 0, 0)] (pc' := 11) (lc' := [(0, (2, 1, b)), (1, (0, 0, x1))]) (st' := [(0, 0, 1), (0, 0, (M b.toNat 5))]) (M' := M) (C' := True) (by decide +kernel) rfl trivial ?_
    refine ax_jge_s hX (off := 5) (tgt := 16) (by decide +kernel) (by decide) (fun h17 hX => ?_) (fun h17 hX => ?_)
    · refine ax_lump ax_layC ok_kX1 [(16, .aload_n 0, 1, 0, 0, 0), (17, .dup, 1, 0, 0, 0), (18, .getfield 29, 3, 1, 5, 0), (21, .iconst 1, 1, 0, 0, 0), (22, .isub, 1, 1, 0, 0), (23, .putfield 29, 3, 1, 5, 0)] (pc' := 26) (lc' := [(0, (2, 1, b)), (1, (0, 0, x1))]) (st' := []) (M' := (ax_up M b.toNat 5 ((M b.toNat 5) - 1))) (C' := ((True ∧ ax_r32 ((M b.toNat 5) - 1)) ∧ (0 ≤ ((M b.toNat 5) - 1) ∧ ((M b.toNat 5) - 1) < ((5 : Nat) : Int)))) (by decide +kernel) rfl ⟨⟨trivial, ⟨by omega, by omega⟩⟩, by omega⟩ ?_
      refine ax_bdMe_s hX (fun M18 hM_M18 hX => ?_)
      have hk_k19 : (M18 b.toNat 5) = ((M b.toNat 5) - 1) := by rw [hM_M18]; exact ax_up_s
      refine ax_lump ax_layC ok_kX1 [(26, .aload_n 0, 1, 0, 0, 0), (27, .iconst 1, 1, 0, 0, 0)] (pc' := 28) (lc' := [(0, (2, 1, b)), (1, (0, 0, x1))]) (st' := [(0, 0, 1), (2, 1, b)]) (M' := M18) (C' := True) (by decide +kernel) rfl trivial ?_
      refine ax_cVv_r hX (G1 := gX1_unwind) (d1 := d + 1) (i := 46) (n := 1) (as := [(0, 0, 1)]) (st := []) (c := 1) (a := b) (by decide +kernel) ax_cls1 calX1_unwind (by omega) rfl wt_324 wt_326 ws_8 (Nat.le_of_ble_eq_true rfl) rfl (fun hY => c_X1_unwind d b 1 M18 hY) (fun M20 hX => ?_)
      refine ax_fact (i := 0) (c := 1) (f := 3) (hi := 40) (s := b) (by simp) rfl rfl rfl (fun hf21 => ?_)
      have hf21 : 0 ≤ (M20 b.toNat 3) ∧ (M20 b.toNat 3) ≤ 40 := hf21
      refine ax_lump ax_layC ok_kX1 [(31, .aload_n 0, 1, 0, 0, 0), (32, .iconst 0, 1, 0, 0, 0), (33, .aload_n 0, 1, 0, 0, 0), (34, .getfield 22, 3, 1, 3, 0), (37, .iconst 1, 1, 0, 0, 0), (38, .isub, 1, 1, 0, 0)] (pc' := 39) (lc' := [(0, (2, 1, b)), (1, (0, 0, x1))]) (st' := [(0, 0, ((M20 b.toNat 3) - 1)), (0, 0, 0), (2, 1, b)]) (M' := M20) (C' := (True ∧ ax_r32 ((M20 b.toNat 3) - 1))) (by decide +kernel) rfl ⟨trivial, ⟨by omega, by omega⟩⟩ ?_
      refine ax_mmax (i := 70) (by decide +kernel) (by omega) (Nat.le_of_ble_eq_true rfl) wt_331 wt_263 wt_8 wt_264 ?_
      refine ax_lump ax_layC ok_kX1 [(42, .putfield 22, 3, 1, 3, 0)] (pc' := 45) (lc' := [(0, (2, 1, b)), (1, (0, 0, x1))]) (st' := []) (M' := (ax_up M20 b.toNat 3 (if 0 < ((M20 b.toNat 3) - 1) then ((M20 b.toNat 3) - 1) else 0))) (C' := (True ∧ (0 ≤ (if 0 < ((M20 b.toNat 3) - 1) then ((M20 b.toNat 3) - 1) else 0) ∧ (if 0 < ((M20 b.toNat 3) - 1) then ((M20 b.toNat 3) - 1) else 0) < ((41 : Nat) : Int)))) (by decide +kernel) rfl ⟨trivial, by omega⟩ ?_
      refine ax_bdMe_s hX (fun M22 hM_M22 hX => ?_)
      have hk_k23 : (M22 b.toNat 3) = (if 0 < ((M20 b.toNat 3) - 1) then ((M20 b.toNat 3) - 1) else 0) := by rw [hM_M22]; exact ax_up_s
      refine ax_lump ax_layC ok_kX1 [(45, .iconst 1, 1, 0, 0, 0)] (pc' := 46) (lc' := [(0, (2, 1, b)), (1, (0, 0, x1))]) (st' := [(0, 0, 1)]) (M' := M22) (C' := True) (by decide +kernel) rfl trivial ?_
      exact ax_zret (by decide +kernel) rfl (by omega) ⟨rfl, rfl, (show (0 : Int) ≤ 1 from by omega), (show 1 ≤ (1 : Int) from by omega)⟩
    · refine ax_lump ax_layC ok_kX1 [(14, .iconst 0, 1, 0, 0, 0)] (pc' := 15) (lc' := [(0, (2, 1, b)), (1, (0, 0, x1))]) (st' := [(0, 0, 0)]) (M' := M) (C' := True) (by decide +kernel) rfl trivial ?_
      exact ax_zret (by decide +kernel) rfl (by omega) ⟨rfl, rfl, (show (0 : Int) ≤ 0 from by omega), (show 0 ≤ (1 : Int) from by omega)⟩
def f_X1_worth_B7 (b : Int) (n1 : Nat) (a1 : Nat) (v2 : Int) (M : ax_M) (kc : Int → ax_M → Prop × Int × ax_M) (kx : ax_M → Prop × Int × ax_M) : Prop × Int × ax_M := (if (M b.toNat 1) ≤ v2 then kx M else ax_rq ((0 ≤ v2 ∧ v2 < ((40 : Nat) : Int))) (ax_bd (M (b + 1).toNat v2.toNat) (fun y5 => (if 1000 ≤ y5 then (if 2000 ≤ y5 then (if y5 ≠ 2256 then (if (M b.toNat 3) ≤ 1 then kc (v2 + 1) M else ax_bd (ax_up M b.toNat 3 ((M b.toNat 3) - 1)) (fun M12 => ax_bd (ax_up M12 (b + 2).toNat ((M12 b.toNat 3) - 1).toNat (f_X1_joined (y5 - 2000) (M12 (b + 2).toNat ((M12 b.toNat 3) - 1).toNat) (M12 (b + 2).toNat (M12 b.toNat 3).toNat) M12)) (fun M17 => kc (v2 + 1) M17))) else (if (M b.toNat 3) ≤ 0 then kc (v2 + 1) M else ax_bd (ax_up M (b + 2).toNat ((M b.toNat 3) - 1).toNat (ax_wr (-(M (b + 2).toNat ((M b.toNat 3) - 1).toNat)))) (fun M24 => kc (v2 + 1) M24))) else (if (n1 : Int) ≤ (y5 - 1000) then ax_bd (f_X1_push b 0 M) (fun M29 => kc (v2 + 1) M29) else ax_rq ((0 ≤ (y5 - 1000) ∧ (y5 - 1000) < ((n1 : Nat) : Int))) (ax_bd (f_X1_push b (M a1 (y5 - 1000).toNat) M) (fun M32 => kc (v2 + 1) M32)))) else ax_bd (f_X1_push b y5 M) (fun M34 => kc (v2 + 1) M34)))))
def f_X1_worth_L7 (b : Int) (n1 : Nat) (a1 : Nat) : Nat → Int → ax_M → (ax_M → Prop × Int × ax_M) → Prop × Int × ax_M
  | 0, _, _, _ => (False, (0, fun _ _ => 0))
  | n + 1, v2, M, kx => f_X1_worth_B7 b n1 a1 v2 M (fun u2 M9 => f_X1_worth_L7 b n1 a1 n  u2 M9 kx) kx
set_option maxRecDepth 100000 in
set_option maxHeartbeats 4000000 in
theorem wb_X1_worth_B7 (d : Nat) (b : Int) (n1 : Nat) (a1 : Nat) (v2 : Int) (M : ax_M) (kc : Int → ax_M → Prop × Int × ax_M) (kx : ax_M → Prop × Int × ax_M) (hw_b : 0 ≤ b ∧ b ≤ 100000) (hw_n1 : 0 ≤ n1 ∧ n1 ≤ 100000)   (hkc : ∀ (u2 : Int) (M9 : ax_M), (kc u2 M9).1 → ax_W ax_LC gX1_worth (d + 1) 7 [(0, (2, 1, b)), (1, (3, n1, (a1 : Int))), (2, (0, 0, u2))] [] M9 ((ax_qm (-2147483648) 2147483647) (kc u2 M9).2)) (hkx : ∀ (M9 : ax_M), (True) → (kx M9).1 → ax_W ax_LC gX1_worth (d + 1) 175 [(0, (2, 1, b))] [] M9 ((ax_qm (-2147483648) 2147483647) (kx M9).2)) (hX : (f_X1_worth_B7 b n1 a1 v2 M kc kx).1) : ax_W ax_LC gX1_worth (d + 1) 7 [(0, (2, 1, b)), (1, (3, n1, (a1 : Int))), (2, (0, 0, v2))] [] M ((ax_qm (-2147483648) 2147483647) (f_X1_worth_B7 b n1 a1 v2 M kc kx).2) := by
  unfold f_X1_worth_B7 at hX ⊢
  refine ax_fact (i := 0) (c := 1) (f := 1) (hi := 40) (s := b) (by simp) rfl rfl rfl (fun hf2 => ?_)
  have hf2 : 0 ≤ (M b.toNat 1) ∧ (M b.toNat 1) ≤ 40 := hf2
  refine ax_lump ax_layC ok_kX1 [(7, .iload_n 2, 1, 0, 0, 0), (8, .aload_n 0, 1, 0, 0, 0), (9, .getfield 15, 3, 1, 1, 0)] (pc' := 12) (lc' := [(0, (2, 1, b)), (1, (3, n1, (a1 : Int))), (2, (0, 0, v2))]) (st' := [(0, 0, (M b.toNat 1)), (0, 0, v2)]) (M' := M) (C' := True) (by decide +kernel) rfl trivial ?_
  refine ax_jge_s hX (off := 163) (tgt := 175) (by decide +kernel) (by decide) (fun h3 hX => ?_) (fun h3 hX => ?_)
  · refine ax_pk [0] (lc' := [(0, (2, 1, b))]) rfl ?_
    exact hkx M trivial hX
  · refine ax_rq_s hX (fun hS4 hX => ?_)
    refine ax_lump ax_layC ok_kX1 [(15, .aload_n 0, 1, 0, 0, 0), (16, .getfield 11, 3, 1, 0, 0), (19, .iload_n 2, 1, 0, 0, 0), (20, .iaload, 1, 0, 0, 0), (21, .istore_n 3, 1, 0, 0, 0)] (pc' := 22) (lc' := [(3, (0, 0, (M (b + 1).toNat v2.toNat))), (0, (2, 1, b)), (1, (3, n1, (a1 : Int))), (2, (0, 0, v2))]) (st' := []) (M' := M) (C' := (True ∧ (0 ≤ v2 ∧ v2 < ((40 : Nat) : Int)))) (by decide +kernel) rfl ⟨trivial, hS4⟩ ?_
    refine ax_bdI0_s hX (e := (M (b + 1).toNat v2.toNat)) (fun y5 => [(3, (0, 0, y5)), (0, (2, 1, b)), (1, (3, n1, (a1 : Int))), (2, (0, 0, v2))]) (fun y5 => []) (fun y5 hX => ?_)
    refine ax_lump ax_layC ok_kX1 [(22, .iload_n 3, 1, 0, 0, 0), (23, .sipush 1000, 3, 0, 0, 0)] (pc' := 26) (lc' := [(3, (0, 0, y5)), (0, (2, 1, b)), (1, (3, n1, (a1 : Int))), (2, (0, 0, v2))]) (st' := [(0, 0, 1000), (0, 0, y5)]) (M' := M) (C' := True) (by decide +kernel) rfl trivial ?_
    refine ax_jge_s hX (off := 11) (tgt := 37) (by decide +kernel) (by decide) (fun h6 hX => ?_) (fun h6 hX => ?_)
    · refine ax_lump ax_layC ok_kX1 [(37, .iload_n 3, 1, 0, 0, 0), (38, .sipush 2000, 3, 0, 0, 0)] (pc' := 41) (lc' := [(3, (0, 0, y5)), (0, (2, 1, b)), (1, (3, n1, (a1 : Int))), (2, (0, 0, v2))]) (st' := [(0, 0, 2000), (0, 0, y5)]) (M' := M) (C' := True) (by decide +kernel) rfl trivial ?_
      refine ax_jge_s hX (off := 31) (tgt := 72) (by decide +kernel) (by decide) (fun h7 hX => ?_) (fun h7 hX => ?_)
      · refine ax_lump ax_layC ok_kX1 [(72, .iload_n 3, 1, 0, 0, 0), (73, .sipush 2256, 3, 0, 0, 0)] (pc' := 76) (lc' := [(3, (0, 0, y5)), (0, (2, 1, b)), (1, (3, n1, (a1 : Int))), (2, (0, 0, v2))]) (st' := [(0, 0, 2256), (0, 0, y5)]) (M' := M) (C' := True) (by decide +kernel) rfl trivial ?_
        refine ax_jne_s hX (off := 36) (tgt := 112) (by decide +kernel) (by decide) (fun h8 hX => ?_) (fun h8 hX => ?_)
        · refine ax_fact (i := 0) (c := 1) (f := 3) (hi := 40) (s := b) (by simp) rfl rfl rfl (fun hf9 => ?_)
          have hf9 : 0 ≤ (M b.toNat 3) ∧ (M b.toNat 3) ≤ 40 := hf9
          refine ax_lump ax_layC ok_kX1 [(112, .aload_n 0, 1, 0, 0, 0), (113, .getfield 22, 3, 1, 3, 0), (116, .iconst 1, 1, 0, 0, 0)] (pc' := 117) (lc' := [(3, (0, 0, y5)), (0, (2, 1, b)), (1, (3, n1, (a1 : Int))), (2, (0, 0, v2))]) (st' := [(0, 0, 1), (0, 0, (M b.toNat 3))]) (M' := M) (C' := True) (by decide +kernel) rfl trivial ?_
          refine ax_jle_s hX (off := 52) (tgt := 169) (by decide +kernel) (by decide) (fun h10 hX => ?_) (fun h10 hX => ?_)
          · refine ax_rngL (i := 2) (u := 0) (n := v2) (by simp) (fun hq11 => ?_)
            have hq11 : (-2147483648) ≤ v2 ∧ v2 ≤ 2147483647 := hq11
            refine ax_lump ax_layC ok_kX1 [(169, .iinc 2 1, 3, 1, 0, 0), (172, .goto (-165), 3, 7, 0, 0)] (pc' := 7) (lc' := [(2, (0, 0, (v2 + 1))), (3, (0, 0, y5)), (0, (2, 1, b)), (1, (3, n1, (a1 : Int)))]) (st' := []) (M' := M) (C' := (True ∧ ax_r32 (v2 + 1))) (by decide +kernel) rfl ⟨trivial, ⟨by omega, by omega⟩⟩ ?_
            refine ax_pk [2,3,0] (lc' := [(0, (2, 1, b)), (1, (3, n1, (a1 : Int))), (2, (0, 0, (v2 + 1)))]) rfl ?_
            exact hkc (v2 + 1) M  hX
          · refine ax_lump ax_layC ok_kX1 [(120, .aload_n 0, 1, 0, 0, 0), (121, .dup, 1, 0, 0, 0), (122, .getfield 22, 3, 1, 3, 0), (125, .iconst 1, 1, 0, 0, 0), (126, .isub, 1, 1, 0, 0), (127, .putfield 22, 3, 1, 3, 0)] (pc' := 130) (lc' := [(3, (0, 0, y5)), (0, (2, 1, b)), (1, (3, n1, (a1 : Int))), (2, (0, 0, v2))]) (st' := []) (M' := (ax_up M b.toNat 3 ((M b.toNat 3) - 1))) (C' := ((True ∧ ax_r32 ((M b.toNat 3) - 1)) ∧ (0 ≤ ((M b.toNat 3) - 1) ∧ ((M b.toNat 3) - 1) < ((41 : Nat) : Int)))) (by decide +kernel) rfl ⟨⟨trivial, ⟨by omega, by omega⟩⟩, by omega⟩ ?_
            refine ax_bdMe_s hX (fun M12 hM_M12 hX => ?_)
            have hk_k13 : (M12 b.toNat 1) = (M b.toNat 1) := by rw [hM_M12]; exact ax_up_o2 (by decide)
            have hk_k14 : (M12 b.toNat 3) = ((M b.toNat 3) - 1) := by rw [hM_M12]; exact ax_up_s
            refine ax_rngL (i := 3) (u := 0) (n := y5) (by simp) (fun hq15 => ?_)
            have hq15 : (-2147483648) ≤ y5 ∧ y5 ≤ 2147483647 := hq15
            refine ax_lump ax_layC ok_kX1 [(130, .aload_n 0, 1, 0, 0, 0), (131, .getfield 19, 3, 1, 2, 0), (134, .aload_n 0, 1, 0, 0, 0), (135, .getfield 22, 3, 1, 3, 0), (138, .iconst 1, 1, 0, 0, 0), (139, .isub, 1, 1, 0, 0), (140, .iload_n 3, 1, 0, 0, 0), (141, .sipush 2000, 3, 0, 0, 0), (144, .isub, 1, 1, 0, 0), (145, .aload_n 0, 1, 0, 0, 0), (146, .getfield 19, 3, 1, 2, 0), (149, .aload_n 0, 1, 0, 0, 0), (150, .getfield 22, 3, 1, 3, 0), (153, .iconst 1, 1, 0, 0, 0), (154, .isub, 1, 1, 0, 0), (155, .iaload, 1, 0, 0, 0), (156, .aload_n 0, 1, 0, 0, 0), (157, .getfield 19, 3, 1, 2, 0), (160, .aload_n 0, 1, 0, 0, 0), (161, .getfield 22, 3, 1, 3, 0), (164, .iaload, 1, 0, 0, 0)] (pc' := 165) (lc' := [(3, (0, 0, y5)), (0, (2, 1, b)), (1, (3, n1, (a1 : Int))), (2, (0, 0, v2))]) (st' := [(0, 0, (M12 (b + 2).toNat (M12 b.toNat 3).toNat)), (0, 0, (M12 (b + 2).toNat ((M12 b.toNat 3) - 1).toNat)), (0, 0, (y5 - 2000)), (0, 0, ((M12 b.toNat 3) - 1)), (3, 40, (b + 2))]) (M' := M12) (C' := (((((True ∧ ax_r32 ((M12 b.toNat 3) - 1)) ∧ ax_r32 (y5 - 2000)) ∧ ax_r32 ((M12 b.toNat 3) - 1)) ∧ (0 ≤ ((M12 b.toNat 3) - 1) ∧ ((M12 b.toNat 3) - 1) < ((40 : Nat) : Int))) ∧ (0 ≤ (M12 b.toNat 3) ∧ (M12 b.toNat 3) < ((40 : Nat) : Int)))) (by decide +kernel) rfl ⟨⟨⟨⟨⟨trivial, ⟨by omega, by omega⟩⟩, ⟨by omega, by omega⟩⟩, ⟨by omega, by omega⟩⟩, by omega⟩, by omega⟩ ?_
            refine ax_cSi (G1 := gX1_joined) (d1 := d + 0) (i := 79) (n := 3) (as := [(0, 0, (y5 - 2000)), (0, 0, (M12 (b + 2).toNat ((M12 b.toNat 3) - 1).toNat)), (0, 0, (M12 (b + 2).toNat (M12 b.toNat 3).toNat))]) (st := [(0, 0, ((M12 b.toNat 3) - 1)), (3, 40, (b + 2))]) (by decide +kernel) calX1_joined (by omega) rfl wt_502 wt_503 (Nat.le_of_ble_eq_true rfl) rfl (c_X1_joined d (y5 - 2000) (M12 (b + 2).toNat ((M12 b.toNat 3) - 1).toNat) (M12 (b + 2).toNat (M12 b.toNat 3).toNat) M12) (fun hc16 => ?_)
            refine ax_lump ax_layC ok_kX1 [(168, .iastore, 1, 0, 0, 0)] (pc' := 169) (lc' := [(3, (0, 0, y5)), (0, (2, 1, b)), (1, (3, n1, (a1 : Int))), (2, (0, 0, v2))]) (st' := []) (M' := (ax_up M12 (b + 2).toNat ((M12 b.toNat 3) - 1).toNat (f_X1_joined (y5 - 2000) (M12 (b + 2).toNat ((M12 b.toNat 3) - 1).toNat) (M12 (b + 2).toNat (M12 b.toNat 3).toNat) M12))) (C' := (True ∧ (0 ≤ ((M12 b.toNat 3) - 1) ∧ ((M12 b.toNat 3) - 1) < ((40 : Nat) : Int)))) (by decide +kernel) rfl ⟨trivial, by omega⟩ ?_
            refine ax_bdMe_s hX (fun M17 hM_M17 hX => ?_)
            have hk_k18 : (M17 b.toNat 1) = (M12 b.toNat 1) := by rw [hM_M17]; exact ax_up_o1 (by omega)
            have hk_k19 : (M17 b.toNat 3) = (M12 b.toNat 3) := by rw [hM_M17]; exact ax_up_o1 (by omega)
            refine ax_rngL (i := 2) (u := 0) (n := v2) (by simp) (fun hq20 => ?_)
            have hq20 : (-2147483648) ≤ v2 ∧ v2 ≤ 2147483647 := hq20
            refine ax_lump ax_layC ok_kX1 [(169, .iinc 2 1, 3, 1, 0, 0), (172, .goto (-165), 3, 7, 0, 0)] (pc' := 7) (lc' := [(2, (0, 0, (v2 + 1))), (3, (0, 0, y5)), (0, (2, 1, b)), (1, (3, n1, (a1 : Int)))]) (st' := []) (M' := M17) (C' := (True ∧ ax_r32 (v2 + 1))) (by decide +kernel) rfl ⟨trivial, ⟨by omega, by omega⟩⟩ ?_
            refine ax_pk [2,3,0] (lc' := [(0, (2, 1, b)), (1, (3, n1, (a1 : Int))), (2, (0, 0, (v2 + 1)))]) rfl ?_
            exact hkc (v2 + 1) M17  hX
        · refine ax_fact (i := 0) (c := 1) (f := 3) (hi := 40) (s := b) (by simp) rfl rfl rfl (fun hf21 => ?_)
          have hf21 : 0 ≤ (M b.toNat 3) ∧ (M b.toNat 3) ≤ 40 := hf21
          refine ax_lump ax_layC ok_kX1 [(79, .aload_n 0, 1, 0, 0, 0), (80, .getfield 22, 3, 1, 3, 0)] (pc' := 83) (lc' := [(3, (0, 0, y5)), (0, (2, 1, b)), (1, (3, n1, (a1 : Int))), (2, (0, 0, v2))]) (st' := [(0, 0, (M b.toNat 3))]) (M' := M) (C' := True) (by decide +kernel) rfl trivial ?_
          refine ax_zle_s hX (off := 86) (tgt := 169) (by decide +kernel) (by decide) (fun h22 hX => ?_) (fun h22 hX => ?_)
          · refine ax_rngL (i := 2) (u := 0) (n := v2) (by simp) (fun hq23 => ?_)
            have hq23 : (-2147483648) ≤ v2 ∧ v2 ≤ 2147483647 := hq23
            refine ax_lump ax_layC ok_kX1 [(169, .iinc 2 1, 3, 1, 0, 0), (172, .goto (-165), 3, 7, 0, 0)] (pc' := 7) (lc' := [(2, (0, 0, (v2 + 1))), (3, (0, 0, y5)), (0, (2, 1, b)), (1, (3, n1, (a1 : Int)))]) (st' := []) (M' := M) (C' := (True ∧ ax_r32 (v2 + 1))) (by decide +kernel) rfl ⟨trivial, ⟨by omega, by omega⟩⟩ ?_
            refine ax_pk [2,3,0] (lc' := [(0, (2, 1, b)), (1, (3, n1, (a1 : Int))), (2, (0, 0, (v2 + 1)))]) rfl ?_
            exact hkc (v2 + 1) M  hX
          · refine ax_lump ax_layC ok_kX1 [(86, .aload_n 0, 1, 0, 0, 0), (87, .getfield 19, 3, 1, 2, 0), (90, .aload_n 0, 1, 0, 0, 0), (91, .getfield 22, 3, 1, 3, 0), (94, .iconst 1, 1, 0, 0, 0), (95, .isub, 1, 1, 0, 0), (96, .aload_n 0, 1, 0, 0, 0), (97, .getfield 19, 3, 1, 2, 0), (100, .aload_n 0, 1, 0, 0, 0), (101, .getfield 22, 3, 1, 3, 0), (104, .iconst 1, 1, 0, 0, 0), (105, .isub, 1, 1, 0, 0), (106, .iaload, 1, 0, 0, 0), (107, .ineg, 1, 0, 0, 0), (108, .iastore, 1, 0, 0, 0)] (pc' := 109) (lc' := [(3, (0, 0, y5)), (0, (2, 1, b)), (1, (3, n1, (a1 : Int))), (2, (0, 0, v2))]) (st' := []) (M' := (ax_up M (b + 2).toNat ((M b.toNat 3) - 1).toNat (ax_wr (-(M (b + 2).toNat ((M b.toNat 3) - 1).toNat))))) (C' := ((((True ∧ ax_r32 ((M b.toNat 3) - 1)) ∧ ax_r32 ((M b.toNat 3) - 1)) ∧ (0 ≤ ((M b.toNat 3) - 1) ∧ ((M b.toNat 3) - 1) < ((40 : Nat) : Int))) ∧ (0 ≤ ((M b.toNat 3) - 1) ∧ ((M b.toNat 3) - 1) < ((40 : Nat) : Int)))) (by decide +kernel) rfl ⟨⟨⟨⟨trivial, ⟨by omega, by omega⟩⟩, ⟨by omega, by omega⟩⟩, by omega⟩, by omega⟩ ?_
            refine ax_bdMe_s hX (fun M24 hM_M24 hX => ?_)
            have hk_k25 : (M24 b.toNat 1) = (M b.toNat 1) := by rw [hM_M24]; exact ax_up_o1 (by omega)
            have hk_k26 : (M24 b.toNat 3) = (M b.toNat 3) := by rw [hM_M24]; exact ax_up_o1 (by omega)
            refine ax_rngL (i := 2) (u := 0) (n := v2) (by simp) (fun hq27 => ?_)
            have hq27 : (-2147483648) ≤ v2 ∧ v2 ≤ 2147483647 := hq27
            refine ax_lump ax_layC ok_kX1 [(109, .goto 60, 3, 169, 0, 0), (169, .iinc 2 1, 3, 1, 0, 0), (172, .goto (-165), 3, 7, 0, 0)] (pc' := 7) (lc' := [(2, (0, 0, (v2 + 1))), (3, (0, 0, y5)), (0, (2, 1, b)), (1, (3, n1, (a1 : Int)))]) (st' := []) (M' := M24) (C' := (True ∧ ax_r32 (v2 + 1))) (by decide +kernel) rfl ⟨trivial, ⟨by omega, by omega⟩⟩ ?_
            refine ax_pk [2,3,0] (lc' := [(0, (2, 1, b)), (1, (3, n1, (a1 : Int))), (2, (0, 0, (v2 + 1)))]) rfl ?_
            exact hkc (v2 + 1) M24  hX
      · refine ax_lump ax_layC ok_kX1 [(44, .aload_n 0, 1, 0, 0, 0), (45, .iload_n 3, 1, 0, 0, 0), (46, .sipush 1000, 3, 0, 0, 0), (49, .isub, 1, 1, 0, 0), (50, .aload_n 1, 1, 0, 0, 0), (51, .arraylength, 1, 0, 0, 0)] (pc' := 52) (lc' := [(3, (0, 0, y5)), (0, (2, 1, b)), (1, (3, n1, (a1 : Int))), (2, (0, 0, v2))]) (st' := [(0, 0, (n1 : Int)), (0, 0, (y5 - 1000)), (2, 1, b)]) (M' := M) (C' := ((True ∧ ax_r32 (y5 - 1000)) ∧ ((n1 : Nat) : Int) ≤ 2147483647)) (by decide +kernel) rfl ⟨⟨trivial, ⟨by omega, by omega⟩⟩, by omega⟩ ?_
        refine ax_jge_s hX (off := 13) (tgt := 65) (by decide +kernel) (by decide) (fun h28 hX => ?_) (fun h28 hX => ?_)
        · refine ax_lump ax_layC ok_kX1 [(65, .iconst 0, 1, 0, 0, 0)] (pc' := 66) (lc' := [(3, (0, 0, y5)), (0, (2, 1, b)), (1, (3, n1, (a1 : Int))), (2, (0, 0, v2))]) (st' := [(0, 0, 0), (2, 1, b)]) (M' := M) (C' := True) (by decide +kernel) rfl trivial ?_
          refine ax_cVv_s hX (G1 := gX1_push) (d1 := d + 0) (i := 59) (n := 1) (as := [(0, 0, 0)]) (st := []) (c := 1) (a := b) (by decide +kernel) ax_cls1 calX1_push (by omega) rfl wt_229 wt_231 ws_6 (Nat.le_of_ble_eq_true rfl) rfl (c_X1_push d b 0 M) (fun M29 hX => ?_)
          refine ax_rngL (i := 2) (u := 0) (n := v2) (by simp) (fun hq30 => ?_)
          have hq30 : (-2147483648) ≤ v2 ∧ v2 ≤ 2147483647 := hq30
          refine ax_lump ax_layC ok_kX1 [(69, .goto 100, 3, 169, 0, 0), (169, .iinc 2 1, 3, 1, 0, 0), (172, .goto (-165), 3, 7, 0, 0)] (pc' := 7) (lc' := [(2, (0, 0, (v2 + 1))), (3, (0, 0, y5)), (0, (2, 1, b)), (1, (3, n1, (a1 : Int)))]) (st' := []) (M' := M29) (C' := (True ∧ ax_r32 (v2 + 1))) (by decide +kernel) rfl ⟨trivial, ⟨by omega, by omega⟩⟩ ?_
          refine ax_pk [2,3,0] (lc' := [(0, (2, 1, b)), (1, (3, n1, (a1 : Int))), (2, (0, 0, (v2 + 1)))]) rfl ?_
          exact hkc (v2 + 1) M29  hX
        · refine ax_rq_s hX (fun hS31 hX => ?_)
          refine ax_lump ax_layC ok_kX1 [(55, .aload_n 1, 1, 0, 0, 0), (56, .iload_n 3, 1, 0, 0, 0), (57, .sipush 1000, 3, 0, 0, 0), (60, .isub, 1, 1, 0, 0), (61, .iaload, 1, 0, 0, 0), (62, .goto 4, 3, 66, 0, 0)] (pc' := 66) (lc' := [(3, (0, 0, y5)), (0, (2, 1, b)), (1, (3, n1, (a1 : Int))), (2, (0, 0, v2))]) (st' := [(0, 0, (M a1 (y5 - 1000).toNat)), (2, 1, b)]) (M' := M) (C' := ((True ∧ ax_r32 (y5 - 1000)) ∧ (0 ≤ (y5 - 1000) ∧ (y5 - 1000) < ((n1 : Nat) : Int)))) (by decide +kernel) rfl ⟨⟨trivial, ⟨by omega, by omega⟩⟩, hS31⟩ ?_
          refine ax_cVv_s hX (G1 := gX1_push) (d1 := d + 0) (i := 59) (n := 1) (as := [(0, 0, (M a1 (y5 - 1000).toNat))]) (st := []) (c := 1) (a := b) (by decide +kernel) ax_cls1 calX1_push (by omega) rfl wt_229 wt_231 ws_6 (Nat.le_of_ble_eq_true rfl) rfl (c_X1_push d b (M a1 (y5 - 1000).toNat) M) (fun M32 hX => ?_)
          refine ax_rngL (i := 2) (u := 0) (n := v2) (by simp) (fun hq33 => ?_)
          have hq33 : (-2147483648) ≤ v2 ∧ v2 ≤ 2147483647 := hq33
          refine ax_lump ax_layC ok_kX1 [(69, .goto 100, 3, 169, 0, 0), (169, .iinc 2 1, 3, 1, 0, 0), (172, .goto (-165), 3, 7, 0, 0)] (pc' := 7) (lc' := [(2, (0, 0, (v2 + 1))), (3, (0, 0, y5)), (0, (2, 1, b)), (1, (3, n1, (a1 : Int)))]) (st' := []) (M' := M32) (C' := (True ∧ ax_r32 (v2 + 1))) (by decide +kernel) rfl ⟨trivial, ⟨by omega, by omega⟩⟩ ?_
          refine ax_pk [2,3,0] (lc' := [(0, (2, 1, b)), (1, (3, n1, (a1 : Int))), (2, (0, 0, (v2 + 1)))]) rfl ?_
          exact hkc (v2 + 1) M32  hX
    · refine ax_lump ax_layC ok_kX1 [(29, .aload_n 0, 1, 0, 0, 0), (30, .iload_n 3, 1, 0, 0, 0)] (pc' := 31) (lc' := [(3, (0, 0, y5)), (0, (2, 1, b)), (1, (3, n1, (a1 : Int))), (2, (0, 0, v2))]) (st' := [(0, 0, y5), (2, 1, b)]) (M' := M) (C' := True) (by decide +kernel) rfl trivial ?_
      refine ax_cVv_s hX (G1 := gX1_push) (d1 := d + 0) (i := 59) (n := 1) (as := [(0, 0, y5)]) (st := []) (c := 1) (a := b) (by decide +kernel) ax_cls1 calX1_push (by omega) rfl wt_229 wt_231 ws_6 (Nat.le_of_ble_eq_true rfl) rfl (c_X1_push d b y5 M) (fun M34 hX => ?_)
      refine ax_rngL (i := 2) (u := 0) (n := v2) (by simp) (fun hq35 => ?_)
      have hq35 : (-2147483648) ≤ v2 ∧ v2 ≤ 2147483647 := hq35
      refine ax_lump ax_layC ok_kX1 [(34, .goto 135, 3, 169, 0, 0), (169, .iinc 2 1, 3, 1, 0, 0), (172, .goto (-165), 3, 7, 0, 0)] (pc' := 7) (lc' := [(2, (0, 0, (v2 + 1))), (3, (0, 0, y5)), (0, (2, 1, b)), (1, (3, n1, (a1 : Int)))]) (st' := []) (M' := M34) (C' := (True ∧ ax_r32 (v2 + 1))) (by decide +kernel) rfl ⟨trivial, ⟨by omega, by omega⟩⟩ ?_
      refine ax_pk [2,3,0] (lc' := [(0, (2, 1, b)), (1, (3, n1, (a1 : Int))), (2, (0, 0, (v2 + 1)))]) rfl ?_
      exact hkc (v2 + 1) M34  hX
set_option maxRecDepth 100000 in
set_option maxHeartbeats 4000000 in
theorem w_X1_worth_L7 (d : Nat) (b : Int) (n1 : Nat) (a1 : Nat) (kx : ax_M → Prop × Int × ax_M) (hw_b : 0 ≤ b ∧ b ≤ 100000) (hw_n1 : 0 ≤ n1 ∧ n1 ≤ 100000) (hkx : ∀ (M9 : ax_M), (True) → (kx M9).1 → ax_W ax_LC gX1_worth (d + 1) 175 [(0, (2, 1, b))] [] M9 ((ax_qm (-2147483648) 2147483647) (kx M9).2)) : ∀ (n : Nat) (v2 : Int) (M : ax_M), (f_X1_worth_L7 b n1 a1 n v2 M kx).1 → ax_W ax_LC gX1_worth (d + 1) 7 [(0, (2, 1, b)), (1, (3, n1, (a1 : Int))), (2, (0, 0, v2))] [] M ((ax_qm (-2147483648) 2147483647) (f_X1_worth_L7 b n1 a1 n v2 M kx).2) := by
  intro n
  induction n with
  | zero =>
    intro v2 M hX
    exact False.elim hX
  | succ n ih =>
    intro v2 M hX
    exact wb_X1_worth_B7 d b n1 a1 v2 M _ kx hw_b hw_n1   (fun u2 M9 hX => ih u2 M9   hX) hkx hX
def f_X1_worth (b : Int) (n1 : Nat) (a1 : Nat) (M : ax_M) : Prop × Int × ax_M := ax_bd (ax_up M b.toNat 3 0) (fun M1 => f_X1_worth_L7 b n1 a1 100  0 M1 (fun M36 => (if (M36 b.toNat 3) ≤ 0 then (True, (0, M36)) else (True, ((M36 (b + 2).toNat 0), M36)))))
set_option maxRecDepth 100000 in
set_option maxHeartbeats 4000000 in
theorem c_X1_worth (d : Nat) (b : Int) (n1 : Nat) (a1 : Nat) (M : ax_M) (hl_n1 : (n1 : Int) ≤ 100000) (hX : (f_X1_worth b n1 a1 M).1) : ax_Met ax_LC gX1_worth (d + 1) [(2, 1, b), (3, n1, (a1 : Int))] M ((ax_qm (-2147483648) 2147483647) (f_X1_worth b n1 a1 M).2) := by
  refine ax_body (by decide) (fun X => Nat.le_of_ble_eq_true rfl) (fun hok => ?_)
  have hb0 : 0 ≤ b := (hok (2, 1, b) (by simp)).1
  have hb1 : b ≤ 100000 := by have h8 : b.toNat < ax_LC.length := ax_ltL (hok (2, 1, b) (by simp)).2; have h9 : ax_LC.length = 38 := rfl; rw [h9] at h8; omega
  show ax_W ax_LC gX1_worth (d + 1) 0 [(0, (2, 1, b)), (1, (3, n1, (a1 : Int)))] [] M _
  unfold f_X1_worth at hX ⊢
  refine ax_lump ax_layC ok_kX1 [(0, .aload_n 0, 1, 0, 0, 0), (1, .iconst 0, 1, 0, 0, 0), (2, .putfield 22, 3, 1, 3, 0)] (pc' := 5) (lc' := [(0, (2, 1, b)), (1, (3, n1, (a1 : Int)))]) (st' := []) (M' := (ax_up M b.toNat 3 0)) (C' := (True ∧ (0 ≤ 0 ∧ 0 < ((41 : Nat) : Int)))) (by decide +kernel) rfl ⟨trivial, by omega⟩ ?_
  refine ax_bdMe_s hX (fun M1 hM_M1 hX => ?_)
  refine ax_lump ax_layC ok_kX1 [(5, .iconst 0, 1, 0, 0, 0), (6, .istore_n 2, 1, 0, 0, 0)] (pc' := 7) (lc' := [(2, (0, 0, 0)), (0, (2, 1, b)), (1, (3, n1, (a1 : Int)))]) (st' := []) (M' := M1) (C' := True) (by decide +kernel) rfl trivial ?_
  refine ax_pk [1,2,0] (lc' := [(0, (2, 1, b)), (1, (3, n1, (a1 : Int))), (2, (0, 0, 0))]) rfl ?_
  refine w_X1_worth_L7 d b n1 a1 _ (by omega) (by omega) (fun M36 hx_36 hX => ?_) 100  0 M1   hX
  refine ax_fact (i := 0) (c := 1) (f := 3) (hi := 40) (s := b) (by simp) rfl rfl rfl (fun hf37 => ?_)
  have hf37 : 0 ≤ (M36 b.toNat 3) ∧ (M36 b.toNat 3) ≤ 40 := hf37
  refine ax_lump ax_layC ok_kX1 [(175, .aload_n 0, 1, 0, 0, 0), (176, .getfield 22, 3, 1, 3, 0)] (pc' := 179) (lc' := [(0, (2, 1, b))]) (st' := [(0, 0, (M36 b.toNat 3))]) (M' := M36) (C' := True) (by decide +kernel) rfl trivial ?_
  refine ax_zle_s hX (off := 12) (tgt := 191) (by decide +kernel) (by decide) (fun h38 hX => ?_) (fun h38 hX => ?_)
  · refine ax_lump ax_layC ok_kX1 [(191, .iconst 0, 1, 0, 0, 0)] (pc' := 192) (lc' := [(0, (2, 1, b))]) (st' := [(0, 0, 0)]) (M' := M36) (C' := True) (by decide +kernel) rfl trivial ?_
    refine ax_rngS (fun hr => ?_)
    exact ax_iret (by decide +kernel) rfl ⟨rfl, rfl, hr.1, hr.2⟩
  · refine ax_lump ax_layC ok_kX1 [(182, .aload_n 0, 1, 0, 0, 0), (183, .getfield 19, 3, 1, 2, 0), (186, .iconst 0, 1, 0, 0, 0), (187, .iaload, 1, 0, 0, 0), (188, .goto 4, 3, 192, 0, 0)] (pc' := 192) (lc' := [(0, (2, 1, b))]) (st' := [(0, 0, (M36 (b + 2).toNat 0))]) (M' := M36) (C' := (True ∧ (0 ≤ 0 ∧ 0 < ((40 : Nat) : Int)))) (by decide +kernel) rfl ⟨trivial, by omega⟩ ?_
    refine ax_rngS (fun hr => ?_)
    exact ax_iret (by decide +kernel) rfl ⟨rfl, rfl, hr.1, hr.2⟩
def f_X2_reads (x1 : Int) (M : ax_M) : Int × ax_M := (if (f_X2_isPage x1 M) ≠ 0 then ax_bd (f_X0_latestOf 1 x1 M) (fun y4 => (if y4 ≠ (-1) then ax_bd (f_X2_tellAnew M) (fun M6 => ax_bd (f_X2_tell (y4 / 4) M6) (fun M7 => ax_bd (f_X2_tell (y4 % 4) M7) (fun M8 => ax_bd (f_X2_tell (M8 4 y4.toNat) M8) (fun M9 => ((M9 3 y4.toNat), M9))))) else ((-2), M))) else ((-1), M))
set_option maxRecDepth 100000 in
set_option maxHeartbeats 4000000 in
theorem c_X2_reads (d : Nat) (x1 : Int) (M : ax_M)  : ax_Met ax_LC gX2_reads (d + 3) [(2, 2, 0), (0, 0, x1)] M ((ax_qm (-2147483648) 2147483647) (f_X2_reads x1 M)) := by
  refine ax_body (by decide) (fun X => Nat.le_of_ble_eq_true rfl) (fun hok => ?_)
  have hr_x1 : (-2147483648) ≤ x1 ∧ x1 ≤ 2147483647 := hok (0, 0, x1) (by simp)
  show ax_W ax_LC gX2_reads (d + 3) 0 [(0, (2, 2, 0)), (1, (0, 0, x1))] [] M _
  unfold f_X2_reads
  refine ax_lump ax_layC ok_kX2 [(0, .iload_n 1, 1, 0, 0, 0)] (pc' := 1) (lc' := [(0, (2, 2, 0)), (1, (0, 0, x1))]) (st' := [(0, 0, x1)]) (M' := M) (C' := True) (by decide +kernel) rfl trivial ?_
  refine ax_cSi (G1 := gX2_isPage) (d1 := d + 0) (i := 162) (n := 1) (as := [(0, 0, x1)]) (st := []) (by decide +kernel) calX2_isPage (by omega) rfl wt_537 wt_538 (Nat.le_of_ble_eq_true rfl) rfl (c_X2_isPage d x1 M) (fun hc1 => ?_)
  refine ax_zne (off := 5) (tgt := 9) (by decide +kernel) (by decide) (fun h2 => ?_) (fun h2 => ?_)
  · have hgh2 := g_X2_isPage h2
    refine ax_lump ax_layC ok_kX2 [(9, .aload_n 0, 1, 0, 0, 0), (10, .getfield 12, 3, 2, 0, 0), (13, .iload_n 1, 1, 0, 0, 0)] (pc' := 14) (lc' := [(0, (2, 2, 0)), (1, (0, 0, x1))]) (st' := [(0, 0, x1), (2, 0, 1)]) (M' := M) (C' := True) (by decide +kernel) rfl trivial ?_
    refine ax_cNi (G1 := gX0_latestOf) (d1 := d + 2) (i := 165) (n := 1) (as := [(0, 0, x1)]) (st := []) (c := 0) (a := 1) (by decide +kernel) ax_cls0 calX0_latestOf (by omega) rfl wn_540 wt_416 ws_24 (Nat.le_of_ble_eq_true rfl) rfl (c_X0_latestOf d 1 x1 M) (fun hc3 => ?_)
    refine ax_lump ax_layC ok_kX2 [(17, .istore_n 2, 1, 0, 0, 0)] (pc' := 18) (lc' := [(2, (0, 0, (f_X0_latestOf 1 x1 M))), (0, (2, 2, 0)), (1, (0, 0, x1))]) (st' := []) (M' := M) (C' := True) (by decide +kernel) rfl trivial ?_
    refine ax_bdI (lo := (-1)) (hi := 63) (e := (f_X0_latestOf 1 x1 M)) (fun y4 => [(2, (0, 0, y4)), (0, (2, 2, 0)), (1, (0, 0, x1))]) (fun y4 => []) (by omega) (fun y4 h_y4 => ?_)
    refine ax_lump ax_layC ok_kX2 [(18, .iload_n 2, 1, 0, 0, 0), (19, .iconst (-1), 1, 0, 0, 0)] (pc' := 20) (lc' := [(2, (0, 0, y4)), (0, (2, 2, 0)), (1, (0, 0, x1))]) (st' := [(0, 0, (-1)), (0, 0, y4)]) (M' := M) (C' := True) (by decide +kernel) rfl trivial ?_
    refine ax_jne (off := 6) (tgt := 26) (by decide +kernel) (by decide) (fun h5 => ?_) (fun h5 => ?_)
    · refine ax_lump ax_layC ok_kX2 [(26, .aload_n 0, 1, 0, 0, 0)] (pc' := 27) (lc' := [(2, (0, 0, y4)), (0, (2, 2, 0)), (1, (0, 0, x1))]) (st' := [(2, 2, 0)]) (M' := M) (C' := True) (by decide +kernel) rfl trivial ?_
      refine ax_cVv (G1 := gX2_tellAnew) (d1 := d + 0) (i := 168) (n := 0) (as := []) (st := []) (c := 2) (a := 0) (by decide +kernel) ax_cls2 calX2_tellAnew (by omega) rfl wt_517 wt_519 ws_47 (Nat.le_of_ble_eq_true rfl) rfl (c_X2_tellAnew d  M) (fun M6 => ?_)
      refine ax_lump ax_layC ok_kX2 [(30, .aload_n 0, 1, 0, 0, 0), (31, .iload_n 2, 1, 0, 0, 0), (32, .iconst 4, 1, 0, 0, 0), (33, .idiv, 1, 1, 0, 0), (34, .i2l, 1, 0, 0, 0)] (pc' := 35) (lc' := [(2, (0, 0, y4)), (0, (2, 2, 0)), (1, (0, 0, x1))]) (st' := [(1, 0, (y4 / 4)), (2, 2, 0)]) (M' := M6) (C' := (True ∧ (0 ≤ y4 ∧ 0 < 4))) (by decide +kernel) rfl ⟨trivial, by omega⟩ ?_
      refine ax_cVv (G1 := gX2_tell) (d1 := d + 0) (i := 155) (n := 1) (as := [(1, 0, (y4 / 4))]) (st := []) (c := 2) (a := 0) (by decide +kernel) ax_cls2 calX2_tell (by omega) rfl wt_521 wt_523 ws_48 (Nat.le_of_ble_eq_true rfl) rfl (c_X2_tell d (y4 / 4) M6) (fun M7 => ?_)
      refine ax_lump ax_layC ok_kX2 [(38, .aload_n 0, 1, 0, 0, 0), (39, .iload_n 2, 1, 0, 0, 0), (40, .iconst 4, 1, 0, 0, 0), (41, .irem, 1, 1, 0, 0), (42, .i2l, 1, 0, 0, 0)] (pc' := 43) (lc' := [(2, (0, 0, y4)), (0, (2, 2, 0)), (1, (0, 0, x1))]) (st' := [(1, 0, (y4 % 4)), (2, 2, 0)]) (M' := M7) (C' := (True ∧ (0 ≤ y4 ∧ 0 < 4))) (by decide +kernel) rfl ⟨trivial, by omega⟩ ?_
      refine ax_cVv (G1 := gX2_tell) (d1 := d + 0) (i := 155) (n := 1) (as := [(1, 0, (y4 % 4))]) (st := []) (c := 2) (a := 0) (by decide +kernel) ax_cls2 calX2_tell (by omega) rfl wt_521 wt_523 ws_48 (Nat.le_of_ble_eq_true rfl) rfl (c_X2_tell d (y4 % 4) M7) (fun M8 => ?_)
      refine ax_lump ax_layC ok_kX2 [(46, .aload_n 0, 1, 0, 0, 0), (47, .aload_n 0, 1, 0, 0, 0), (48, .getfield 12, 3, 2, 0, 0), (51, .getfield 116, 3, 0, 2, 0), (54, .iload_n 2, 1, 0, 0, 0), (55, .iaload, 1, 0, 0, 0), (56, .i2l, 1, 0, 0, 0)] (pc' := 57) (lc' := [(2, (0, 0, y4)), (0, (2, 2, 0)), (1, (0, 0, x1))]) (st' := [(1, 0, (M8 4 y4.toNat)), (2, 2, 0)]) (M' := M8) (C' := (True ∧ (0 ≤ y4 ∧ y4 < ((64 : Nat) : Int)))) (by decide +kernel) rfl ⟨trivial, by omega⟩ ?_
      refine ax_cVv (G1 := gX2_tell) (d1 := d + 0) (i := 155) (n := 1) (as := [(1, 0, (M8 4 y4.toNat))]) (st := []) (c := 2) (a := 0) (by decide +kernel) ax_cls2 calX2_tell (by omega) rfl wt_521 wt_523 ws_48 (Nat.le_of_ble_eq_true rfl) rfl (c_X2_tell d (M8 4 y4.toNat) M8) (fun M9 => ?_)
      refine ax_lump ax_layC ok_kX2 [(60, .aload_n 0, 1, 0, 0, 0), (61, .getfield 12, 3, 2, 0, 0), (64, .getfield 113, 3, 0, 1, 0), (67, .iload_n 2, 1, 0, 0, 0), (68, .iaload, 1, 0, 0, 0)] (pc' := 69) (lc' := [(2, (0, 0, y4)), (0, (2, 2, 0)), (1, (0, 0, x1))]) (st' := [(0, 0, (M9 3 y4.toNat))]) (M' := M9) (C' := (True ∧ (0 ≤ y4 ∧ y4 < ((64 : Nat) : Int)))) (by decide +kernel) rfl ⟨trivial, by omega⟩ ?_
      refine ax_rngS (fun hr => ?_)
      exact ax_iret (by decide +kernel) rfl ⟨rfl, rfl, hr.1, hr.2⟩
    · refine ax_lump ax_layC ok_kX2 [(23, .bipush (-2), 2, 0, 0, 0)] (pc' := 25) (lc' := [(2, (0, 0, y4)), (0, (2, 2, 0)), (1, (0, 0, x1))]) (st' := [(0, 0, (-2))]) (M' := M) (C' := True) (by decide +kernel) rfl trivial ?_
      refine ax_rngS (fun hr => ?_)
      exact ax_iret (by decide +kernel) rfl ⟨rfl, rfl, hr.1, hr.2⟩
  · refine ax_lump ax_layC ok_kX2 [(7, .iconst (-1), 1, 0, 0, 0)] (pc' := 8) (lc' := [(0, (2, 2, 0)), (1, (0, 0, x1))]) (st' := [(0, 0, (-1))]) (M' := M) (C' := True) (by decide +kernel) rfl trivial ?_
    refine ax_rngS (fun hr => ?_)
    exact ax_iret (by decide +kernel) rfl ⟨rfl, rfl, hr.1, hr.2⟩
def f_X0_save (b : Nat) (n1 : Nat) (a1 : Nat) (x2 : Int) (M : ax_M) : ax_M := ax_bd (f_X0_carry b n1 a1 x2 1 M) (fun M1 => M1)
set_option maxRecDepth 100000 in
set_option maxHeartbeats 4000000 in
theorem c_X0_save (d : Nat) (b : Nat) (n1 : Nat) (a1 : Nat) (x2 : Int) (M : ax_M) (hl_n1 : (n1 : Int) ≤ 100000) : ax_Met ax_LC gX0_save (d + 3) [(2, 0, (b : Int)), (3, n1, (a1 : Int)), (0, 0, x2)] M (ax_qv (f_X0_save b n1 a1 x2 M)) := by
  refine ax_body (by decide) (fun X => Nat.le_of_ble_eq_true rfl) (fun hok => ?_)
  have hr_x2 : (-2147483648) ≤ x2 ∧ x2 ≤ 2147483647 := hok (0, 0, x2) (by simp)
  show ax_W ax_LC gX0_save (d + 3) 0 [(0, (2, 0, (b : Int))), (1, (3, n1, (a1 : Int))), (2, (0, 0, x2))] [] M _
  unfold f_X0_save
  refine ax_lump ax_layC ok_kX0 [(0, .aload_n 0, 1, 0, 0, 0), (1, .aload_n 1, 1, 0, 0, 0), (2, .iload_n 2, 1, 0, 0, 0), (3, .iconst 1, 1, 0, 0, 0)] (pc' := 4) (lc' := [(0, (2, 0, (b : Int))), (1, (3, n1, (a1 : Int))), (2, (0, 0, x2))]) (st' := [(0, 0, 1), (0, 0, x2), (3, n1, (a1 : Int)), (2, 0, (b : Int))]) (M' := M) (C' := True) (by decide +kernel) rfl trivial ?_
  refine ax_cVv (G1 := gX0_carry) (d1 := d + 2) (i := 77) (n := 3) (as := [(3, n1, (a1 : Int)), (0, 0, x2), (0, 0, 1)]) (st := []) (c := 0) (a := (b : Int)) (by decide +kernel) ax_cls0 calX0_carry (by omega) rfl wt_370 wt_372 ws_14 (Nat.le_of_ble_eq_true rfl) rfl (c_X0_carry d b n1 a1 x2 1 M (by omega) (by omega)) (fun M1 => ?_)
  exact ax_vret (by decide +kernel) rfl ⟨rfl, rfl⟩
def f_X0_load (b : Nat) (n1 : Nat) (a1 : Nat) (x2 : Int) (M : ax_M) : ax_M := ax_bd (f_X0_carry b n1 a1 x2 0 M) (fun M1 => M1)
set_option maxRecDepth 100000 in
set_option maxHeartbeats 4000000 in
theorem c_X0_load (d : Nat) (b : Nat) (n1 : Nat) (a1 : Nat) (x2 : Int) (M : ax_M) (hl_n1 : (n1 : Int) ≤ 100000) : ax_Met ax_LC gX0_load (d + 3) [(2, 0, (b : Int)), (3, n1, (a1 : Int)), (0, 0, x2)] M (ax_qv (f_X0_load b n1 a1 x2 M)) := by
  refine ax_body (by decide) (fun X => Nat.le_of_ble_eq_true rfl) (fun hok => ?_)
  have hr_x2 : (-2147483648) ≤ x2 ∧ x2 ≤ 2147483647 := hok (0, 0, x2) (by simp)
  show ax_W ax_LC gX0_load (d + 3) 0 [(0, (2, 0, (b : Int))), (1, (3, n1, (a1 : Int))), (2, (0, 0, x2))] [] M _
  unfold f_X0_load
  refine ax_lump ax_layC ok_kX0 [(0, .aload_n 0, 1, 0, 0, 0), (1, .aload_n 1, 1, 0, 0, 0), (2, .iload_n 2, 1, 0, 0, 0), (3, .iconst 0, 1, 0, 0, 0)] (pc' := 4) (lc' := [(0, (2, 0, (b : Int))), (1, (3, n1, (a1 : Int))), (2, (0, 0, x2))]) (st' := [(0, 0, 0), (0, 0, x2), (3, n1, (a1 : Int)), (2, 0, (b : Int))]) (M' := M) (C' := True) (by decide +kernel) rfl trivial ?_
  refine ax_cVv (G1 := gX0_carry) (d1 := d + 2) (i := 77) (n := 3) (as := [(3, n1, (a1 : Int)), (0, 0, x2), (0, 0, 0)]) (st := []) (c := 0) (a := (b : Int)) (by decide +kernel) ax_cls0 calX0_carry (by omega) rfl wt_370 wt_372 ws_14 (Nat.le_of_ble_eq_true rfl) rfl (c_X0_carry d b n1 a1 x2 0 M (by omega) (by omega)) (fun M1 => ?_)
  exact ax_vret (by decide +kernel) rfl ⟨rfl, rfl⟩
def f_X0_fullMerge_B25 (b : Nat) (w1 : Int) (w2 : Int) (w3 : Int) (w4 : Int) (i : Nat)  (M : ax_M) (kc : ax_M → Int × ax_M) (kx : ax_M → Int × ax_M) : Int × ax_M := ax_bd (f_X0_copyLeaf b (f_X0_latestOf b (ax_wr ((ax_wr (w1 * 4)) + (i : Int))) M) ((w4 * 4) + (i : Int)) M) (fun M7 => kc M7)
def f_X0_fullMerge_L25 (b : Nat) (w1 : Int) (w2 : Int) (w3 : Int) (w4 : Int) : Nat → Nat → ax_M → (ax_M → Int × ax_M) → Int × ax_M
  | 0, i, M, kx => kx M
  | n + 1, i, M, kx => f_X0_fullMerge_B25 b w1 w2 w3 w4 i  M (fun M9 => f_X0_fullMerge_L25 b w1 w2 w3 w4 n (i + 1) M9 kx) kx
set_option maxRecDepth 100000 in
set_option maxHeartbeats 4000000 in
theorem wb_X0_fullMerge_B25 (d : Nat) (b : Nat) (w1 : Int) (w2 : Int) (w3 : Int) (w4 : Int) (i : Nat)  (M : ax_M) (kc : ax_M → Int × ax_M) (kx : ax_M → Int × ax_M) (hw_w2 : (-1) ≤ w2 ∧ w2 ≤ 15) (hw_w3 : (-1) ≤ w3 ∧ w3 ≤ 15) (hw_w4 : (-1) ≤ w4 ∧ w4 ≤ 15) (hi : 0 ≤ i ∧ i < 4)  (hkc : ∀ (M9 : ax_M), ax_W ax_LC gX0_fullMerge (d + 3) 25 [(0, (2, 0, (b : Int))), (1, (0, 0, w1)), (2, (0, 0, w2)), (3, (0, 0, w3)), (4, (0, 0, w4)), (5, (0, 0, ((i : Int) + 1)))] [] M9 ((ax_qm (-1) 15) (kc M9))) (hkx : ∀ (M9 : ax_M), (True) → ax_W ax_LC gX0_fullMerge (d + 3) 58 [(0, (2, 0, (b : Int))), (2, (0, 0, w2)), (3, (0, 0, w3)), (4, (0, 0, w4))] [] M9 ((ax_qm (-1) 15) (kx M9))) : ax_W ax_LC gX0_fullMerge (d + 3) 31 [(0, (2, 0, (b : Int))), (1, (0, 0, w1)), (2, (0, 0, w2)), (3, (0, 0, w3)), (4, (0, 0, w4)), (5, (0, 0, (i : Int)))] [] M ((ax_qm (-1) 15) (f_X0_fullMerge_B25 b w1 w2 w3 w4 i  M kc kx)) := by
  unfold f_X0_fullMerge_B25
  refine ax_lump ax_layC ok_kX0 [(31, .aload_n 0, 1, 0, 0, 0), (32, .aload_n 0, 1, 0, 0, 0), (33, .iload_n 1, 1, 0, 0, 0), (34, .iconst 4, 1, 0, 0, 0), (35, .imul, 1, 0, 0, 0), (36, .iload 5, 2, 0, 0, 0), (38, .iadd, 1, 0, 0, 0)] (pc' := 39) (lc' := [(0, (2, 0, (b : Int))), (1, (0, 0, w1)), (2, (0, 0, w2)), (3, (0, 0, w3)), (4, (0, 0, w4)), (5, (0, 0, (i : Int)))]) (st' := [(0, 0, (ax_wr ((ax_wr (w1 * 4)) + (i : Int)))), (2, 0, (b : Int)), (2, 0, (b : Int))]) (M' := M) (C' := True) (by decide +kernel) rfl trivial ?_
  refine ax_cVi (G1 := gX0_latestOf) (d1 := d + 2) (i := 156) (n := 1) (as := [(0, 0, (ax_wr ((ax_wr (w1 * 4)) + (i : Int))))]) (st := [(2, 0, (b : Int))]) (c := 0) (a := (b : Int)) (by decide +kernel) ax_cls0 calX0_latestOf (by omega) rfl wt_414 wt_416 ws_24 (Nat.le_of_ble_eq_true rfl) rfl (c_X0_latestOf d b (ax_wr ((ax_wr (w1 * 4)) + (i : Int))) M) (fun hc6 => ?_)
  refine ax_lump ax_layC ok_kX0 [(42, .iload 4, 2, 0, 0, 0), (44, .iconst 4, 1, 0, 0, 0), (45, .imul, 1, 1, 0, 0), (46, .iload 5, 2, 0, 0, 0), (48, .iadd, 1, 1, 0, 0)] (pc' := 49) (lc' := [(0, (2, 0, (b : Int))), (1, (0, 0, w1)), (2, (0, 0, w2)), (3, (0, 0, w3)), (4, (0, 0, w4)), (5, (0, 0, (i : Int)))]) (st' := [(0, 0, ((w4 * 4) + (i : Int))), (0, 0, (f_X0_latestOf b (ax_wr ((ax_wr (w1 * 4)) + (i : Int))) M)), (2, 0, (b : Int))]) (M' := M) (C' := ((True ∧ ax_r32 (w4 * 4)) ∧ ax_r32 ((w4 * 4) + (i : Int)))) (by decide +kernel) rfl ⟨⟨trivial, ⟨by omega, by omega⟩⟩, ⟨by omega, by omega⟩⟩ ?_
  refine ax_cVv (G1 := gX0_copyLeaf) (d1 := d + 1) (i := 159) (n := 2) (as := [(0, 0, (f_X0_latestOf b (ax_wr ((ax_wr (w1 * 4)) + (i : Int))) M)), (0, 0, ((w4 * 4) + (i : Int)))]) (st := []) (c := 0) (a := (b : Int)) (by decide +kernel) ax_cls0 calX0_copyLeaf (by omega) rfl wt_430 wt_432 ws_28 (Nat.le_of_ble_eq_true rfl) rfl (c_X0_copyLeaf d b (f_X0_latestOf b (ax_wr ((ax_wr (w1 * 4)) + (i : Int))) M) ((w4 * 4) + (i : Int)) M) (fun M7 => ?_)
  refine ax_lump ax_layC ok_kX0 [(52, .iinc 5 1, 3, 1, 0, 0), (55, .goto (-30), 3, 25, 0, 0)] (pc' := 25) (lc' := [(5, (0, 0, ((i : Int) + 1))), (0, (2, 0, (b : Int))), (1, (0, 0, w1)), (2, (0, 0, w2)), (3, (0, 0, w3)), (4, (0, 0, w4))]) (st' := []) (M' := M7) (C' := (True ∧ ax_r32 ((i : Int) + 1))) (by decide +kernel) rfl ⟨trivial, ⟨by omega, by omega⟩⟩ ?_
  refine ax_pk [1,2,3,4,5,0] (lc' := [(0, (2, 0, (b : Int))), (1, (0, 0, w1)), (2, (0, 0, w2)), (3, (0, 0, w3)), (4, (0, 0, w4)), (5, (0, 0, ((i : Int) + 1)))]) rfl ?_
  exact hkc M7 
set_option maxRecDepth 100000 in
set_option maxHeartbeats 4000000 in
theorem w_X0_fullMerge_L25 (d : Nat) (b : Nat) (w1 : Int) (w2 : Int) (w3 : Int) (w4 : Int) (kx : ax_M → Int × ax_M) (hw_w2 : (-1) ≤ w2 ∧ w2 ≤ 15) (hw_w3 : (-1) ≤ w3 ∧ w3 ≤ 15) (hw_w4 : (-1) ≤ w4 ∧ w4 ≤ 15) (hkx : ∀ (M9 : ax_M), (True) → ax_W ax_LC gX0_fullMerge (d + 3) 58 [(0, (2, 0, (b : Int))), (2, (0, 0, w2)), (3, (0, 0, w3)), (4, (0, 0, w4))] [] M9 ((ax_qm (-1) 15) (kx M9))) : ∀ (n : Nat) (i : Nat) (M : ax_M), 0 ≤ i ∧ i + n = 4 → ax_W ax_LC gX0_fullMerge (d + 3) 25 [(0, (2, 0, (b : Int))), (1, (0, 0, w1)), (2, (0, 0, w2)), (3, (0, 0, w3)), (4, (0, 0, w4)), (5, (0, 0, (i : Int)))] [] M ((ax_qm (-1) 15) (f_X0_fullMerge_L25 b w1 w2 w3 w4 n i  M kx)) := by
  intro n
  induction n with
  | zero =>
    intro i M hin
    refine ax_lump ax_layC ok_kX0 [(25, .iload 5, 2, 0, 0, 0), (27, .iconst 4, 1, 0, 0, 0)] (pc' := 28) (lc' := [(0, (2, 0, (b : Int))), (1, (0, 0, w1)), (2, (0, 0, w2)), (3, (0, 0, w3)), (4, (0, 0, w4)), (5, (0, 0, (i : Int)))]) (st' := [(0, 0, 4), (0, 0, (i : Int))]) (M' := M) (C' := True) (by decide +kernel) rfl trivial ?_
    refine ax_icmp_ge (off := 30) (tgt := 58) (by decide +kernel) (by decide) (fun h => ?_) (fun h => ?_)
    · refine ax_pk [0,2,3,4] (lc' := [(0, (2, 0, (b : Int))), (2, (0, 0, w2)), (3, (0, 0, w3)), (4, (0, 0, w4))]) rfl ?_
      exact hkx M trivial
    · exfalso; omega
  | succ n ih =>
    intro i M hin
    refine ax_lump ax_layC ok_kX0 [(25, .iload 5, 2, 0, 0, 0), (27, .iconst 4, 1, 0, 0, 0)] (pc' := 28) (lc' := [(0, (2, 0, (b : Int))), (1, (0, 0, w1)), (2, (0, 0, w2)), (3, (0, 0, w3)), (4, (0, 0, w4)), (5, (0, 0, (i : Int)))]) (st' := [(0, 0, 4), (0, 0, (i : Int))]) (M' := M) (C' := True) (by decide +kernel) rfl trivial ?_
    refine ax_icmp_ge (off := 30) (tgt := 58) (by decide +kernel) (by decide) (fun h => ?_) (fun h => ?_)
    · exfalso; omega
    · exact wb_X0_fullMerge_B25 d b w1 w2 w3 w4 i  M _ kx hw_w2 hw_w3 hw_w4 (by omega)  (fun M9 => ih (i + 1)  M9 (by omega) ) hkx
def f_X0_fullMerge (b : Nat) (x1 : Int) (M : ax_M) : Int × ax_M := ax_bd (f_X0_owned b 1 x1 M) (fun y2 => ax_bd (f_X0_owned b 2 x1 M) (fun y4 => ax_bd (f_X0_take b 1 x1 M) (fun y5 => f_X0_fullMerge_L25 b x1 y2 y4 y5.1 4 0  y5.2 (fun M8 => ax_bd (f_X0_wipe b y2 M8) (fun M9 => ax_bd (f_X0_wipe b y4 M9) (fun M10 => ax_bd (f_X0_countOne b 6 M10) (fun M11 => (y5.1, M11))))))))
set_option maxRecDepth 100000 in
set_option maxHeartbeats 4000000 in
theorem c_X0_fullMerge (d : Nat) (b : Nat) (x1 : Int) (M : ax_M)  : ax_Met ax_LC gX0_fullMerge (d + 3) [(2, 0, (b : Int)), (0, 0, x1)] M ((ax_qm (-1) 15) (f_X0_fullMerge b x1 M)) := by
  refine ax_body (by decide) (fun X => Nat.le_of_ble_eq_true rfl) (fun hok => ?_)
  have hr_x1 : (-2147483648) ≤ x1 ∧ x1 ≤ 2147483647 := hok (0, 0, x1) (by simp)
  show ax_W ax_LC gX0_fullMerge (d + 3) 0 [(0, (2, 0, (b : Int))), (1, (0, 0, x1))] [] M _
  unfold f_X0_fullMerge
  refine ax_lump ax_layC ok_kX0 [(0, .aload_n 0, 1, 0, 0, 0), (1, .iconst 1, 1, 0, 0, 0), (2, .iload_n 1, 1, 0, 0, 0)] (pc' := 3) (lc' := [(0, (2, 0, (b : Int))), (1, (0, 0, x1))]) (st' := [(0, 0, x1), (0, 0, 1), (2, 0, (b : Int))]) (M' := M) (C' := True) (by decide +kernel) rfl trivial ?_
  refine ax_cVi (G1 := gX0_owned) (d1 := d + 0) (i := 110) (n := 2) (as := [(0, 0, 1), (0, 0, x1)]) (st := []) (c := 0) (a := (b : Int)) (by decide +kernel) ax_cls0 calX0_owned (by omega) rfl wt_382 wt_384 ws_16 (Nat.le_of_ble_eq_true rfl) rfl (c_X0_owned d b 1 x1 M) (fun hc1 => ?_)
  refine ax_lump ax_layC ok_kX0 [(6, .istore_n 2, 1, 0, 0, 0)] (pc' := 7) (lc' := [(2, (0, 0, (f_X0_owned b 1 x1 M))), (0, (2, 0, (b : Int))), (1, (0, 0, x1))]) (st' := []) (M' := M) (C' := True) (by decide +kernel) rfl trivial ?_
  refine ax_bdI (lo := (-1)) (hi := 15) (e := (f_X0_owned b 1 x1 M)) (fun y2 => [(2, (0, 0, y2)), (0, (2, 0, (b : Int))), (1, (0, 0, x1))]) (fun y2 => []) (by omega) (fun y2 h_y2 => ?_)
  refine ax_lump ax_layC ok_kX0 [(7, .aload_n 0, 1, 0, 0, 0), (8, .iconst 2, 1, 0, 0, 0), (9, .iload_n 1, 1, 0, 0, 0)] (pc' := 10) (lc' := [(2, (0, 0, y2)), (0, (2, 0, (b : Int))), (1, (0, 0, x1))]) (st' := [(0, 0, x1), (0, 0, 2), (2, 0, (b : Int))]) (M' := M) (C' := True) (by decide +kernel) rfl trivial ?_
  refine ax_cVi (G1 := gX0_owned) (d1 := d + 0) (i := 110) (n := 2) (as := [(0, 0, 2), (0, 0, x1)]) (st := []) (c := 0) (a := (b : Int)) (by decide +kernel) ax_cls0 calX0_owned (by omega) rfl wt_382 wt_384 ws_16 (Nat.le_of_ble_eq_true rfl) rfl (c_X0_owned d b 2 x1 M) (fun hc3 => ?_)
  refine ax_lump ax_layC ok_kX0 [(13, .istore_n 3, 1, 0, 0, 0)] (pc' := 14) (lc' := [(3, (0, 0, (f_X0_owned b 2 x1 M))), (2, (0, 0, y2)), (0, (2, 0, (b : Int))), (1, (0, 0, x1))]) (st' := []) (M' := M) (C' := True) (by decide +kernel) rfl trivial ?_
  refine ax_bdI (lo := (-1)) (hi := 15) (e := (f_X0_owned b 2 x1 M)) (fun y4 => [(3, (0, 0, y4)), (2, (0, 0, y2)), (0, (2, 0, (b : Int))), (1, (0, 0, x1))]) (fun y4 => []) (by omega) (fun y4 h_y4 => ?_)
  refine ax_lump ax_layC ok_kX0 [(14, .aload_n 0, 1, 0, 0, 0), (15, .iconst 1, 1, 0, 0, 0), (16, .iload_n 1, 1, 0, 0, 0)] (pc' := 17) (lc' := [(3, (0, 0, y4)), (2, (0, 0, y2)), (0, (2, 0, (b : Int))), (1, (0, 0, x1))]) (st' := [(0, 0, x1), (0, 0, 1), (2, 0, (b : Int))]) (M' := M) (C' := True) (by decide +kernel) rfl trivial ?_
  refine ax_cVm (G1 := gX0_take) (d1 := d + 1) (i := 113) (n := 2) (as := [(0, 0, 1), (0, 0, x1)]) (st := []) (c := 0) (a := (b : Int)) (by decide +kernel) ax_cls0 calX0_take (by omega) rfl wt_386 wt_388 ws_17 (Nat.le_of_ble_eq_true rfl) rfl (c_X0_take d b 1 x1 M) (fun y5 h_y5 => ?_)
  refine ax_lump ax_layC ok_kX0 [(20, .istore 4, 2, 0, 0, 0), (22, .iconst 0, 1, 0, 0, 0), (23, .istore 5, 2, 0, 0, 0)] (pc' := 25) (lc' := [(5, (0, 0, 0)), (4, (0, 0, y5.1)), (3, (0, 0, y4)), (2, (0, 0, y2)), (0, (2, 0, (b : Int))), (1, (0, 0, x1))]) (st' := []) (M' := y5.2) (C' := True) (by decide +kernel) rfl trivial ?_
  refine ax_pk [4,5,3,2,1,0] (lc' := [(0, (2, 0, (b : Int))), (1, (0, 0, x1)), (2, (0, 0, y2)), (3, (0, 0, y4)), (4, (0, 0, y5.1)), (5, (0, 0, 0))]) rfl ?_
  refine w_X0_fullMerge_L25 d b x1 y2 y4 y5.1 _ (by omega) (by omega) (by omega) (fun M8 hx_8 => ?_) 4 0  y5.2 (by omega) 
  refine ax_lump ax_layC ok_kX0 [(58, .aload_n 0, 1, 0, 0, 0), (59, .iload_n 2, 1, 0, 0, 0)] (pc' := 60) (lc' := [(0, (2, 0, (b : Int))), (2, (0, 0, y2)), (3, (0, 0, y4)), (4, (0, 0, y5.1))]) (st' := [(0, 0, y2), (2, 0, (b : Int))]) (M' := M8) (C' := True) (by decide +kernel) rfl trivial ?_
  refine ax_cVv (G1 := gX0_wipe) (d1 := d + 1) (i := 163) (n := 1) (as := [(0, 0, y2)]) (st := []) (c := 0) (a := (b : Int)) (by decide +kernel) ax_cls0 calX0_wipe (by omega) rfl wt_443 wt_445 ws_31 (Nat.le_of_ble_eq_true rfl) rfl (c_X0_wipe d b y2 M8) (fun M9 => ?_)
  refine ax_lump ax_layC ok_kX0 [(63, .aload_n 0, 1, 0, 0, 0), (64, .iload_n 3, 1, 0, 0, 0)] (pc' := 65) (lc' := [(0, (2, 0, (b : Int))), (2, (0, 0, y2)), (3, (0, 0, y4)), (4, (0, 0, y5.1))]) (st' := [(0, 0, y4), (2, 0, (b : Int))]) (M' := M9) (C' := True) (by decide +kernel) rfl trivial ?_
  refine ax_cVv (G1 := gX0_wipe) (d1 := d + 1) (i := 163) (n := 1) (as := [(0, 0, y4)]) (st := []) (c := 0) (a := (b : Int)) (by decide +kernel) ax_cls0 calX0_wipe (by omega) rfl wt_443 wt_445 ws_31 (Nat.le_of_ble_eq_true rfl) rfl (c_X0_wipe d b y4 M9) (fun M10 => ?_)
  refine ax_lump ax_layC ok_kX0 [(68, .aload_n 0, 1, 0, 0, 0), (69, .bipush 6, 2, 0, 0, 0)] (pc' := 71) (lc' := [(0, (2, 0, (b : Int))), (2, (0, 0, y2)), (3, (0, 0, y4)), (4, (0, 0, y5.1))]) (st' := [(0, 0, 6), (2, 0, (b : Int))]) (M' := M10) (C' := True) (by decide +kernel) rfl trivial ?_
  refine ax_cVv (G1 := gX0_countOne) (d1 := d + 0) (i := 96) (n := 1) (as := [(0, 0, 6)]) (st := []) (c := 0) (a := (b : Int)) (by decide +kernel) ax_cls0 calX0_countOne (by omega) rfl wt_438 wt_440 ws_30 (Nat.le_of_ble_eq_true rfl) rfl (c_X0_countOne d b 6 M10) (fun M11 => ?_)
  refine ax_lump ax_layC ok_kX0 [(74, .iload 4, 2, 0, 0, 0)] (pc' := 76) (lc' := [(0, (2, 0, (b : Int))), (2, (0, 0, y2)), (3, (0, 0, y4)), (4, (0, 0, y5.1))]) (st' := [(0, 0, y5.1)]) (M' := M11) (C' := True) (by decide +kernel) rfl trivial ?_
  exact ax_iret (by decide +kernel) rfl ⟨rfl, rfl, (show ((-1) : Int) ≤ y5.1 from by omega), (show y5.1 ≤ (15 : Int) from by omega)⟩
def f_X0_blocksOf_B5 (b : Nat) (w1 : Int) (w2 : Int) (M : ax_M) (i : Nat) (v3 : Int) (kc : Int → Int) (kx : Int → Int) : Int := (if (f_X0_isSo b (i : Int) w1 w2 M) = 0 then ax_bd (ax_or v3 0) (fun y3 => kc y3) else ax_bd (ax_or v3 (ax_shl 1 (i : Int))) (fun y4 => kc y4))
def f_X0_blocksOf_L5 (b : Nat) (w1 : Int) (w2 : Int) (M : ax_M) : Nat → Nat → Int → (Int → Int) → Int
  | 0, i, v3, kx => kx v3
  | n + 1, i, v3, kx => f_X0_blocksOf_B5 b w1 w2 M i v3 (fun u3 => f_X0_blocksOf_L5 b w1 w2 M n (i + 1) u3 kx) kx
set_option maxRecDepth 100000 in
set_option maxHeartbeats 4000000 in
theorem wb_X0_blocksOf_B5 (d : Nat) (b : Nat) (w1 : Int) (w2 : Int) (M : ax_M) (i : Nat) (v3 : Int) (kc : Int → Int) (kx : Int → Int)  (hi : 0 ≤ i ∧ i < 16)  (hkc : ∀ (u3 : Int), ax_W ax_LC gX0_blocksOf (d + 2) 5 [(0, (2, 0, (b : Int))), (1, (0, 0, w1)), (2, (0, 0, w2)), (3, (0, 0, u3)), (4, (0, 0, ((i : Int) + 1)))] [] M ((ax_qi (-2147483648) 2147483647 M) (kc u3))) (hkx : ∀ (x3 : Int), (True) → ax_W ax_LC gX0_blocksOf (d + 2) 40 [(3, (0, 0, x3))] [] M ((ax_qi (-2147483648) 2147483647 M) (kx x3))) : ax_W ax_LC gX0_blocksOf (d + 2) 12 [(0, (2, 0, (b : Int))), (1, (0, 0, w1)), (2, (0, 0, w2)), (3, (0, 0, v3)), (4, (0, 0, (i : Int)))] [] M ((ax_qi (-2147483648) 2147483647 M) (f_X0_blocksOf_B5 b w1 w2 M i v3 kc kx)) := by
  unfold f_X0_blocksOf_B5
  refine ax_lump ax_layC ok_kX0 [(12, .iload_n 3, 1, 0, 0, 0), (13, .aload_n 0, 1, 0, 0, 0), (14, .iload 4, 2, 0, 0, 0), (16, .iload_n 1, 1, 0, 0, 0), (17, .iload_n 2, 1, 0, 0, 0)] (pc' := 18) (lc' := [(0, (2, 0, (b : Int))), (1, (0, 0, w1)), (2, (0, 0, w2)), (3, (0, 0, v3)), (4, (0, 0, (i : Int)))]) (st' := [(0, 0, w2), (0, 0, w1), (0, 0, (i : Int)), (2, 0, (b : Int)), (0, 0, v3)]) (M' := M) (C' := True) (by decide +kernel) rfl trivial ?_
  refine ax_cVi (G1 := gX0_isSo) (d1 := d + 1) (i := 189) (n := 3) (as := [(0, 0, (i : Int)), (0, 0, w1), (0, 0, w2)]) (st := [(0, 0, v3)]) (c := 0) (a := (b : Int)) (by decide +kernel) ax_cls0 calX0_isSo (by omega) rfl wt_724 wt_726 ws_64 (Nat.le_of_ble_eq_true rfl) rfl (c_X0_isSo d b (i : Int) w1 w2 M) (fun hc1 => ?_)
  refine ax_zeq (off := 10) (tgt := 31) (by decide +kernel) (by decide) (fun h2 => ?_) (fun h2 => ?_)
  · refine ax_lump ax_layC ok_kX0 [(31, .iconst 0, 1, 0, 0, 0), (32, .ior, 1, 0, 0, 0), (33, .istore_n 3, 1, 0, 0, 0)] (pc' := 34) (lc' := [(3, (0, 0, (ax_or v3 0))), (0, (2, 0, (b : Int))), (1, (0, 0, w1)), (2, (0, 0, w2)), (4, (0, 0, (i : Int)))]) (st' := []) (M' := M) (C' := True) (by decide +kernel) rfl trivial ?_
    refine ax_bdI0 (e := (ax_or v3 0)) (fun y3 => [(3, (0, 0, y3)), (0, (2, 0, (b : Int))), (1, (0, 0, w1)), (2, (0, 0, w2)), (4, (0, 0, (i : Int)))]) (fun y3 => []) (fun y3 => ?_)
    refine ax_lump ax_layC ok_kX0 [(34, .iinc 4 1, 3, 1, 0, 0), (37, .goto (-32), 3, 5, 0, 0)] (pc' := 5) (lc' := [(4, (0, 0, ((i : Int) + 1))), (3, (0, 0, y3)), (0, (2, 0, (b : Int))), (1, (0, 0, w1)), (2, (0, 0, w2))]) (st' := []) (M' := M) (C' := (True ∧ ax_r32 ((i : Int) + 1))) (by decide +kernel) rfl ⟨trivial, ⟨by omega, by omega⟩⟩ ?_
    refine ax_pk [2,3,4,1,0] (lc' := [(0, (2, 0, (b : Int))), (1, (0, 0, w1)), (2, (0, 0, w2)), (3, (0, 0, y3)), (4, (0, 0, ((i : Int) + 1)))]) rfl ?_
    exact hkc y3 
  · refine ax_lump ax_layC ok_kX0 [(24, .iconst 1, 1, 0, 0, 0), (25, .iload 4, 2, 0, 0, 0), (27, .ishl, 1, 0, 0, 0), (28, .goto 4, 3, 32, 0, 0), (32, .ior, 1, 0, 0, 0), (33, .istore_n 3, 1, 0, 0, 0)] (pc' := 34) (lc' := [(3, (0, 0, (ax_or v3 (ax_shl 1 (i : Int))))), (0, (2, 0, (b : Int))), (1, (0, 0, w1)), (2, (0, 0, w2)), (4, (0, 0, (i : Int)))]) (st' := []) (M' := M) (C' := True) (by decide +kernel) rfl trivial ?_
    refine ax_bdI0 (e := (ax_or v3 (ax_shl 1 (i : Int)))) (fun y4 => [(3, (0, 0, y4)), (0, (2, 0, (b : Int))), (1, (0, 0, w1)), (2, (0, 0, w2)), (4, (0, 0, (i : Int)))]) (fun y4 => []) (fun y4 => ?_)
    refine ax_lump ax_layC ok_kX0 [(34, .iinc 4 1, 3, 1, 0, 0), (37, .goto (-32), 3, 5, 0, 0)] (pc' := 5) (lc' := [(4, (0, 0, ((i : Int) + 1))), (3, (0, 0, y4)), (0, (2, 0, (b : Int))), (1, (0, 0, w1)), (2, (0, 0, w2))]) (st' := []) (M' := M) (C' := (True ∧ ax_r32 ((i : Int) + 1))) (by decide +kernel) rfl ⟨trivial, ⟨by omega, by omega⟩⟩ ?_
    refine ax_pk [2,3,4,1,0] (lc' := [(0, (2, 0, (b : Int))), (1, (0, 0, w1)), (2, (0, 0, w2)), (3, (0, 0, y4)), (4, (0, 0, ((i : Int) + 1)))]) rfl ?_
    exact hkc y4 
set_option maxRecDepth 100000 in
set_option maxHeartbeats 4000000 in
theorem w_X0_blocksOf_L5 (d : Nat) (b : Nat) (w1 : Int) (w2 : Int) (M : ax_M) (kx : Int → Int)  (hkx : ∀ (x3 : Int), (True) → ax_W ax_LC gX0_blocksOf (d + 2) 40 [(3, (0, 0, x3))] [] M ((ax_qi (-2147483648) 2147483647 M) (kx x3))) : ∀ (n : Nat) (i : Nat) (v3 : Int), 0 ≤ i ∧ i + n = 16 → ax_W ax_LC gX0_blocksOf (d + 2) 5 [(0, (2, 0, (b : Int))), (1, (0, 0, w1)), (2, (0, 0, w2)), (3, (0, 0, v3)), (4, (0, 0, (i : Int)))] [] M ((ax_qi (-2147483648) 2147483647 M) (f_X0_blocksOf_L5 b w1 w2 M n i v3 kx)) := by
  intro n
  induction n with
  | zero =>
    intro i v3 hin
    refine ax_lump ax_layC ok_kX0 [(5, .iload 4, 2, 0, 0, 0), (7, .bipush 16, 2, 0, 0, 0)] (pc' := 9) (lc' := [(0, (2, 0, (b : Int))), (1, (0, 0, w1)), (2, (0, 0, w2)), (3, (0, 0, v3)), (4, (0, 0, (i : Int)))]) (st' := [(0, 0, 16), (0, 0, (i : Int))]) (M' := M) (C' := True) (by decide +kernel) rfl trivial ?_
    refine ax_icmp_ge (off := 31) (tgt := 40) (by decide +kernel) (by decide) (fun h => ?_) (fun h => ?_)
    · refine ax_pk [3] (lc' := [(3, (0, 0, v3))]) rfl ?_
      exact hkx v3 trivial
    · exfalso; omega
  | succ n ih =>
    intro i v3 hin
    refine ax_lump ax_layC ok_kX0 [(5, .iload 4, 2, 0, 0, 0), (7, .bipush 16, 2, 0, 0, 0)] (pc' := 9) (lc' := [(0, (2, 0, (b : Int))), (1, (0, 0, w1)), (2, (0, 0, w2)), (3, (0, 0, v3)), (4, (0, 0, (i : Int)))]) (st' := [(0, 0, 16), (0, 0, (i : Int))]) (M' := M) (C' := True) (by decide +kernel) rfl trivial ?_
    refine ax_icmp_ge (off := 31) (tgt := 40) (by decide +kernel) (by decide) (fun h => ?_) (fun h => ?_)
    · exfalso; omega
    · exact wb_X0_blocksOf_B5 d b w1 w2 M i v3 _ kx  (by omega)  (fun u3 => ih (i + 1) u3 (by omega) ) hkx
def f_X0_blocksOf (b : Nat) (x1 : Int) (x2 : Int) (M : ax_M) : Int := f_X0_blocksOf_L5 b x1 x2 M 16 0 0 (fun z5 => z5)
set_option maxRecDepth 100000 in
set_option maxHeartbeats 4000000 in
theorem c_X0_blocksOf (d : Nat) (b : Nat) (x1 : Int) (x2 : Int) (M : ax_M)  : ax_Met ax_LC gX0_blocksOf (d + 2) [(2, 0, (b : Int)), (0, 0, x1), (0, 0, x2)] M ((ax_qi (-2147483648) 2147483647 M) (f_X0_blocksOf b x1 x2 M)) := by
  refine ax_body (by decide) (fun X => Nat.le_of_ble_eq_true rfl) (fun hok => ?_)
  have hr_x1 : (-2147483648) ≤ x1 ∧ x1 ≤ 2147483647 := hok (0, 0, x1) (by simp)
  have hr_x2 : (-2147483648) ≤ x2 ∧ x2 ≤ 2147483647 := hok (0, 0, x2) (by simp)
  show ax_W ax_LC gX0_blocksOf (d + 2) 0 [(0, (2, 0, (b : Int))), (1, (0, 0, x1)), (2, (0, 0, x2))] [] M _
  unfold f_X0_blocksOf
  refine ax_lump ax_layC ok_kX0 [(0, .iconst 0, 1, 0, 0, 0), (1, .istore_n 3, 1, 0, 0, 0), (2, .iconst 0, 1, 0, 0, 0), (3, .istore 4, 2, 0, 0, 0)] (pc' := 5) (lc' := [(4, (0, 0, 0)), (3, (0, 0, 0)), (0, (2, 0, (b : Int))), (1, (0, 0, x1)), (2, (0, 0, x2))]) (st' := []) (M' := M) (C' := True) (by decide +kernel) rfl trivial ?_
  refine ax_pk [2,3,4,1,0] (lc' := [(0, (2, 0, (b : Int))), (1, (0, 0, x1)), (2, (0, 0, x2)), (3, (0, 0, 0)), (4, (0, 0, 0))]) rfl ?_
  refine w_X0_blocksOf_L5 d b x1 x2 M _  (fun z5 hx_5 => ?_) 16 0 0 (by omega) 
  refine ax_lump ax_layC ok_kX0 [(40, .iload_n 3, 1, 0, 0, 0)] (pc' := 41) (lc' := [(3, (0, 0, z5))]) (st' := [(0, 0, z5)]) (M' := M) (C' := True) (by decide +kernel) rfl trivial ?_
  refine ax_rngS (fun hr => ?_)
  exact ax_iret (by decide +kernel) rfl ⟨rfl, rfl, hr.1, hr.2⟩
def f_X0_latestIn_B4 (b : Nat) (w1 : Int) (M : ax_M) (i : Nat) (v2 : Int) (kc : Int → Int) (kx : Int → Int) : Int := (if w1 < 0 then kx v2 else (if 16 ≤ w1 then kx v2 else ax_bd ((w1 * 4) + (i : Int)) (fun y3 => (if (M (b + 1) y3.toNat) = (-1) then ax_bd (ax_or v2 0) (fun y5 => kc y5) else (if (f_X0_latestOf b (M (b + 1) y3.toNat) M) ≠ y3 then ax_bd (ax_or v2 0) (fun y8 => kc y8) else ax_bd (ax_or v2 (ax_shl 1 (i : Int))) (fun y9 => kc y9))))))
def f_X0_latestIn_L4 (b : Nat) (w1 : Int) (M : ax_M) : Nat → Nat → Int → (Int → Int) → Int
  | 0, i, v2, kx => kx v2
  | n + 1, i, v2, kx => f_X0_latestIn_B4 b w1 M i v2 (fun u2 => f_X0_latestIn_L4 b w1 M n (i + 1) u2 kx) kx
set_option maxRecDepth 100000 in
set_option maxHeartbeats 4000000 in
theorem wb_X0_latestIn_B4 (d : Nat) (b : Nat) (w1 : Int) (M : ax_M) (i : Nat) (v2 : Int) (kc : Int → Int) (kx : Int → Int)  (hi : 0 ≤ i ∧ i < 4)  (hkc : ∀ (u2 : Int), ax_W ax_LC gX0_latestIn (d + 3) 4 [(0, (2, 0, (b : Int))), (1, (0, 0, w1)), (2, (0, 0, u2)), (3, (0, 0, ((i : Int) + 1)))] [] M ((ax_qi (-2147483648) 2147483647 M) (kc u2))) (hkx : ∀ (x2 : Int), (True) → ax_W ax_LC gX0_latestIn (d + 3) 69 [(2, (0, 0, x2))] [] M ((ax_qi (-2147483648) 2147483647 M) (kx x2))) : ax_W ax_LC gX0_latestIn (d + 3) 9 [(0, (2, 0, (b : Int))), (1, (0, 0, w1)), (2, (0, 0, v2)), (3, (0, 0, (i : Int)))] [] M ((ax_qi (-2147483648) 2147483647 M) (f_X0_latestIn_B4 b w1 M i v2 kc kx)) := by
  unfold f_X0_latestIn_B4
  refine ax_lump ax_layC ok_kX0 [(9, .iload_n 1, 1, 0, 0, 0)] (pc' := 10) (lc' := [(0, (2, 0, (b : Int))), (1, (0, 0, w1)), (2, (0, 0, v2)), (3, (0, 0, (i : Int)))]) (st' := [(0, 0, w1)]) (M' := M) (C' := True) (by decide +kernel) rfl trivial ?_
  refine ax_zlt (off := 59) (tgt := 69) (by decide +kernel) (by decide) (fun h1 => ?_) (fun h1 => ?_)
  · refine ax_pk [2] (lc' := [(2, (0, 0, v2))]) rfl ?_
    exact hkx v2 trivial
  · refine ax_lump ax_layC ok_kX0 [(13, .iload_n 1, 1, 0, 0, 0), (14, .bipush 16, 2, 0, 0, 0)] (pc' := 16) (lc' := [(0, (2, 0, (b : Int))), (1, (0, 0, w1)), (2, (0, 0, v2)), (3, (0, 0, (i : Int)))]) (st' := [(0, 0, 16), (0, 0, w1)]) (M' := M) (C' := True) (by decide +kernel) rfl trivial ?_
    refine ax_jge (off := 53) (tgt := 69) (by decide +kernel) (by decide) (fun h2 => ?_) (fun h2 => ?_)
    · refine ax_pk [2] (lc' := [(2, (0, 0, v2))]) rfl ?_
      exact hkx v2 trivial
    · refine ax_lump ax_layC ok_kX0 [(19, .iload_n 1, 1, 0, 0, 0), (20, .iconst 4, 1, 0, 0, 0), (21, .imul, 1, 1, 0, 0), (22, .iload_n 3, 1, 0, 0, 0), (23, .iadd, 1, 1, 0, 0), (24, .istore 4, 2, 0, 0, 0)] (pc' := 26) (lc' := [(4, (0, 0, ((w1 * 4) + (i : Int)))), (0, (2, 0, (b : Int))), (1, (0, 0, w1)), (2, (0, 0, v2)), (3, (0, 0, (i : Int)))]) (st' := []) (M' := M) (C' := ((True ∧ ax_r32 (w1 * 4)) ∧ ax_r32 ((w1 * 4) + (i : Int)))) (by decide +kernel) rfl ⟨⟨trivial, ⟨by omega, by omega⟩⟩, ⟨by omega, by omega⟩⟩ ?_
      refine ax_bdI (lo := 0) (hi := 63) (e := ((w1 * 4) + (i : Int))) (fun y3 => [(4, (0, 0, y3)), (0, (2, 0, (b : Int))), (1, (0, 0, w1)), (2, (0, 0, v2)), (3, (0, 0, (i : Int)))]) (fun y3 => []) (by omega) (fun y3 h_y3 => ?_)
      refine ax_lump ax_layC ok_kX0 [(26, .iload_n 2, 1, 0, 0, 0), (27, .aload_n 0, 1, 0, 0, 0), (28, .getfield 9, 3, 0, 0, 0), (31, .iload 4, 2, 0, 0, 0), (33, .iaload, 1, 0, 0, 0), (34, .iconst (-1), 1, 0, 0, 0)] (pc' := 35) (lc' := [(4, (0, 0, y3)), (0, (2, 0, (b : Int))), (1, (0, 0, w1)), (2, (0, 0, v2)), (3, (0, 0, (i : Int)))]) (st' := [(0, 0, (-1)), (0, 0, (M (b + 1) y3.toNat)), (0, 0, v2)]) (M' := M) (C' := (True ∧ (0 ≤ y3 ∧ y3 < ((64 : Nat) : Int)))) (by decide +kernel) rfl ⟨trivial, by omega⟩ ?_
      refine ax_jeq (off := 25) (tgt := 60) (by decide +kernel) (by decide) (fun h4 => ?_) (fun h4 => ?_)
      · refine ax_lump ax_layC ok_kX0 [(60, .iconst 0, 1, 0, 0, 0), (61, .ior, 1, 0, 0, 0), (62, .istore_n 2, 1, 0, 0, 0)] (pc' := 63) (lc' := [(2, (0, 0, (ax_or v2 0))), (4, (0, 0, y3)), (0, (2, 0, (b : Int))), (1, (0, 0, w1)), (3, (0, 0, (i : Int)))]) (st' := []) (M' := M) (C' := True) (by decide +kernel) rfl trivial ?_
        refine ax_bdI0 (e := (ax_or v2 0)) (fun y5 => [(2, (0, 0, y5)), (4, (0, 0, y3)), (0, (2, 0, (b : Int))), (1, (0, 0, w1)), (3, (0, 0, (i : Int)))]) (fun y5 => []) (fun y5 => ?_)
        refine ax_lump ax_layC ok_kX0 [(63, .iinc 3 1, 3, 1, 0, 0), (66, .goto (-62), 3, 4, 0, 0)] (pc' := 4) (lc' := [(3, (0, 0, ((i : Int) + 1))), (2, (0, 0, y5)), (4, (0, 0, y3)), (0, (2, 0, (b : Int))), (1, (0, 0, w1))]) (st' := []) (M' := M) (C' := (True ∧ ax_r32 ((i : Int) + 1))) (by decide +kernel) rfl ⟨trivial, ⟨by omega, by omega⟩⟩ ?_
        refine ax_pk [3,4,1,0] (lc' := [(0, (2, 0, (b : Int))), (1, (0, 0, w1)), (2, (0, 0, y5)), (3, (0, 0, ((i : Int) + 1)))]) rfl ?_
        exact hkc y5 
      · refine ax_lump ax_layC ok_kX0 [(38, .aload_n 0, 1, 0, 0, 0), (39, .aload_n 0, 1, 0, 0, 0), (40, .getfield 9, 3, 0, 0, 0), (43, .iload 4, 2, 0, 0, 0), (45, .iaload, 1, 0, 0, 0)] (pc' := 46) (lc' := [(4, (0, 0, y3)), (0, (2, 0, (b : Int))), (1, (0, 0, w1)), (2, (0, 0, v2)), (3, (0, 0, (i : Int)))]) (st' := [(0, 0, (M (b + 1) y3.toNat)), (2, 0, (b : Int)), (0, 0, v2)]) (M' := M) (C' := (True ∧ (0 ≤ y3 ∧ y3 < ((64 : Nat) : Int)))) (by decide +kernel) rfl ⟨trivial, by omega⟩ ?_
        refine ax_cVi (G1 := gX0_latestOf) (d1 := d + 2) (i := 156) (n := 1) (as := [(0, 0, (M (b + 1) y3.toNat))]) (st := [(0, 0, v2)]) (c := 0) (a := (b : Int)) (by decide +kernel) ax_cls0 calX0_latestOf (by omega) rfl wt_414 wt_416 ws_24 (Nat.le_of_ble_eq_true rfl) rfl (c_X0_latestOf d b (M (b + 1) y3.toNat) M) (fun hc6 => ?_)
        refine ax_lump ax_layC ok_kX0 [(49, .iload 4, 2, 0, 0, 0)] (pc' := 51) (lc' := [(4, (0, 0, y3)), (0, (2, 0, (b : Int))), (1, (0, 0, w1)), (2, (0, 0, v2)), (3, (0, 0, (i : Int)))]) (st' := [(0, 0, y3), (0, 0, (f_X0_latestOf b (M (b + 1) y3.toNat) M)), (0, 0, v2)]) (M' := M) (C' := True) (by decide +kernel) rfl trivial ?_
        refine ax_jne (off := 9) (tgt := 60) (by decide +kernel) (by decide) (fun h7 => ?_) (fun h7 => ?_)
        · refine ax_lump ax_layC ok_kX0 [(60, .iconst 0, 1, 0, 0, 0), (61, .ior, 1, 0, 0, 0), (62, .istore_n 2, 1, 0, 0, 0)] (pc' := 63) (lc' := [(2, (0, 0, (ax_or v2 0))), (4, (0, 0, y3)), (0, (2, 0, (b : Int))), (1, (0, 0, w1)), (3, (0, 0, (i : Int)))]) (st' := []) (M' := M) (C' := True) (by decide +kernel) rfl trivial ?_
          refine ax_bdI0 (e := (ax_or v2 0)) (fun y8 => [(2, (0, 0, y8)), (4, (0, 0, y3)), (0, (2, 0, (b : Int))), (1, (0, 0, w1)), (3, (0, 0, (i : Int)))]) (fun y8 => []) (fun y8 => ?_)
          refine ax_lump ax_layC ok_kX0 [(63, .iinc 3 1, 3, 1, 0, 0), (66, .goto (-62), 3, 4, 0, 0)] (pc' := 4) (lc' := [(3, (0, 0, ((i : Int) + 1))), (2, (0, 0, y8)), (4, (0, 0, y3)), (0, (2, 0, (b : Int))), (1, (0, 0, w1))]) (st' := []) (M' := M) (C' := (True ∧ ax_r32 ((i : Int) + 1))) (by decide +kernel) rfl ⟨trivial, ⟨by omega, by omega⟩⟩ ?_
          refine ax_pk [3,4,1,0] (lc' := [(0, (2, 0, (b : Int))), (1, (0, 0, w1)), (2, (0, 0, y8)), (3, (0, 0, ((i : Int) + 1)))]) rfl ?_
          exact hkc y8 
        · refine ax_lump ax_layC ok_kX0 [(54, .iconst 1, 1, 0, 0, 0), (55, .iload_n 3, 1, 0, 0, 0), (56, .ishl, 1, 0, 0, 0), (57, .goto 4, 3, 61, 0, 0), (61, .ior, 1, 0, 0, 0), (62, .istore_n 2, 1, 0, 0, 0)] (pc' := 63) (lc' := [(2, (0, 0, (ax_or v2 (ax_shl 1 (i : Int))))), (4, (0, 0, y3)), (0, (2, 0, (b : Int))), (1, (0, 0, w1)), (3, (0, 0, (i : Int)))]) (st' := []) (M' := M) (C' := True) (by decide +kernel) rfl trivial ?_
          refine ax_bdI0 (e := (ax_or v2 (ax_shl 1 (i : Int)))) (fun y9 => [(2, (0, 0, y9)), (4, (0, 0, y3)), (0, (2, 0, (b : Int))), (1, (0, 0, w1)), (3, (0, 0, (i : Int)))]) (fun y9 => []) (fun y9 => ?_)
          refine ax_lump ax_layC ok_kX0 [(63, .iinc 3 1, 3, 1, 0, 0), (66, .goto (-62), 3, 4, 0, 0)] (pc' := 4) (lc' := [(3, (0, 0, ((i : Int) + 1))), (2, (0, 0, y9)), (4, (0, 0, y3)), (0, (2, 0, (b : Int))), (1, (0, 0, w1))]) (st' := []) (M' := M) (C' := (True ∧ ax_r32 ((i : Int) + 1))) (by decide +kernel) rfl ⟨trivial, ⟨by omega, by omega⟩⟩ ?_
          refine ax_pk [3,4,1,0] (lc' := [(0, (2, 0, (b : Int))), (1, (0, 0, w1)), (2, (0, 0, y9)), (3, (0, 0, ((i : Int) + 1)))]) rfl ?_
          exact hkc y9 
set_option maxRecDepth 100000 in
set_option maxHeartbeats 4000000 in
theorem w_X0_latestIn_L4 (d : Nat) (b : Nat) (w1 : Int) (M : ax_M) (kx : Int → Int)  (hkx : ∀ (x2 : Int), (True) → ax_W ax_LC gX0_latestIn (d + 3) 69 [(2, (0, 0, x2))] [] M ((ax_qi (-2147483648) 2147483647 M) (kx x2))) : ∀ (n : Nat) (i : Nat) (v2 : Int), 0 ≤ i ∧ i + n = 4 → ax_W ax_LC gX0_latestIn (d + 3) 4 [(0, (2, 0, (b : Int))), (1, (0, 0, w1)), (2, (0, 0, v2)), (3, (0, 0, (i : Int)))] [] M ((ax_qi (-2147483648) 2147483647 M) (f_X0_latestIn_L4 b w1 M n i v2 kx)) := by
  intro n
  induction n with
  | zero =>
    intro i v2 hin
    refine ax_lump ax_layC ok_kX0 [(4, .iload_n 3, 1, 0, 0, 0), (5, .iconst 4, 1, 0, 0, 0)] (pc' := 6) (lc' := [(0, (2, 0, (b : Int))), (1, (0, 0, w1)), (2, (0, 0, v2)), (3, (0, 0, (i : Int)))]) (st' := [(0, 0, 4), (0, 0, (i : Int))]) (M' := M) (C' := True) (by decide +kernel) rfl trivial ?_
    refine ax_icmp_ge (off := 63) (tgt := 69) (by decide +kernel) (by decide) (fun h => ?_) (fun h => ?_)
    · refine ax_pk [2] (lc' := [(2, (0, 0, v2))]) rfl ?_
      exact hkx v2 trivial
    · exfalso; omega
  | succ n ih =>
    intro i v2 hin
    refine ax_lump ax_layC ok_kX0 [(4, .iload_n 3, 1, 0, 0, 0), (5, .iconst 4, 1, 0, 0, 0)] (pc' := 6) (lc' := [(0, (2, 0, (b : Int))), (1, (0, 0, w1)), (2, (0, 0, v2)), (3, (0, 0, (i : Int)))]) (st' := [(0, 0, 4), (0, 0, (i : Int))]) (M' := M) (C' := True) (by decide +kernel) rfl trivial ?_
    refine ax_icmp_ge (off := 63) (tgt := 69) (by decide +kernel) (by decide) (fun h => ?_) (fun h => ?_)
    · exfalso; omega
    · exact wb_X0_latestIn_B4 d b w1 M i v2 _ kx  (by omega)  (fun u2 => ih (i + 1) u2 (by omega) ) hkx
def f_X0_latestIn (b : Nat) (x1 : Int) (M : ax_M) : Int := f_X0_latestIn_L4 b x1 M 4 0 0 (fun z10 => z10)
set_option maxRecDepth 100000 in
set_option maxHeartbeats 4000000 in
theorem c_X0_latestIn (d : Nat) (b : Nat) (x1 : Int) (M : ax_M)  : ax_Met ax_LC gX0_latestIn (d + 3) [(2, 0, (b : Int)), (0, 0, x1)] M ((ax_qi (-2147483648) 2147483647 M) (f_X0_latestIn b x1 M)) := by
  refine ax_body (by decide) (fun X => Nat.le_of_ble_eq_true rfl) (fun hok => ?_)
  have hr_x1 : (-2147483648) ≤ x1 ∧ x1 ≤ 2147483647 := hok (0, 0, x1) (by simp)
  show ax_W ax_LC gX0_latestIn (d + 3) 0 [(0, (2, 0, (b : Int))), (1, (0, 0, x1))] [] M _
  unfold f_X0_latestIn
  refine ax_lump ax_layC ok_kX0 [(0, .iconst 0, 1, 0, 0, 0), (1, .istore_n 2, 1, 0, 0, 0), (2, .iconst 0, 1, 0, 0, 0), (3, .istore_n 3, 1, 0, 0, 0)] (pc' := 4) (lc' := [(3, (0, 0, 0)), (2, (0, 0, 0)), (0, (2, 0, (b : Int))), (1, (0, 0, x1))]) (st' := []) (M' := M) (C' := True) (by decide +kernel) rfl trivial ?_
  refine ax_pk [2,3,1,0] (lc' := [(0, (2, 0, (b : Int))), (1, (0, 0, x1)), (2, (0, 0, 0)), (3, (0, 0, 0))]) rfl ?_
  refine w_X0_latestIn_L4 d b x1 M _  (fun z10 hx_10 => ?_) 4 0 0 (by omega) 
  refine ax_lump ax_layC ok_kX0 [(69, .iload_n 2, 1, 0, 0, 0)] (pc' := 70) (lc' := [(2, (0, 0, z10))]) (st' := [(0, 0, z10)]) (M' := M) (C' := True) (by decide +kernel) rfl trivial ?_
  refine ax_rngS (fun hr => ?_)
  exact ax_iret (by decide +kernel) rfl ⟨rfl, rfl, hr.1, hr.2⟩
def f_X2_undo  (M : ax_M) : Int × ax_M := (if (M 0 4) ≠ 0 then ax_bd (ax_up M 0 4 ((M 0 4) - 1)) (fun M3 => ax_bd (f_X0_load 1 2466 25 (f_X2_pastSlot M3) M3) (fun M6 => ((M6 0 4), M6))) else ((-1), M))
set_option maxRecDepth 100000 in
set_option maxHeartbeats 4000000 in
theorem c_X2_undo (d : Nat)  (M : ax_M)  : ax_Met ax_LC gX2_undo (d + 4) [(2, 2, 0)] M ((ax_qm (-1) 8) (f_X2_undo  M)) := by
  refine ax_body (by decide) (fun X => Nat.le_of_ble_eq_true rfl) (fun hok => ?_)
  show ax_W ax_LC gX2_undo (d + 4) 0 [(0, (2, 2, 0))] [] M _
  unfold f_X2_undo
  refine ax_fact (i := 0) (c := 2) (f := 4) (hi := 8) (s := 0) (by simp) rfl rfl rfl (fun hf1 => ?_)
  have hf1 : 0 ≤ (M 0 4) ∧ (M 0 4) ≤ 8 := hf1
  refine ax_lump ax_layC ok_kX2 [(0, .aload_n 0, 1, 0, 0, 0), (1, .getfield 27, 3, 2, 4, 0)] (pc' := 4) (lc' := [(0, (2, 2, 0))]) (st' := [(0, 0, (M 0 4))]) (M' := M) (C' := True) (by decide +kernel) rfl trivial ?_
  refine ax_zne (off := 5) (tgt := 9) (by decide +kernel) (by decide) (fun h2 => ?_) (fun h2 => ?_)
  · refine ax_lump ax_layC ok_kX2 [(9, .aload_n 0, 1, 0, 0, 0), (10, .dup, 1, 0, 0, 0), (11, .getfield 27, 3, 2, 4, 0), (14, .iconst 1, 1, 0, 0, 0), (15, .isub, 1, 1, 0, 0), (16, .putfield 27, 3, 2, 4, 0)] (pc' := 19) (lc' := [(0, (2, 2, 0))]) (st' := []) (M' := (ax_up M 0 4 ((M 0 4) - 1))) (C' := ((True ∧ ax_r32 ((M 0 4) - 1)) ∧ (0 ≤ ((M 0 4) - 1) ∧ ((M 0 4) - 1) < ((9 : Nat) : Int)))) (by decide +kernel) rfl ⟨⟨trivial, ⟨by omega, by omega⟩⟩, by omega⟩ ?_
    refine ax_bdMe (fun M3 hM_M3 => ?_)
    have hk_k4 : (M3 0 4) = ((M 0 4) - 1) := by rw [hM_M3]; exact ax_up_s
    refine ax_lump ax_layC ok_kX2 [(19, .aload_n 0, 1, 0, 0, 0), (20, .getfield 12, 3, 2, 0, 0), (23, .aload_n 0, 1, 0, 0, 0), (24, .getfield 19, 3, 2, 2, 0), (27, .aload_n 0, 1, 0, 0, 0)] (pc' := 28) (lc' := [(0, (2, 2, 0))]) (st' := [(2, 2, 0), (3, 2466, 25), (2, 0, 1)]) (M' := M3) (C' := True) (by decide +kernel) rfl trivial ?_
    refine ax_cVi (G1 := gX2_pastSlot) (d1 := d + 0) (i := 220) (n := 0) (as := []) (st := [(3, 2466, 25), (2, 0, 1)]) (c := 2) (a := 0) (by decide +kernel) ax_cls2 calX2_pastSlot (by omega) rfl wt_362 wt_364 ws_12 (Nat.le_of_ble_eq_true rfl) rfl (c_X2_pastSlot d  M3) (fun hc5 => ?_)
    refine ax_cNv (G1 := gX0_load) (d1 := d + 3) (i := 223) (n := 2) (as := [(3, 2466, 25), (0, 0, (f_X2_pastSlot M3))]) (st := []) (c := 0) (a := 1) (by decide +kernel) ax_cls0 calX0_load (by omega) rfl wn_611 wt_613 ws_57 (Nat.le_of_ble_eq_true rfl) rfl (c_X0_load d 1 2466 25 (f_X2_pastSlot M3) M3 (by omega)) (fun M6 => ?_)
    refine ax_fact (i := 0) (c := 2) (f := 4) (hi := 8) (s := 0) (by simp) rfl rfl rfl (fun hf7 => ?_)
    have hf7 : 0 ≤ (M6 0 4) ∧ (M6 0 4) ≤ 8 := hf7
    refine ax_lump ax_layC ok_kX2 [(34, .aload_n 0, 1, 0, 0, 0), (35, .getfield 27, 3, 2, 4, 0)] (pc' := 38) (lc' := [(0, (2, 2, 0))]) (st' := [(0, 0, (M6 0 4))]) (M' := M6) (C' := True) (by decide +kernel) rfl trivial ?_
    exact ax_iret (by decide +kernel) rfl ⟨rfl, rfl, (show ((-1) : Int) ≤ (M6 0 4) from by omega), (show (M6 0 4) ≤ (8 : Int) from by omega)⟩
  · refine ax_lump ax_layC ok_kX2 [(7, .iconst (-1), 1, 0, 0, 0)] (pc' := 8) (lc' := [(0, (2, 2, 0))]) (st' := [(0, 0, (-1))]) (M' := M) (C' := True) (by decide +kernel) rfl trivial ?_
    exact ax_iret (by decide +kernel) rfl ⟨rfl, rfl, (show ((-1) : Int) ≤ (-1) from by omega), (show (-1) ≤ (8 : Int) from by omega)⟩
def f_X2_stale_B9  (M : ax_M) (i : Nat) (v1 : Int) (v2 : Int) (v3 : Int) (kc : Int → Int → Int → Int × ax_M) (kx : Int → Int → Int → Int × ax_M) : Int × ax_M := ax_bd (ax_wr ((f_J_bitCount (f_X0_writtenIn 1 (i : Int) M) M) - (f_J_bitCount (f_X0_latestIn 1 (i : Int) M) M))) (fun y5 => (if y5 ≤ v3 then kc (ax_wr (v1 + y5)) v2 v3 else kc (ax_wr (v1 + y5)) (i : Int) y5))
def f_X2_stale_L9  (M : ax_M) : Nat → Nat → Int → Int → Int → (Int → Int → Int → Int × ax_M) → Int × ax_M
  | 0, i, v1, v2, v3, kx => kx v1 v2 v3
  | n + 1, i, v1, v2, v3, kx => f_X2_stale_B9  M i v1 v2 v3 (fun u1 u2 u3 => f_X2_stale_L9  M n (i + 1) u1 u2 u3 kx) kx
set_option maxRecDepth 100000 in
set_option maxHeartbeats 4000000 in
theorem wb_X2_stale_B9 (d : Nat)  (M : ax_M) (i : Nat) (v1 : Int) (v2 : Int) (v3 : Int) (kc : Int → Int → Int → Int × ax_M) (kx : Int → Int → Int → Int × ax_M)  (hi : 0 ≤ i ∧ i < 16) (hv2 : (-1) ≤ v2 ∧ v2 ≤ 15) (hkc : ∀ (u1 : Int) (u2 : Int) (u3 : Int), (-1) ≤ u2 ∧ u2 ≤ 15 → ax_W ax_LC gX2_stale (d + 4) 9 [(0, (2, 2, 0)), (1, (0, 0, u1)), (2, (0, 0, u2)), (3, (0, 0, u3)), (4, (0, 0, ((i : Int) + 1)))] [] M ((ax_qm (-2147483648) 2147483647) (kc u1 u2 u3))) (hkx : ∀ (x1 : Int) (x2 : Int) (x3 : Int), (((-1) ≤ x2 ∧ x2 ≤ 15)) → ax_W ax_LC gX2_stale (d + 4) 66 [(0, (2, 2, 0)), (1, (0, 0, x1)), (2, (0, 0, x2)), (3, (0, 0, x3))] [] M ((ax_qm (-2147483648) 2147483647) (kx x1 x2 x3))) : ax_W ax_LC gX2_stale (d + 4) 16 [(0, (2, 2, 0)), (1, (0, 0, v1)), (2, (0, 0, v2)), (3, (0, 0, v3)), (4, (0, 0, (i : Int)))] [] M ((ax_qm (-2147483648) 2147483647) (f_X2_stale_B9  M i v1 v2 v3 kc kx)) := by
  unfold f_X2_stale_B9
  refine ax_lump ax_layC ok_kX2 [(16, .aload_n 0, 1, 0, 0, 0), (17, .getfield 12, 3, 2, 0, 0), (20, .iload 4, 2, 0, 0, 0)] (pc' := 22) (lc' := [(0, (2, 2, 0)), (1, (0, 0, v1)), (2, (0, 0, v2)), (3, (0, 0, v3)), (4, (0, 0, (i : Int)))]) (st' := [(0, 0, (i : Int)), (2, 0, 1)]) (M' := M) (C' := True) (by decide +kernel) rfl trivial ?_
  refine ax_cNi (G1 := gX0_writtenIn) (d1 := d + 0) (i := 90) (n := 1) (as := [(0, 0, (i : Int))]) (st := []) (c := 0) (a := 1) (by decide +kernel) ax_cls0 calX0_writtenIn (by omega) rfl wn_627 wt_424 ws_26 (Nat.le_of_ble_eq_true rfl) rfl (c_X0_writtenIn d 1 (i : Int) M) (fun hc1 => ?_)
  refine ax_cSi (G1 := gJ_bitCount) (d1 := d + 0) (i := 229) (n := 1) (as := [(0, 0, (f_X0_writtenIn 1 (i : Int) M))]) (st := []) (by decide +kernel) calJ_bitCount (by omega) rfl wt_628 wt_468 (Nat.le_of_ble_eq_true rfl) rfl (c_J_bitCount ax_LC ax_layC d (f_X0_writtenIn 1 (i : Int) M) M) (fun hc2 => ?_)
  refine ax_lump ax_layC ok_kX2 [(28, .aload_n 0, 1, 0, 0, 0), (29, .getfield 12, 3, 2, 0, 0), (32, .iload 4, 2, 0, 0, 0)] (pc' := 34) (lc' := [(0, (2, 2, 0)), (1, (0, 0, v1)), (2, (0, 0, v2)), (3, (0, 0, v3)), (4, (0, 0, (i : Int)))]) (st' := [(0, 0, (i : Int)), (2, 0, 1), (0, 0, (f_J_bitCount (f_X0_writtenIn 1 (i : Int) M) M))]) (M' := M) (C' := True) (by decide +kernel) rfl trivial ?_
  refine ax_cNi (G1 := gX0_latestIn) (d1 := d + 3) (i := 94) (n := 1) (as := [(0, 0, (i : Int))]) (st := [(0, 0, (f_J_bitCount (f_X0_writtenIn 1 (i : Int) M) M))]) (c := 0) (a := 1) (by decide +kernel) ax_cls0 calX0_latestIn (by omega) rfl wn_629 wt_412 ws_23 (Nat.le_of_ble_eq_true rfl) rfl (c_X0_latestIn d 1 (i : Int) M) (fun hc3 => ?_)
  refine ax_cSi (G1 := gJ_bitCount) (d1 := d + 0) (i := 229) (n := 1) (as := [(0, 0, (f_X0_latestIn 1 (i : Int) M))]) (st := [(0, 0, (f_J_bitCount (f_X0_writtenIn 1 (i : Int) M) M))]) (by decide +kernel) calJ_bitCount (by omega) rfl wt_628 wt_468 (Nat.le_of_ble_eq_true rfl) rfl (c_J_bitCount ax_LC ax_layC d (f_X0_latestIn 1 (i : Int) M) M) (fun hc4 => ?_)
  refine ax_lump ax_layC ok_kX2 [(40, .isub, 1, 0, 0, 0), (41, .istore 5, 2, 0, 0, 0)] (pc' := 43) (lc' := [(5, (0, 0, (ax_wr ((f_J_bitCount (f_X0_writtenIn 1 (i : Int) M) M) - (f_J_bitCount (f_X0_latestIn 1 (i : Int) M) M))))), (0, (2, 2, 0)), (1, (0, 0, v1)), (2, (0, 0, v2)), (3, (0, 0, v3)), (4, (0, 0, (i : Int)))]) (st' := []) (M' := M) (C' := True) (by decide +kernel) rfl trivial ?_
  refine ax_bdI0 (e := (ax_wr ((f_J_bitCount (f_X0_writtenIn 1 (i : Int) M) M) - (f_J_bitCount (f_X0_latestIn 1 (i : Int) M) M)))) (fun y5 => [(5, (0, 0, y5)), (0, (2, 2, 0)), (1, (0, 0, v1)), (2, (0, 0, v2)), (3, (0, 0, v3)), (4, (0, 0, (i : Int)))]) (fun y5 => []) (fun y5 => ?_)
  refine ax_lump ax_layC ok_kX2 [(43, .iload_n 1, 1, 0, 0, 0), (44, .iload 5, 2, 0, 0, 0), (46, .iadd, 1, 0, 0, 0), (47, .istore_n 1, 1, 0, 0, 0), (48, .iload 5, 2, 0, 0, 0), (50, .iload_n 3, 1, 0, 0, 0)] (pc' := 51) (lc' := [(1, (0, 0, (ax_wr (v1 + y5)))), (5, (0, 0, y5)), (0, (2, 2, 0)), (2, (0, 0, v2)), (3, (0, 0, v3)), (4, (0, 0, (i : Int)))]) (st' := [(0, 0, v3), (0, 0, y5)]) (M' := M) (C' := True) (by decide +kernel) rfl trivial ?_
  refine ax_jle (off := 9) (tgt := 60) (by decide +kernel) (by decide) (fun h6 => ?_) (fun h6 => ?_)
  · refine ax_lump ax_layC ok_kX2 [(60, .iinc 4 1, 3, 1, 0, 0), (63, .goto (-54), 3, 9, 0, 0)] (pc' := 9) (lc' := [(4, (0, 0, ((i : Int) + 1))), (1, (0, 0, (ax_wr (v1 + y5)))), (5, (0, 0, y5)), (0, (2, 2, 0)), (2, (0, 0, v2)), (3, (0, 0, v3))]) (st' := []) (M' := M) (C' := (True ∧ ax_r32 ((i : Int) + 1))) (by decide +kernel) rfl ⟨trivial, ⟨by omega, by omega⟩⟩ ?_
    refine ax_pk [3,1,4,5,0] (lc' := [(0, (2, 2, 0)), (1, (0, 0, (ax_wr (v1 + y5)))), (2, (0, 0, v2)), (3, (0, 0, v3)), (4, (0, 0, ((i : Int) + 1)))]) rfl ?_
    exact hkc (ax_wr (v1 + y5)) v2 v3 (by omega)
  · refine ax_lump ax_layC ok_kX2 [(54, .iload 4, 2, 0, 0, 0), (56, .istore_n 2, 1, 0, 0, 0), (57, .iload 5, 2, 0, 0, 0), (59, .istore_n 3, 1, 0, 0, 0), (60, .iinc 4 1, 3, 1, 0, 0), (63, .goto (-54), 3, 9, 0, 0)] (pc' := 9) (lc' := [(4, (0, 0, ((i : Int) + 1))), (3, (0, 0, y5)), (2, (0, 0, (i : Int))), (1, (0, 0, (ax_wr (v1 + y5)))), (5, (0, 0, y5)), (0, (2, 2, 0))]) (st' := []) (M' := M) (C' := (True ∧ ax_r32 ((i : Int) + 1))) (by decide +kernel) rfl ⟨trivial, ⟨by omega, by omega⟩⟩ ?_
    refine ax_pk [5,3,2,1,0] (lc' := [(0, (2, 2, 0)), (1, (0, 0, (ax_wr (v1 + y5)))), (2, (0, 0, (i : Int))), (3, (0, 0, y5)), (4, (0, 0, ((i : Int) + 1)))]) rfl ?_
    exact hkc (ax_wr (v1 + y5)) (i : Int) y5 (by omega)
set_option maxRecDepth 100000 in
set_option maxHeartbeats 4000000 in
theorem w_X2_stale_L9 (d : Nat)  (M : ax_M) (kx : Int → Int → Int → Int × ax_M)  (hkx : ∀ (x1 : Int) (x2 : Int) (x3 : Int), (((-1) ≤ x2 ∧ x2 ≤ 15)) → ax_W ax_LC gX2_stale (d + 4) 66 [(0, (2, 2, 0)), (1, (0, 0, x1)), (2, (0, 0, x2)), (3, (0, 0, x3))] [] M ((ax_qm (-2147483648) 2147483647) (kx x1 x2 x3))) : ∀ (n : Nat) (i : Nat) (v1 : Int) (v2 : Int) (v3 : Int), 0 ≤ i ∧ i + n = 16 → (-1) ≤ v2 ∧ v2 ≤ 15 → ax_W ax_LC gX2_stale (d + 4) 9 [(0, (2, 2, 0)), (1, (0, 0, v1)), (2, (0, 0, v2)), (3, (0, 0, v3)), (4, (0, 0, (i : Int)))] [] M ((ax_qm (-2147483648) 2147483647) (f_X2_stale_L9  M n i v1 v2 v3 kx)) := by
  intro n
  induction n with
  | zero =>
    intro i v1 v2 v3 hin hv2
    refine ax_lump ax_layC ok_kX2 [(9, .iload 4, 2, 0, 0, 0), (11, .bipush 16, 2, 0, 0, 0)] (pc' := 13) (lc' := [(0, (2, 2, 0)), (1, (0, 0, v1)), (2, (0, 0, v2)), (3, (0, 0, v3)), (4, (0, 0, (i : Int)))]) (st' := [(0, 0, 16), (0, 0, (i : Int))]) (M' := M) (C' := True) (by decide +kernel) rfl trivial ?_
    refine ax_icmp_ge (off := 53) (tgt := 66) (by decide +kernel) (by decide) (fun h => ?_) (fun h => ?_)
    · refine ax_pk [0,1,2,3] (lc' := [(0, (2, 2, 0)), (1, (0, 0, v1)), (2, (0, 0, v2)), (3, (0, 0, v3))]) rfl ?_
      exact hkx v1 v2 v3 (by omega)
    · exfalso; omega
  | succ n ih =>
    intro i v1 v2 v3 hin hv2
    refine ax_lump ax_layC ok_kX2 [(9, .iload 4, 2, 0, 0, 0), (11, .bipush 16, 2, 0, 0, 0)] (pc' := 13) (lc' := [(0, (2, 2, 0)), (1, (0, 0, v1)), (2, (0, 0, v2)), (3, (0, 0, v3)), (4, (0, 0, (i : Int)))]) (st' := [(0, 0, 16), (0, 0, (i : Int))]) (M' := M) (C' := True) (by decide +kernel) rfl trivial ?_
    refine ax_icmp_ge (off := 53) (tgt := 66) (by decide +kernel) (by decide) (fun h => ?_) (fun h => ?_)
    · exfalso; omega
    · exact wb_X2_stale_B9 d  M i v1 v2 v3 _ kx  (by omega) hv2 (fun u1 u2 u3 hu2 => ih (i + 1) u1 u2 u3 (by omega) hu2) hkx
def f_X2_stale  (M : ax_M) : Int × ax_M := f_X2_stale_L9  M 16 0 0 (-1) 0 (fun z7 z8 z9 => ax_bd (f_X2_tellAnew M) (fun M10 => (if z7 ≤ 0 then (z7, M10) else ax_bd (f_X2_tell z8 M10) (fun M12 => ax_bd (f_X2_tell z9 M12) (fun M13 => (z7, M13))))))
set_option maxRecDepth 100000 in
set_option maxHeartbeats 4000000 in
theorem c_X2_stale (d : Nat)  (M : ax_M)  : ax_Met ax_LC gX2_stale (d + 4) [(2, 2, 0)] M ((ax_qm (-2147483648) 2147483647) (f_X2_stale  M)) := by
  refine ax_body (by decide) (fun X => Nat.le_of_ble_eq_true rfl) (fun hok => ?_)
  show ax_W ax_LC gX2_stale (d + 4) 0 [(0, (2, 2, 0))] [] M _
  unfold f_X2_stale
  refine ax_lump ax_layC ok_kX2 [(0, .iconst 0, 1, 0, 0, 0), (1, .istore_n 1, 1, 0, 0, 0), (2, .iconst (-1), 1, 0, 0, 0), (3, .istore_n 2, 1, 0, 0, 0), (4, .iconst 0, 1, 0, 0, 0), (5, .istore_n 3, 1, 0, 0, 0), (6, .iconst 0, 1, 0, 0, 0), (7, .istore 4, 2, 0, 0, 0)] (pc' := 9) (lc' := [(4, (0, 0, 0)), (3, (0, 0, 0)), (2, (0, 0, (-1))), (1, (0, 0, 0)), (0, (2, 2, 0))]) (st' := []) (M' := M) (C' := True) (by decide +kernel) rfl trivial ?_
  refine ax_pk [4,3,2,1,0] (lc' := [(0, (2, 2, 0)), (1, (0, 0, 0)), (2, (0, 0, (-1))), (3, (0, 0, 0)), (4, (0, 0, 0))]) rfl ?_
  refine w_X2_stale_L9 d  M _  (fun z7 z8 z9 hx_9 => ?_) 16 0 0 (-1) 0 (by omega) (by omega)
  refine ax_lump ax_layC ok_kX2 [(66, .aload_n 0, 1, 0, 0, 0)] (pc' := 67) (lc' := [(0, (2, 2, 0)), (1, (0, 0, z7)), (2, (0, 0, z8)), (3, (0, 0, z9))]) (st' := [(2, 2, 0)]) (M' := M) (C' := True) (by decide +kernel) rfl trivial ?_
  refine ax_cVv (G1 := gX2_tellAnew) (d1 := d + 0) (i := 168) (n := 0) (as := []) (st := []) (c := 2) (a := 0) (by decide +kernel) ax_cls2 calX2_tellAnew (by omega) rfl wt_517 wt_519 ws_47 (Nat.le_of_ble_eq_true rfl) rfl (c_X2_tellAnew d  M) (fun M10 => ?_)
  refine ax_lump ax_layC ok_kX2 [(70, .iload_n 1, 1, 0, 0, 0)] (pc' := 71) (lc' := [(0, (2, 2, 0)), (1, (0, 0, z7)), (2, (0, 0, z8)), (3, (0, 0, z9))]) (st' := [(0, 0, z7)]) (M' := M10) (C' := True) (by decide +kernel) rfl trivial ?_
  refine ax_zle (off := 15) (tgt := 86) (by decide +kernel) (by decide) (fun h11 => ?_) (fun h11 => ?_)
  · refine ax_lump ax_layC ok_kX2 [(86, .iload_n 1, 1, 0, 0, 0)] (pc' := 87) (lc' := [(0, (2, 2, 0)), (1, (0, 0, z7)), (2, (0, 0, z8)), (3, (0, 0, z9))]) (st' := [(0, 0, z7)]) (M' := M10) (C' := True) (by decide +kernel) rfl trivial ?_
    refine ax_rngS (fun hr => ?_)
    exact ax_iret (by decide +kernel) rfl ⟨rfl, rfl, hr.1, hr.2⟩
  · refine ax_lump ax_layC ok_kX2 [(74, .aload_n 0, 1, 0, 0, 0), (75, .iload_n 2, 1, 0, 0, 0), (76, .i2l, 1, 0, 0, 0)] (pc' := 77) (lc' := [(0, (2, 2, 0)), (1, (0, 0, z7)), (2, (0, 0, z8)), (3, (0, 0, z9))]) (st' := [(1, 0, z8), (2, 2, 0)]) (M' := M10) (C' := True) (by decide +kernel) rfl trivial ?_
    refine ax_cVv (G1 := gX2_tell) (d1 := d + 0) (i := 155) (n := 1) (as := [(1, 0, z8)]) (st := []) (c := 2) (a := 0) (by decide +kernel) ax_cls2 calX2_tell (by omega) rfl wt_521 wt_523 ws_48 (Nat.le_of_ble_eq_true rfl) rfl (c_X2_tell d z8 M10) (fun M12 => ?_)
    refine ax_lump ax_layC ok_kX2 [(80, .aload_n 0, 1, 0, 0, 0), (81, .iload_n 3, 1, 0, 0, 0), (82, .i2l, 1, 0, 0, 0)] (pc' := 83) (lc' := [(0, (2, 2, 0)), (1, (0, 0, z7)), (2, (0, 0, z8)), (3, (0, 0, z9))]) (st' := [(1, 0, z9), (2, 2, 0)]) (M' := M12) (C' := True) (by decide +kernel) rfl trivial ?_
    refine ax_cVv (G1 := gX2_tell) (d1 := d + 0) (i := 155) (n := 1) (as := [(1, 0, z9)]) (st := []) (c := 2) (a := 0) (by decide +kernel) ax_cls2 calX2_tell (by omega) rfl wt_521 wt_523 ws_48 (Nat.le_of_ble_eq_true rfl) rfl (c_X2_tell d z9 M12) (fun M13 => ?_)
    refine ax_lump ax_layC ok_kX2 [(86, .iload_n 1, 1, 0, 0, 0)] (pc' := 87) (lc' := [(0, (2, 2, 0)), (1, (0, 0, z7)), (2, (0, 0, z8)), (3, (0, 0, z9))]) (st' := [(0, 0, z7)]) (M' := M13) (C' := True) (by decide +kernel) rfl trivial ?_
    refine ax_rngS (fun hr => ?_)
    exact ax_iret (by decide +kernel) rfl ⟨rfl, rfl, hr.1, hr.2⟩
def f_X2_keep (x1 : Int) (M : ax_M) : Int × ax_M := (if x1 < 0 then (0, M) else (if x1 < 2 then ax_bd (f_X0_save 1 548 26 (x1 * 274) M) (fun M3 => ax_bd (ax_up M3 27 x1.toNat 1) (fun M4 => (1, M4))) else (0, M)))
set_option maxRecDepth 100000 in
set_option maxHeartbeats 4000000 in
theorem c_X2_keep (d : Nat) (x1 : Int) (M : ax_M)  : ax_Met ax_LC gX2_keep (d + 4) [(2, 2, 0), (0, 0, x1)] M ((ax_qm 0 1) (f_X2_keep x1 M)) := by
  refine ax_body (by decide) (fun X => Nat.le_of_ble_eq_true rfl) (fun hok => ?_)
  have hr_x1 : (-2147483648) ≤ x1 ∧ x1 ≤ 2147483647 := hok (0, 0, x1) (by simp)
  show ax_W ax_LC gX2_keep (d + 4) 0 [(0, (2, 2, 0)), (1, (0, 0, x1))] [] M _
  unfold f_X2_keep
  refine ax_lump ax_layC ok_kX2 [(0, .iload_n 1, 1, 0, 0, 0)] (pc' := 1) (lc' := [(0, (2, 2, 0)), (1, (0, 0, x1))]) (st' := [(0, 0, x1)]) (M' := M) (C' := True) (by decide +kernel) rfl trivial ?_
  refine ax_zlt (off := 8) (tgt := 9) (by decide +kernel) (by decide) (fun h1 => ?_) (fun h1 => ?_)
  · refine ax_lump ax_layC ok_kX2 [(9, .iconst 0, 1, 0, 0, 0)] (pc' := 10) (lc' := [(0, (2, 2, 0)), (1, (0, 0, x1))]) (st' := [(0, 0, 0)]) (M' := M) (C' := True) (by decide +kernel) rfl trivial ?_
    exact ax_zret (by decide +kernel) rfl (by omega) ⟨rfl, rfl, (show (0 : Int) ≤ 0 from by omega), (show 0 ≤ (1 : Int) from by omega)⟩
  · refine ax_lump ax_layC ok_kX2 [(4, .iload_n 1, 1, 0, 0, 0), (5, .iconst 2, 1, 0, 0, 0)] (pc' := 6) (lc' := [(0, (2, 2, 0)), (1, (0, 0, x1))]) (st' := [(0, 0, 2), (0, 0, x1)]) (M' := M) (C' := True) (by decide +kernel) rfl trivial ?_
    refine ax_jlt (off := 5) (tgt := 11) (by decide +kernel) (by decide) (fun h2 => ?_) (fun h2 => ?_)
    · refine ax_lump ax_layC ok_kX2 [(11, .aload_n 0, 1, 0, 0, 0), (12, .getfield 12, 3, 2, 0, 0), (15, .aload_n 0, 1, 0, 0, 0), (16, .getfield 30, 3, 2, 5, 0), (19, .iload_n 1, 1, 0, 0, 0), (20, .sipush 274, 3, 0, 0, 0), (23, .imul, 1, 1, 0, 0)] (pc' := 24) (lc' := [(0, (2, 2, 0)), (1, (0, 0, x1))]) (st' := [(0, 0, (x1 * 274)), (3, 548, 26), (2, 0, 1)]) (M' := M) (C' := (True ∧ ax_r32 (x1 * 274))) (by decide +kernel) rfl ⟨trivial, ⟨by omega, by omega⟩⟩ ?_
      refine ax_cNv (G1 := gX0_save) (d1 := d + 3) (i := 305) (n := 2) (as := [(3, 548, 26), (0, 0, (x1 * 274))]) (st := []) (c := 0) (a := 1) (by decide +kernel) ax_cls0 calX0_save (by omega) rfl wn_366 wt_368 ws_13 (Nat.le_of_ble_eq_true rfl) rfl (c_X0_save d 1 548 26 (x1 * 274) M (by omega)) (fun M3 => ?_)
      refine ax_lump ax_layC ok_kX2 [(27, .aload_n 0, 1, 0, 0, 0), (28, .getfield 33, 3, 2, 6, 0), (31, .iload_n 1, 1, 0, 0, 0), (32, .iconst 1, 1, 0, 0, 0), (33, .bastore, 1, 0, 0, 0)] (pc' := 34) (lc' := [(0, (2, 2, 0)), (1, (0, 0, x1))]) (st' := []) (M' := (ax_up M3 27 x1.toNat 1)) (C' := ((True ∧ (0 ≤ x1 ∧ x1 < ((2 : Nat) : Int))) ∧ (0 ≤ 1 ∧ 1 ≤ 1))) (by decide +kernel) rfl ⟨⟨trivial, by omega⟩, by omega⟩ ?_
      refine ax_bdMe (fun M4 hM_M4 => ?_)
      refine ax_lump ax_layC ok_kX2 [(34, .iconst 1, 1, 0, 0, 0)] (pc' := 35) (lc' := [(0, (2, 2, 0)), (1, (0, 0, x1))]) (st' := [(0, 0, 1)]) (M' := M4) (C' := True) (by decide +kernel) rfl trivial ?_
      exact ax_zret (by decide +kernel) rfl (by omega) ⟨rfl, rfl, (show (0 : Int) ≤ 1 from by omega), (show 1 ≤ (1 : Int) from by omega)⟩
    · refine ax_lump ax_layC ok_kX2 [(9, .iconst 0, 1, 0, 0, 0)] (pc' := 10) (lc' := [(0, (2, 2, 0)), (1, (0, 0, x1))]) (st' := [(0, 0, 0)]) (M' := M) (C' := True) (by decide +kernel) rfl trivial ?_
      exact ax_zret (by decide +kernel) rfl (by omega) ⟨rfl, rfl, (show (0 : Int) ≤ 0 from by omega), (show 0 ≤ (1 : Int) from by omega)⟩
def f_X2_again (x1 : Int) (M : ax_M) : Int × ax_M := (if x1 < 0 then (0, M) else (if 2 ≤ x1 then (0, M) else (if (M 27 x1.toNat) ≠ 0 then ax_bd (f_X0_load 1 548 26 (x1 * 274) M) (fun M4 => ax_bd (ax_up M4 0 4 0) (fun M5 => (1, M5))) else (0, M))))
set_option maxRecDepth 100000 in
set_option maxHeartbeats 4000000 in
theorem c_X2_again (d : Nat) (x1 : Int) (M : ax_M)  : ax_Met ax_LC gX2_again (d + 4) [(2, 2, 0), (0, 0, x1)] M ((ax_qm 0 1) (f_X2_again x1 M)) := by
  refine ax_body (by decide) (fun X => Nat.le_of_ble_eq_true rfl) (fun hok => ?_)
  have hr_x1 : (-2147483648) ≤ x1 ∧ x1 ≤ 2147483647 := hok (0, 0, x1) (by simp)
  show ax_W ax_LC gX2_again (d + 4) 0 [(0, (2, 2, 0)), (1, (0, 0, x1))] [] M _
  unfold f_X2_again
  refine ax_lump ax_layC ok_kX2 [(0, .iload_n 1, 1, 0, 0, 0)] (pc' := 1) (lc' := [(0, (2, 2, 0)), (1, (0, 0, x1))]) (st' := [(0, 0, x1)]) (M' := M) (C' := True) (by decide +kernel) rfl trivial ?_
  refine ax_zlt (off := 17) (tgt := 18) (by decide +kernel) (by decide) (fun h1 => ?_) (fun h1 => ?_)
  · refine ax_lump ax_layC ok_kX2 [(18, .iconst 0, 1, 0, 0, 0)] (pc' := 19) (lc' := [(0, (2, 2, 0)), (1, (0, 0, x1))]) (st' := [(0, 0, 0)]) (M' := M) (C' := True) (by decide +kernel) rfl trivial ?_
    exact ax_zret (by decide +kernel) rfl (by omega) ⟨rfl, rfl, (show (0 : Int) ≤ 0 from by omega), (show 0 ≤ (1 : Int) from by omega)⟩
  · refine ax_lump ax_layC ok_kX2 [(4, .iload_n 1, 1, 0, 0, 0), (5, .iconst 2, 1, 0, 0, 0)] (pc' := 6) (lc' := [(0, (2, 2, 0)), (1, (0, 0, x1))]) (st' := [(0, 0, 2), (0, 0, x1)]) (M' := M) (C' := True) (by decide +kernel) rfl trivial ?_
    refine ax_jge (off := 12) (tgt := 18) (by decide +kernel) (by decide) (fun h2 => ?_) (fun h2 => ?_)
    · refine ax_lump ax_layC ok_kX2 [(18, .iconst 0, 1, 0, 0, 0)] (pc' := 19) (lc' := [(0, (2, 2, 0)), (1, (0, 0, x1))]) (st' := [(0, 0, 0)]) (M' := M) (C' := True) (by decide +kernel) rfl trivial ?_
      exact ax_zret (by decide +kernel) rfl (by omega) ⟨rfl, rfl, (show (0 : Int) ≤ 0 from by omega), (show 0 ≤ (1 : Int) from by omega)⟩
    · refine ax_lump ax_layC ok_kX2 [(9, .aload_n 0, 1, 0, 0, 0), (10, .getfield 33, 3, 2, 6, 0), (13, .iload_n 1, 1, 0, 0, 0), (14, .baload, 1, 0, 0, 0)] (pc' := 15) (lc' := [(0, (2, 2, 0)), (1, (0, 0, x1))]) (st' := [(0, 0, (M 27 x1.toNat))]) (M' := M) (C' := (True ∧ (0 ≤ x1 ∧ x1 < ((2 : Nat) : Int)))) (by decide +kernel) rfl ⟨trivial, by omega⟩ ?_
      refine ax_zne (off := 5) (tgt := 20) (by decide +kernel) (by decide) (fun h3 => ?_) (fun h3 => ?_)
      · refine ax_lump ax_layC ok_kX2 [(20, .aload_n 0, 1, 0, 0, 0), (21, .getfield 12, 3, 2, 0, 0), (24, .aload_n 0, 1, 0, 0, 0), (25, .getfield 30, 3, 2, 5, 0), (28, .iload_n 1, 1, 0, 0, 0), (29, .sipush 274, 3, 0, 0, 0), (32, .imul, 1, 1, 0, 0)] (pc' := 33) (lc' := [(0, (2, 2, 0)), (1, (0, 0, x1))]) (st' := [(0, 0, (x1 * 274)), (3, 548, 26), (2, 0, 1)]) (M' := M) (C' := (True ∧ ax_r32 (x1 * 274))) (by decide +kernel) rfl ⟨trivial, ⟨by omega, by omega⟩⟩ ?_
        refine ax_cNv (G1 := gX0_load) (d1 := d + 3) (i := 223) (n := 2) (as := [(3, 548, 26), (0, 0, (x1 * 274))]) (st := []) (c := 0) (a := 1) (by decide +kernel) ax_cls0 calX0_load (by omega) rfl wn_611 wt_613 ws_57 (Nat.le_of_ble_eq_true rfl) rfl (c_X0_load d 1 548 26 (x1 * 274) M (by omega)) (fun M4 => ?_)
        refine ax_lump ax_layC ok_kX2 [(36, .aload_n 0, 1, 0, 0, 0), (37, .iconst 0, 1, 0, 0, 0), (38, .putfield 27, 3, 2, 4, 0)] (pc' := 41) (lc' := [(0, (2, 2, 0)), (1, (0, 0, x1))]) (st' := []) (M' := (ax_up M4 0 4 0)) (C' := (True ∧ (0 ≤ 0 ∧ 0 < ((9 : Nat) : Int)))) (by decide +kernel) rfl ⟨trivial, by omega⟩ ?_
        refine ax_bdMe (fun M5 hM_M5 => ?_)
        refine ax_lump ax_layC ok_kX2 [(41, .iconst 1, 1, 0, 0, 0)] (pc' := 42) (lc' := [(0, (2, 2, 0)), (1, (0, 0, x1))]) (st' := [(0, 0, 1)]) (M' := M5) (C' := True) (by decide +kernel) rfl trivial ?_
        exact ax_zret (by decide +kernel) rfl (by omega) ⟨rfl, rfl, (show (0 : Int) ≤ 1 from by omega), (show 1 ≤ (1 : Int) from by omega)⟩
      · refine ax_lump ax_layC ok_kX2 [(18, .iconst 0, 1, 0, 0, 0)] (pc' := 19) (lc' := [(0, (2, 2, 0)), (1, (0, 0, x1))]) (st' := [(0, 0, 0)]) (M' := M) (C' := True) (by decide +kernel) rfl trivial ?_
        exact ax_zret (by decide +kernel) rfl (by omega) ⟨rfl, rfl, (show (0 : Int) ≤ 0 from by omega), (show 0 ≤ (1 : Int) from by omega)⟩
