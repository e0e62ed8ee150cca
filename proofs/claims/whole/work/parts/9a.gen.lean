def f_X1_opensThing (b : Int) (x1 : Int) (M : ax_M) : Int × ax_M := (if x1 ≠ 45 then (if x1 ≠ 40 then ax_bd (ax_ix 0 x1) (fun y4 => (if 0 ≤ y4 then ax_bd (f_X1_emit b (1000 + y4) M) (fun M6 => ax_bd (ax_up M6 b.toNat 4 0) (fun M7 => (1, M7))) else (0, M))) else (if (M b.toNat 5) < 4 then ax_bd (ax_up M b.toNat 5 ((M b.toNat 5) + 1)) (fun M10 => ax_bd (ax_up M10 b.toNat 6 (ax_and (M10 b.toNat 6) (ax_xor (ax_shl 1 (M10 b.toNat 5)) (-1)))) (fun M12 => ax_bd (f_X1_push b 40 M12) (fun M14 => (1, M14)))) else (0, M))) else ax_bd (f_X1_push b 256 M) (fun M15 => (1, M15)))
set_option maxRecDepth 100000 in
set_option maxHeartbeats 4000000 in
theorem c_X1_opensThing (d : Nat) (b : Int) (x1 : Int) (M : ax_M)  : ax_Met ax_LC gX1_opensThing (d + 4) [(2, 1, b), (0, 0, x1)] M ((ax_qm 0 1) (f_X1_opensThing b x1 M)) := by
  refine ax_body (by decide) (fun X => Nat.le_of_ble_eq_true rfl) (fun hok => ?_)
  have hb0 : 0 ≤ b := (hok (2, 1, b) (by simp)).1
  have hb1 : b ≤ 100000 := by have h8 : b.toNat < ax_LC.length := ax_ltL (hok (2, 1, b) (by simp)).2; have h9 : ax_LC.length = 38 := rfl; rw [h9] at h8; omega
  have hr_x1 : (-2147483648) ≤ x1 ∧ x1 ≤ 2147483647 := hok (0, 0, x1) (by simp)
  show ax_W ax_LC gX1_opensThing (d + 4) 0 [(0, (2, 1, b)), (1, (0, 0, x1))] [] M _
  unfold f_X1_opensThing
  refine ax_lump ax_layC ok_kX1 [(0, .iload_n 1, 1, 0, 0, 0), (1, .bipush 45, 2, 0, 0, 0)] (pc' := 3) (lc' := [(0, (2, 1, b)), (1, (0, 0, x1))]) (st' := [(0, 0, 45), (0, 0, x1)]) (M' := M) (C' := True) (by decide +kernel) rfl trivial ?_
  refine ax_jne (off := 12) (tgt := 15) (by decide +kernel) (by decide) (fun h1 => ?_) (fun h1 => ?_)
  · refine ax_lump ax_layC ok_kX1 [(15, .iload_n 1, 1, 0, 0, 0), (16, .bipush 40, 2, 0, 0, 0)] (pc' := 18) (lc' := [(0, (2, 1, b)), (1, (0, 0, x1))]) (st' := [(0, 0, 40), (0, 0, x1)]) (M' := M) (C' := True) (by decide +kernel) rfl trivial ?_
    refine ax_jne (off := 48) (tgt := 66) (by decide +kernel) (by decide) (fun h2 => ?_) (fun h2 => ?_)
    · refine ax_lump ax_layC ok_kX1 [(66, .ldc 62, 2, 1, 0, 0), (68, .iload_n 1, 1, 0, 0, 0)] (pc' := 69) (lc' := [(0, (2, 1, b)), (1, (0, 0, x1))]) (st' := [(0, 0, x1), (7, 0, 0)]) (M' := M) (C' := True) (by decide +kernel) rfl trivial ?_
      refine ax_cTi (G1 := gS_indexOf1) (d1 := d + 3) (i := 64) (n := 1) (as := [(0, 0, x1)]) (st := []) (by decide +kernel) (t := 0) (by decide) cal_gS_indexOf1 (by omega) rfl wt_234 wt_235 wt_236 (Nat.le_of_ble_eq_true rfl) rfl (cS_indexOf1 ax_layC d 0 (by decide) x1 M) (fun hc3 => ?_)
      refine ax_lump ax_layC ok_kX1 [(72, .istore_n 2, 1, 0, 0, 0)] (pc' := 73) (lc' := [(2, (0, 0, (ax_ix 0 x1))), (0, (2, 1, b)), (1, (0, 0, x1))]) (st' := []) (M' := M) (C' := True) (by decide +kernel) rfl trivial ?_
      refine ax_bdI (lo := (-1)) (hi := 6) (e := (ax_ix 0 x1)) (fun y4 => [(2, (0, 0, y4)), (0, (2, 1, b)), (1, (0, 0, x1))]) (fun y4 => []) (by omega) (fun y4 h_y4 => ?_)
      refine ax_lump ax_layC ok_kX1 [(73, .iload_n 2, 1, 0, 0, 0)] (pc' := 74) (lc' := [(2, (0, 0, y4)), (0, (2, 1, b)), (1, (0, 0, x1))]) (st' := [(0, 0, y4)]) (M' := M) (C' := True) (by decide +kernel) rfl trivial ?_
      refine ax_zge (off := 5) (tgt := 79) (by decide +kernel) (by decide) (fun h5 => ?_) (fun h5 => ?_)
      · refine ax_lump ax_layC ok_kX1 [(79, .aload_n 0, 1, 0, 0, 0), (80, .sipush 1000, 3, 0, 0, 0), (83, .iload_n 2, 1, 0, 0, 0), (84, .iadd, 1, 1, 0, 0)] (pc' := 85) (lc' := [(2, (0, 0, y4)), (0, (2, 1, b)), (1, (0, 0, x1))]) (st' := [(0, 0, (1000 + y4)), (2, 1, b)]) (M' := M) (C' := (True ∧ ax_r32 (1000 + y4))) (by decide +kernel) rfl ⟨trivial, ⟨by omega, by omega⟩⟩ ?_
        refine ax_cVv (G1 := gX1_emit) (d1 := d + 0) (i := 38) (n := 1) (as := [(0, 0, (1000 + y4))]) (st := []) (c := 1) (a := b) (by decide +kernel) ax_cls1 calX1_emit (by omega) rfl wt_213 wt_215 ws_2 (Nat.le_of_ble_eq_true rfl) rfl (c_X1_emit d b (1000 + y4) M) (fun M6 => ?_)
        refine ax_lump ax_layC ok_kX1 [(88, .aload_n 0, 1, 0, 0, 0), (89, .iconst 0, 1, 0, 0, 0), (90, .putfield 25, 3, 1, 4, 0)] (pc' := 93) (lc' := [(2, (0, 0, y4)), (0, (2, 1, b)), (1, (0, 0, x1))]) (st' := []) (M' := (ax_up M6 b.toNat 4 0)) (C' := (True ∧ (0 ≤ 0 ∧ 0 ≤ 1))) (by decide +kernel) rfl ⟨trivial, by omega⟩ ?_
        refine ax_bdMe (fun M7 hM_M7 => ?_)
        refine ax_lump ax_layC ok_kX1 [(93, .iconst 1, 1, 0, 0, 0)] (pc' := 94) (lc' := [(2, (0, 0, y4)), (0, (2, 1, b)), (1, (0, 0, x1))]) (st' := [(0, 0, 1)]) (M' := M7) (C' := True) (by decide +kernel) rfl trivial ?_
        exact ax_zret (by decide +kernel) rfl (by omega) ⟨rfl, rfl, (show (0 : Int) ≤ 1 from by omega), (show 1 ≤ (1 : Int) from by omega)⟩
      · refine ax_lump ax_layC ok_kX1 [(77, .iconst 0, 1, 0, 0, 0)] (pc' := 78) (lc' := [(2, (0, 0, y4)), (0, (2, 1, b)), (1, (0, 0, x1))]) (st' := [(0, 0, 0)]) (M' := M) (C' := True) (by decide +kernel) rfl trivial ?_
        exact ax_zret (by decide +kernel) rfl (by omega) ⟨rfl, rfl, (show (0 : Int) ≤ 0 from by omega), (show 0 ≤ (1 : Int) from by omega)⟩
    · refine ax_fact (i := 0) (c := 1) (f := 5) (hi := 4) (s := b) (by simp) rfl rfl rfl (fun hf8 => ?_)
      have hf8 : 0 ≤ (M b.toNat 5) ∧ (M b.toNat 5) ≤ 4 := hf8
      refine ax_lump ax_layC ok_kX1 [(21, .aload_n 0, 1, 0, 0, 0), (22, .getfield 29, 3, 1, 5, 0), (25, .iconst 4, 1, 0, 0, 0)] (pc' := 26) (lc' := [(0, (2, 1, b)), (1, (0, 0, x1))]) (st' := [(0, 0, 4), (0, 0, (M b.toNat 5))]) (M' := M) (C' := True) (by decide +kernel) rfl trivial ?_
      refine ax_jlt (off := 5) (tgt := 31) (by decide +kernel) (by decide) (fun h9 => ?_) (fun h9 => ?_)
      · refine ax_lump ax_layC ok_kX1 [(31, .aload_n 0, 1, 0, 0, 0), (32, .dup, 1, 0, 0, 0), (33, .getfield 29, 3, 1, 5, 0), (36, .iconst 1, 1, 0, 0, 0), (37, .iadd, 1, 1, 0, 0), (38, .putfield 29, 3, 1, 5, 0)] (pc' := 41) (lc' := [(0, (2, 1, b)), (1, (0, 0, x1))]) (st' := []) (M' := (ax_up M b.toNat 5 ((M b.toNat 5) + 1))) (C' := ((True ∧ ax_r32 ((M b.toNat 5) + 1)) ∧ (0 ≤ ((M b.toNat 5) + 1) ∧ ((M b.toNat 5) + 1) < ((5 : Nat) : Int)))) (by decide +kernel) rfl ⟨⟨trivial, ⟨by omega, by omega⟩⟩, by omega⟩ ?_
        refine ax_bdMe (fun M10 hM_M10 => ?_)
        have hk_k11 : (M10 b.toNat 5) = ((M b.toNat 5) + 1) := by rw [hM_M10]; exact ax_up_s
        refine ax_lump ax_layC ok_kX1 [(41, .aload_n 0, 1, 0, 0, 0), (42, .dup, 1, 0, 0, 0), (43, .getfield 32, 3, 1, 6, 0), (46, .iconst 1, 1, 0, 0, 0), (47, .aload_n 0, 1, 0, 0, 0), (48, .getfield 29, 3, 1, 5, 0), (51, .ishl, 1, 0, 0, 0), (52, .iconst (-1), 1, 0, 0, 0), (53, .ixor, 1, 0, 0, 0), (54, .iand, 1, 0, 0, 0), (55, .putfield 32, 3, 1, 6, 0)] (pc' := 58) (lc' := [(0, (2, 1, b)), (1, (0, 0, x1))]) (st' := []) (M' := (ax_up M10 b.toNat 6 (ax_and (M10 b.toNat 6) (ax_xor (ax_shl 1 (M10 b.toNat 5)) (-1))))) (C' := True) (by decide +kernel) rfl trivial ?_
        refine ax_bdMe (fun M12 hM_M12 => ?_)
        have hk_k13 : (M12 b.toNat 5) = (M10 b.toNat 5) := by rw [hM_M12]; exact ax_up_o2 (by decide)
        refine ax_lump ax_layC ok_kX1 [(58, .aload_n 0, 1, 0, 0, 0), (59, .bipush 40, 2, 0, 0, 0)] (pc' := 61) (lc' := [(0, (2, 1, b)), (1, (0, 0, x1))]) (st' := [(0, 0, 40), (2, 1, b)]) (M' := M12) (C' := True) (by decide +kernel) rfl trivial ?_
        refine ax_cVv (G1 := gX1_push) (d1 := d + 0) (i := 59) (n := 1) (as := [(0, 0, 40)]) (st := []) (c := 1) (a := b) (by decide +kernel) ax_cls1 calX1_push (by omega) rfl wt_229 wt_231 ws_6 (Nat.le_of_ble_eq_true rfl) rfl (c_X1_push d b 40 M12) (fun M14 => ?_)
        refine ax_lump ax_layC ok_kX1 [(64, .iconst 1, 1, 0, 0, 0)] (pc' := 65) (lc' := [(0, (2, 1, b)), (1, (0, 0, x1))]) (st' := [(0, 0, 1)]) (M' := M14) (C' := True) (by decide +kernel) rfl trivial ?_
        exact ax_zret (by decide +kernel) rfl (by omega) ⟨rfl, rfl, (show (0 : Int) ≤ 1 from by omega), (show 1 ≤ (1 : Int) from by omega)⟩
      · refine ax_lump ax_layC ok_kX1 [(29, .iconst 0, 1, 0, 0, 0)] (pc' := 30) (lc' := [(0, (2, 1, b)), (1, (0, 0, x1))]) (st' := [(0, 0, 0)]) (M' := M) (C' := True) (by decide +kernel) rfl trivial ?_
        exact ax_zret (by decide +kernel) rfl (by omega) ⟨rfl, rfl, (show (0 : Int) ≤ 0 from by omega), (show 0 ≤ (1 : Int) from by omega)⟩
  · refine ax_lump ax_layC ok_kX1 [(6, .aload_n 0, 1, 0, 0, 0), (7, .sipush 256, 3, 0, 0, 0)] (pc' := 10) (lc' := [(0, (2, 1, b)), (1, (0, 0, x1))]) (st' := [(0, 0, 256), (2, 1, b)]) (M' := M) (C' := True) (by decide +kernel) rfl trivial ?_
    refine ax_cVv (G1 := gX1_push) (d1 := d + 0) (i := 59) (n := 1) (as := [(0, 0, 256)]) (st := []) (c := 1) (a := b) (by decide +kernel) ax_cls1 calX1_push (by omega) rfl wt_229 wt_231 ws_6 (Nat.le_of_ble_eq_true rfl) rfl (c_X1_push d b 256 M) (fun M15 => ?_)
    refine ax_lump ax_layC ok_kX1 [(13, .iconst 1, 1, 0, 0, 0)] (pc' := 14) (lc' := [(0, (2, 1, b)), (1, (0, 0, x1))]) (st' := [(0, 0, 1)]) (M' := M15) (C' := True) (by decide +kernel) rfl trivial ?_
    exact ax_zret (by decide +kernel) rfl (by omega) ⟨rfl, rfl, (show (0 : Int) ≤ 1 from by omega), (show 1 ≤ (1 : Int) from by omega)⟩
def f_X1_goesOnBy (b : Int) (x1 : Int) (M : ax_M) : Prop × Int × ax_M := (if x1 < 48 then ax_bd (ax_up M b.toNat 7 0) (fun M2 => (if (M2 b.toNat 4) = 0 then ax_rc (f_X1_followsThing b x1 M2) (fun y5 => (True, (y5.1, y5.2))) else ax_bd (f_X1_opensThing b x1 M2) (fun y6 => (True, (y6.1, y6.2))))) else (if 57 < x1 then ax_bd (ax_up M b.toNat 7 0) (fun M8 => (if (M8 b.toNat 4) = 0 then ax_rc (f_X1_followsThing b x1 M8) (fun y11 => (True, (y11.1, y11.2))) else ax_bd (f_X1_opensThing b x1 M8) (fun y12 => (True, (y12.1, y12.2))))) else ax_bd (f_X1_goesOnByDigit b (x1 - 48) M) (fun y13 => (True, (y13.1, y13.2)))))
set_option maxRecDepth 100000 in
set_option maxHeartbeats 4000000 in
theorem c_X1_goesOnBy (d : Nat) (b : Int) (x1 : Int) (M : ax_M)  (hX : (f_X1_goesOnBy b x1 M).1) : ax_Met ax_LC gX1_goesOnBy (d + 5) [(2, 1, b), (0, 0, x1)] M ((ax_qm 0 1) (f_X1_goesOnBy b x1 M).2) := by
  refine ax_body (by decide) (fun X => Nat.le_of_ble_eq_true rfl) (fun hok => ?_)
  have hb0 : 0 ≤ b := (hok (2, 1, b) (by simp)).1
  have hb1 : b ≤ 100000 := by have h8 : b.toNat < ax_LC.length := ax_ltL (hok (2, 1, b) (by simp)).2; have h9 : ax_LC.length = 38 := rfl; rw [h9] at h8; omega
  have hr_x1 : (-2147483648) ≤ x1 ∧ x1 ≤ 2147483647 := hok (0, 0, x1) (by simp)
  show ax_W ax_LC gX1_goesOnBy (d + 5) 0 [(0, (2, 1, b)), (1, (0, 0, x1))] [] M _
  unfold f_X1_goesOnBy at hX ⊢
  refine ax_lump ax_layC ok_kX1 [(0, .iload_n 1, 1, 0, 0, 0), (1, .bipush 48, 2, 0, 0, 0)] (pc' := 3) (lc' := [(0, (2, 1, b)), (1, (0, 0, x1))]) (st' := [(0, 0, 48), (0, 0, x1)]) (M' := M) (C' := True) (by decide +kernel) rfl trivial ?_
  refine ax_jlt_s hX (off := 18) (tgt := 21) (by decide +kernel) (by decide) (fun h1 hX => ?_) (fun h1 hX => ?_)
  · refine ax_lump ax_layC ok_kX1 [(21, .aload_n 0, 1, 0, 0, 0), (22, .iconst 0, 1, 0, 0, 0), (23, .putfield 35, 3, 1, 7, 0)] (pc' := 26) (lc' := [(0, (2, 1, b)), (1, (0, 0, x1))]) (st' := []) (M' := (ax_up M b.toNat 7 0)) (C' := (True ∧ (0 ≤ 0 ∧ 0 < ((4 : Nat) : Int)))) (by decide +kernel) rfl ⟨trivial, by omega⟩ ?_
    refine ax_bdMe_s hX (fun M2 hM_M2 hX => ?_)
    refine ax_factZ (i := 0) (c := 1) (f := 4) (s := b) (by simp) rfl rfl (fun hf3 => ?_)
    have hf3 : 0 ≤ (M2 b.toNat 4) ∧ (M2 b.toNat 4) ≤ 1 := hf3
    refine ax_lump ax_layC ok_kX1 [(26, .aload_n 0, 1, 0, 0, 0), (27, .getfield 25, 3, 1, 4, 0)] (pc' := 30) (lc' := [(0, (2, 1, b)), (1, (0, 0, x1))]) (st' := [(0, 0, (M2 b.toNat 4))]) (M' := M2) (C' := True) (by decide +kernel) rfl trivial ?_
    refine ax_zeq_s hX (off := 11) (tgt := 41) (by decide +kernel) (by decide) (fun h4 hX => ?_) (fun h4 hX => ?_)
    · refine ax_lump ax_layC ok_kX1 [(41, .aload_n 0, 1, 0, 0, 0), (42, .iload_n 1, 1, 0, 0, 0)] (pc' := 43) (lc' := [(0, (2, 1, b)), (1, (0, 0, x1))]) (st' := [(0, 0, x1), (2, 1, b)]) (M' := M2) (C' := True) (by decide +kernel) rfl trivial ?_
      refine ax_cVm_r hX (G1 := gX1_followsThing) (d1 := d + 2) (i := 56) (n := 1) (as := [(0, 0, x1)]) (st := []) (c := 1) (a := b) (by decide +kernel) ax_cls1 calX1_followsThing (by omega) rfl wt_320 wt_322 ws_7 (Nat.le_of_ble_eq_true rfl) rfl (fun hY => c_X1_followsThing d b x1 M2 hY) (fun y5 h_y5 hX => ?_)
      exact ax_zret (by decide +kernel) rfl (by omega) ⟨rfl, rfl, (show (0 : Int) ≤ y5.1 from by omega), (show y5.1 ≤ (1 : Int) from by omega)⟩
    · refine ax_lump ax_layC ok_kX1 [(33, .aload_n 0, 1, 0, 0, 0), (34, .iload_n 1, 1, 0, 0, 0)] (pc' := 35) (lc' := [(0, (2, 1, b)), (1, (0, 0, x1))]) (st' := [(0, 0, x1), (2, 1, b)]) (M' := M2) (C' := True) (by decide +kernel) rfl trivial ?_
      refine ax_cVm_s hX (G1 := gX1_opensThing) (d1 := d + 4) (i := 53) (n := 1) (as := [(0, 0, x1)]) (st := []) (c := 1) (a := b) (by decide +kernel) ax_cls1 calX1_opensThing (by omega) rfl wt_225 wt_227 ws_5 (Nat.le_of_ble_eq_true rfl) rfl (c_X1_opensThing d b x1 M2) (fun y6 h_y6 hX => ?_)
      refine ax_lump ax_layC ok_kX1 [(38, .goto 8, 3, 46, 0, 0)] (pc' := 46) (lc' := [(0, (2, 1, b)), (1, (0, 0, x1))]) (st' := [(0, 0, y6.1)]) (M' := y6.2) (C' := True) (by decide +kernel) rfl trivial ?_
      exact ax_zret (by decide +kernel) rfl (by omega) ⟨rfl, rfl, (show (0 : Int) ≤ y6.1 from by omega), (show y6.1 ≤ (1 : Int) from by omega)⟩
  · refine ax_lump ax_layC ok_kX1 [(6, .iload_n 1, 1, 0, 0, 0), (7, .bipush 57, 2, 0, 0, 0)] (pc' := 9) (lc' := [(0, (2, 1, b)), (1, (0, 0, x1))]) (st' := [(0, 0, 57), (0, 0, x1)]) (M' := M) (C' := True) (by decide +kernel) rfl trivial ?_
    refine ax_jgt_s hX (off := 12) (tgt := 21) (by decide +kernel) (by decide) (fun h7 hX => ?_) (fun h7 hX => ?_)
    · refine ax_lump ax_layC ok_kX1 [(21, .aload_n 0, 1, 0, 0, 0), (22, .iconst 0, 1, 0, 0, 0), (23, .putfield 35, 3, 1, 7, 0)] (pc' := 26) (lc' := [(0, (2, 1, b)), (1, (0, 0, x1))]) (st' := []) (M' := (ax_up M b.toNat 7 0)) (C' := (True ∧ (0 ≤ 0 ∧ 0 < ((4 : Nat) : Int)))) (by decide +kernel) rfl ⟨trivial, by omega⟩ ?_
      refine ax_bdMe_s hX (fun M8 hM_M8 hX => ?_)
      refine ax_factZ (i := 0) (c := 1) (f := 4) (s := b) (by simp) rfl rfl (fun hf9 => ?_)
      have hf9 : 0 ≤ (M8 b.toNat 4) ∧ (M8 b.toNat 4) ≤ 1 := hf9
      refine ax_lump ax_layC ok_kX1 [(26, .aload_n 0, 1, 0, 0, 0), (27, .getfield 25, 3, 1, 4, 0)] (pc' := 30) (lc' := [(0, (2, 1, b)), (1, (0, 0, x1))]) (st' := [(0, 0, (M8 b.toNat 4))]) (M' := M8) (C' := True) (by decide +kernel) rfl trivial ?_
      refine ax_zeq_s hX (off := 11) (tgt := 41) (by decide +kernel) (by decide) (fun h10 hX => ?_) (fun h10 hX => ?_)
      · refine ax_lump ax_layC ok_kX1 [(41, .aload_n 0, 1, 0, 0, 0), (42, .iload_n 1, 1, 0, 0, 0)] (pc' := 43) (lc' := [(0, (2, 1, b)), (1, (0, 0, x1))]) (st' := [(0, 0, x1), (2, 1, b)]) (M' := M8) (C' := True) (by decide +kernel) rfl trivial ?_
        refine ax_cVm_r hX (G1 := gX1_followsThing) (d1 := d + 2) (i := 56) (n := 1) (as := [(0, 0, x1)]) (st := []) (c := 1) (a := b) (by decide +kernel) ax_cls1 calX1_followsThing (by omega) rfl wt_320 wt_322 ws_7 (Nat.le_of_ble_eq_true rfl) rfl (fun hY => c_X1_followsThing d b x1 M8 hY) (fun y11 h_y11 hX => ?_)
        exact ax_zret (by decide +kernel) rfl (by omega) ⟨rfl, rfl, (show (0 : Int) ≤ y11.1 from by omega), (show y11.1 ≤ (1 : Int) from by omega)⟩
      · refine ax_lump ax_layC ok_kX1 [(33, .aload_n 0, 1, 0, 0, 0), (34, .iload_n 1, 1, 0, 0, 0)] (pc' := 35) (lc' := [(0, (2, 1, b)), (1, (0, 0, x1))]) (st' := [(0, 0, x1), (2, 1, b)]) (M' := M8) (C' := True) (by decide +kernel) rfl trivial ?_
        refine ax_cVm_s hX (G1 := gX1_opensThing) (d1 := d + 4) (i := 53) (n := 1) (as := [(0, 0, x1)]) (st := []) (c := 1) (a := b) (by decide +kernel) ax_cls1 calX1_opensThing (by omega) rfl wt_225 wt_227 ws_5 (Nat.le_of_ble_eq_true rfl) rfl (c_X1_opensThing d b x1 M8) (fun y12 h_y12 hX => ?_)
        refine ax_lump ax_layC ok_kX1 [(38, .goto 8, 3, 46, 0, 0)] (pc' := 46) (lc' := [(0, (2, 1, b)), (1, (0, 0, x1))]) (st' := [(0, 0, y12.1)]) (M' := y12.2) (C' := True) (by decide +kernel) rfl trivial ?_
        exact ax_zret (by decide +kernel) rfl (by omega) ⟨rfl, rfl, (show (0 : Int) ≤ y12.1 from by omega), (show y12.1 ≤ (1 : Int) from by omega)⟩
    · refine ax_lump ax_layC ok_kX1 [(12, .aload_n 0, 1, 0, 0, 0), (13, .iload_n 1, 1, 0, 0, 0), (14, .bipush 48, 2, 0, 0, 0), (16, .isub, 1, 1, 0, 0)] (pc' := 17) (lc' := [(0, (2, 1, b)), (1, (0, 0, x1))]) (st' := [(0, 0, (x1 - 48)), (2, 1, b)]) (M' := M) (C' := (True ∧ ax_r32 (x1 - 48))) (by decide +kernel) rfl ⟨trivial, ⟨by omega, by omega⟩⟩ ?_
      refine ax_cVm_s hX (G1 := gX1_goesOnByDigit) (d1 := d + 1) (i := 49) (n := 1) (as := [(0, 0, (x1 - 48))]) (st := []) (c := 1) (a := b) (by decide +kernel) ax_cls1 calX1_goesOnByDigit (by omega) rfl wt_221 wt_223 ws_4 (Nat.le_of_ble_eq_true rfl) rfl (c_X1_goesOnByDigit d b (x1 - 48) M) (fun y13 h_y13 hX => ?_)
      exact ax_zret (by decide +kernel) rfl (by omega) ⟨rfl, rfl, (show (0 : Int) ≤ y13.1 from by omega), (show y13.1 ≤ (1 : Int) from by omega)⟩
def f_X1_read_B58 (b : Int) (n1 : Nat) (a1 : Nat) (w2 : Int) (i : Int)  (M : ax_M) (kc : ax_M → Prop × Int × ax_M) (kx : ax_M → Prop × Int × ax_M) : Prop × Int × ax_M := (if 40 ≤ i then kx M else (if (n1 : Int) ≤ i then kx M else ax_rq ((0 ≤ i ∧ i < ((n1 : Nat) : Int))) (ax_rc (f_X1_goesOnBy b (M a1 i.toNat) M) (fun y11 => (if y11.1 ≠ 0 then kc y11.2 else (True, (i, y11.2)))))))
def f_X1_read_L58 (b : Int) (n1 : Nat) (a1 : Nat) (w2 : Int) : Nat → Int → ax_M → (ax_M → Prop × Int × ax_M) → Prop × Int × ax_M
  | 0, i, M, kx => kx M
  | n + 1, i, M, kx => f_X1_read_B58 b n1 a1 w2 i  M (fun M9 => f_X1_read_L58 b n1 a1 w2 n (i + 1) M9 kx) kx
set_option maxRecDepth 100000 in
set_option maxHeartbeats 4000000 in
theorem wb_X1_read_B58 (d : Nat) (b : Int) (n1 : Nat) (a1 : Nat) (w2 : Int) (i : Int)  (M : ax_M) (kc : ax_M → Prop × Int × ax_M) (kx : ax_M → Prop × Int × ax_M) (hw_b : 0 ≤ b ∧ b ≤ 100000) (hw_n1 : 0 ≤ n1 ∧ n1 ≤ 100000) (hi : 0 ≤ i ∧ i < w2)  (hkc : ∀ (M9 : ax_M), (kc M9).1 → ax_W ax_LC gX1_read (d + 6) 58 [(0, (2, 1, b)), (1, (5, n1, (a1 : Int))), (2, (0, 0, w2)), (3, (0, 0, (i + 1)))] [] M9 ((ax_qm (-1) 40) (kc M9).2)) (hkx : ∀ (M9 : ax_M), (True) → (kx M9).1 → ax_W ax_LC gX1_read (d + 6) 93 [(0, (2, 1, b)), (2, (0, 0, w2))] [] M9 ((ax_qm (-1) 40) (kx M9).2)) (hX : (f_X1_read_B58 b n1 a1 w2 i  M kc kx).1) : ax_W ax_LC gX1_read (d + 6) 63 [(0, (2, 1, b)), (1, (5, n1, (a1 : Int))), (2, (0, 0, w2)), (3, (0, 0, i))] [] M ((ax_qm (-1) 40) (f_X1_read_B58 b n1 a1 w2 i  M kc kx).2) := by
  unfold f_X1_read_B58 at hX ⊢
  refine ax_lump ax_layC ok_kX1 [(63, .iload_n 3, 1, 0, 0, 0), (64, .bipush 40, 2, 0, 0, 0)] (pc' := 66) (lc' := [(0, (2, 1, b)), (1, (5, n1, (a1 : Int))), (2, (0, 0, w2)), (3, (0, 0, i))]) (st' := [(0, 0, 40), (0, 0, i)]) (M' := M) (C' := True) (by decide +kernel) rfl trivial ?_
  refine ax_jge_s hX (off := 27) (tgt := 93) (by decide +kernel) (by decide) (fun h8 hX => ?_) (fun h8 hX => ?_)
  · refine ax_pk [0,2] (lc' := [(0, (2, 1, b)), (2, (0, 0, w2))]) rfl ?_
    exact hkx M trivial hX
  · refine ax_lump ax_layC ok_kX1 [(69, .iload_n 3, 1, 0, 0, 0), (70, .aload_n 1, 1, 0, 0, 0), (71, .arraylength, 1, 0, 0, 0)] (pc' := 72) (lc' := [(0, (2, 1, b)), (1, (5, n1, (a1 : Int))), (2, (0, 0, w2)), (3, (0, 0, i))]) (st' := [(0, 0, (n1 : Int)), (0, 0, i)]) (M' := M) (C' := (True ∧ ((n1 : Nat) : Int) ≤ 2147483647)) (by decide +kernel) rfl ⟨trivial, by omega⟩ ?_
    refine ax_jge_s hX (off := 21) (tgt := 93) (by decide +kernel) (by decide) (fun h9 hX => ?_) (fun h9 hX => ?_)
    · refine ax_pk [0,2] (lc' := [(0, (2, 1, b)), (2, (0, 0, w2))]) rfl ?_
      exact hkx M trivial hX
    · refine ax_rq_s hX (fun hS10 hX => ?_)
      refine ax_lump ax_layC ok_kX1 [(75, .aload_n 0, 1, 0, 0, 0), (76, .aload_n 1, 1, 0, 0, 0), (77, .iload_n 3, 1, 0, 0, 0), (78, .caload, 1, 0, 0, 0)] (pc' := 79) (lc' := [(0, (2, 1, b)), (1, (5, n1, (a1 : Int))), (2, (0, 0, w2)), (3, (0, 0, i))]) (st' := [(0, 0, (M a1 i.toNat)), (2, 1, b)]) (M' := M) (C' := (True ∧ (0 ≤ i ∧ i < ((n1 : Nat) : Int)))) (by decide +kernel) rfl ⟨trivial, hS10⟩ ?_
      refine ax_cVm_r hX (G1 := gX1_goesOnBy) (d1 := d + 5) (i := 42) (n := 1) (as := [(0, 0, (M a1 i.toNat))]) (st := []) (c := 1) (a := b) (by decide +kernel) ax_cls1 calX1_goesOnBy (by omega) rfl wt_217 wt_219 ws_3 (Nat.le_of_ble_eq_true rfl) rfl (fun hY => c_X1_goesOnBy d b (M a1 i.toNat) M hY) (fun y11 h_y11 hX => ?_)
      refine ax_zne_s hX (off := 5) (tgt := 87) (by decide +kernel) (by decide) (fun h12 hX => ?_) (fun h12 hX => ?_)
      · refine ax_lump ax_layC ok_kX1 [(87, .iinc 3 1, 3, 1, 0, 0), (90, .goto (-32), 3, 58, 0, 0)] (pc' := 58) (lc' := [(3, (0, 0, (i + 1))), (0, (2, 1, b)), (1, (5, n1, (a1 : Int))), (2, (0, 0, w2))]) (st' := []) (M' := y11.2) (C' := (True ∧ ax_r32 (i + 1))) (by decide +kernel) rfl ⟨trivial, ⟨by omega, by omega⟩⟩ ?_
        refine ax_pk [1,2,3,0] (lc' := [(0, (2, 1, b)), (1, (5, n1, (a1 : Int))), (2, (0, 0, w2)), (3, (0, 0, (i + 1)))]) rfl ?_
        exact hkc y11.2  hX
      · refine ax_lump ax_layC ok_kX1 [(85, .iload_n 3, 1, 0, 0, 0)] (pc' := 86) (lc' := [(0, (2, 1, b)), (1, (5, n1, (a1 : Int))), (2, (0, 0, w2)), (3, (0, 0, i))]) (st' := [(0, 0, i)]) (M' := y11.2) (C' := True) (by decide +kernel) rfl trivial ?_
        exact ax_iret (by decide +kernel) rfl ⟨rfl, rfl, (show ((-1) : Int) ≤ i from by omega), (show i ≤ (40 : Int) from by omega)⟩
set_option maxRecDepth 100000 in
set_option maxHeartbeats 4000000 in
theorem w_X1_read_L58 (d : Nat) (b : Int) (n1 : Nat) (a1 : Nat) (w2 : Int) (kx : ax_M → Prop × Int × ax_M) (hw_b : 0 ≤ b ∧ b ≤ 100000) (hw_n1 : 0 ≤ n1 ∧ n1 ≤ 100000) (hkx : ∀ (M9 : ax_M), (True) → (kx M9).1 → ax_W ax_LC gX1_read (d + 6) 93 [(0, (2, 1, b)), (2, (0, 0, w2))] [] M9 ((ax_qm (-1) 40) (kx M9).2)) : ∀ (n : Nat) (i : Int) (M : ax_M), 0 ≤ i ∧ n = (w2 - i).toNat → (f_X1_read_L58 b n1 a1 w2 n i  M kx).1 → ax_W ax_LC gX1_read (d + 6) 58 [(0, (2, 1, b)), (1, (5, n1, (a1 : Int))), (2, (0, 0, w2)), (3, (0, 0, i))] [] M ((ax_qm (-1) 40) (f_X1_read_L58 b n1 a1 w2 n i  M kx).2) := by
  intro n
  induction n with
  | zero =>
    intro i M hin hX
    refine ax_lump ax_layC ok_kX1 [(58, .iload_n 3, 1, 0, 0, 0), (59, .iload_n 2, 1, 0, 0, 0)] (pc' := 60) (lc' := [(0, (2, 1, b)), (1, (5, n1, (a1 : Int))), (2, (0, 0, w2)), (3, (0, 0, i))]) (st' := [(0, 0, w2), (0, 0, i)]) (M' := M) (C' := True) (by decide +kernel) rfl trivial ?_
    refine ax_icmp_ge (off := 33) (tgt := 93) (by decide +kernel) (by decide) (fun h => ?_) (fun h => ?_)
    · refine ax_pk [0,2] (lc' := [(0, (2, 1, b)), (2, (0, 0, w2))]) rfl ?_
      exact hkx M trivial hX
    · exfalso; omega
  | succ n ih =>
    intro i M hin hX
    refine ax_lump ax_layC ok_kX1 [(58, .iload_n 3, 1, 0, 0, 0), (59, .iload_n 2, 1, 0, 0, 0)] (pc' := 60) (lc' := [(0, (2, 1, b)), (1, (5, n1, (a1 : Int))), (2, (0, 0, w2)), (3, (0, 0, i))]) (st' := [(0, 0, w2), (0, 0, i)]) (M' := M) (C' := True) (by decide +kernel) rfl trivial ?_
    refine ax_icmp_ge (off := 33) (tgt := 93) (by decide +kernel) (by decide) (fun h => ?_) (fun h => ?_)
    · exfalso; omega
    · exact wb_X1_read_B58 d b n1 a1 w2 i  M _ kx hw_b hw_n1 (by omega)  (fun M9 hX => ih (i + 1)  M9 (by omega)  hX) hkx hX
def f_X1_read (b : Int) (n1 : Nat) (a1 : Nat) (x2 : Int) (M : ax_M) : Prop × Int × ax_M := ax_bd (ax_up M b.toNat 1 0) (fun M1 => ax_bd (ax_up M1 b.toNat 3 0) (fun M2 => ax_bd (ax_up M2 b.toNat 5 0) (fun M3 => ax_bd (ax_up M3 b.toNat 6 0) (fun M4 => ax_bd (ax_up M4 b.toNat 7 0) (fun M5 => ax_bd (ax_up M5 b.toNat 4 1) (fun M6 => (if 1 ≤ x2 then f_X1_read_L58 b n1 a1 x2 (x2 - 0).toNat 0  M6 (fun M13 => (if x2 ≤ 40 then (if (M13 b.toNat 4) ≠ 0 then (True, (x2, M13)) else (if (M13 b.toNat 5) ≤ 0 then ax_rc (f_X1_unwind b 0 M13) (fun M19 => (True, ((-1), M19))) else (True, (x2, M13)))) else (True, (40, M13)))) else ax_bd (f_X1_emit b 1000 M6) (fun M20 => ax_bd (f_X1_emit b 4 M20) (fun M21 => ax_bd (f_X1_emit b 2062 M21) (fun M22 => (True, ((-1), M22))))))))))))
set_option maxRecDepth 100000 in
set_option maxHeartbeats 4000000 in
theorem c_X1_read (d : Nat) (b : Int) (n1 : Nat) (a1 : Nat) (x2 : Int) (M : ax_M) (hl_n1 : (n1 : Int) ≤ 100000) (hX : (f_X1_read b n1 a1 x2 M).1) : ax_Met ax_LC gX1_read (d + 6) [(2, 1, b), (5, n1, (a1 : Int)), (0, 0, x2)] M ((ax_qm (-1) 40) (f_X1_read b n1 a1 x2 M).2) := by
  refine ax_body (by decide) (fun X => Nat.le_of_ble_eq_true rfl) (fun hok => ?_)
  have hb0 : 0 ≤ b := (hok (2, 1, b) (by simp)).1
  have hb1 : b ≤ 100000 := by have h8 : b.toNat < ax_LC.length := ax_ltL (hok (2, 1, b) (by simp)).2; have h9 : ax_LC.length = 38 := rfl; rw [h9] at h8; omega
  have hr_x2 : (-2147483648) ≤ x2 ∧ x2 ≤ 2147483647 := hok (0, 0, x2) (by simp)
  show ax_W ax_LC gX1_read (d + 6) 0 [(0, (2, 1, b)), (1, (5, n1, (a1 : Int))), (2, (0, 0, x2))] [] M _
  unfold f_X1_read at hX ⊢
  refine ax_lump ax_layC ok_kX1 [(0, .aload_n 0, 1, 0, 0, 0), (1, .iconst 0, 1, 0, 0, 0), (2, .putfield 15, 3, 1, 1, 0)] (pc' := 5) (lc' := [(0, (2, 1, b)), (1, (5, n1, (a1 : Int))), (2, (0, 0, x2))]) (st' := []) (M' := (ax_up M b.toNat 1 0)) (C' := (True ∧ (0 ≤ 0 ∧ 0 < ((41 : Nat) : Int)))) (by decide +kernel) rfl ⟨trivial, by omega⟩ ?_
  refine ax_bdMe_s hX (fun M1 hM_M1 hX => ?_)
  refine ax_lump ax_layC ok_kX1 [(5, .aload_n 0, 1, 0, 0, 0), (6, .iconst 0, 1, 0, 0, 0), (7, .putfield 22, 3, 1, 3, 0)] (pc' := 10) (lc' := [(0, (2, 1, b)), (1, (5, n1, (a1 : Int))), (2, (0, 0, x2))]) (st' := []) (M' := (ax_up M1 b.toNat 3 0)) (C' := (True ∧ (0 ≤ 0 ∧ 0 < ((41 : Nat) : Int)))) (by decide +kernel) rfl ⟨trivial, by omega⟩ ?_
  refine ax_bdMe_s hX (fun M2 hM_M2 hX => ?_)
  refine ax_lump ax_layC ok_kX1 [(10, .aload_n 0, 1, 0, 0, 0), (11, .iconst 0, 1, 0, 0, 0), (12, .putfield 29, 3, 1, 5, 0)] (pc' := 15) (lc' := [(0, (2, 1, b)), (1, (5, n1, (a1 : Int))), (2, (0, 0, x2))]) (st' := []) (M' := (ax_up M2 b.toNat 5 0)) (C' := (True ∧ (0 ≤ 0 ∧ 0 < ((5 : Nat) : Int)))) (by decide +kernel) rfl ⟨trivial, by omega⟩ ?_
  refine ax_bdMe_s hX (fun M3 hM_M3 hX => ?_)
  refine ax_lump ax_layC ok_kX1 [(15, .aload_n 0, 1, 0, 0, 0), (16, .iconst 0, 1, 0, 0, 0), (17, .putfield 32, 3, 1, 6, 0)] (pc' := 20) (lc' := [(0, (2, 1, b)), (1, (5, n1, (a1 : Int))), (2, (0, 0, x2))]) (st' := []) (M' := (ax_up M3 b.toNat 6 0)) (C' := True) (by decide +kernel) rfl trivial ?_
  refine ax_bdMe_s hX (fun M4 hM_M4 hX => ?_)
  refine ax_lump ax_layC ok_kX1 [(20, .aload_n 0, 1, 0, 0, 0), (21, .iconst 0, 1, 0, 0, 0), (22, .putfield 35, 3, 1, 7, 0)] (pc' := 25) (lc' := [(0, (2, 1, b)), (1, (5, n1, (a1 : Int))), (2, (0, 0, x2))]) (st' := []) (M' := (ax_up M4 b.toNat 7 0)) (C' := (True ∧ (0 ≤ 0 ∧ 0 < ((4 : Nat) : Int)))) (by decide +kernel) rfl ⟨trivial, by omega⟩ ?_
  refine ax_bdMe_s hX (fun M5 hM_M5 hX => ?_)
  refine ax_lump ax_layC ok_kX1 [(25, .aload_n 0, 1, 0, 0, 0), (26, .iconst 1, 1, 0, 0, 0), (27, .putfield 25, 3, 1, 4, 0)] (pc' := 30) (lc' := [(0, (2, 1, b)), (1, (5, n1, (a1 : Int))), (2, (0, 0, x2))]) (st' := []) (M' := (ax_up M5 b.toNat 4 1)) (C' := (True ∧ (0 ≤ 1 ∧ 1 ≤ 1))) (by decide +kernel) rfl ⟨trivial, by omega⟩ ?_
  refine ax_bdMe_s hX (fun M6 hM_M6 hX => ?_)
  refine ax_lump ax_layC ok_kX1 [(30, .iload_n 2, 1, 0, 0, 0), (31, .iconst 1, 1, 0, 0, 0)] (pc' := 32) (lc' := [(0, (2, 1, b)), (1, (5, n1, (a1 : Int))), (2, (0, 0, x2))]) (st' := [(0, 0, 1), (0, 0, x2)]) (M' := M6) (C' := True) (by decide +kernel) rfl trivial ?_
  refine ax_jge_s hX (off := 24) (tgt := 56) (by decide +kernel) (by decide) (fun h7 hX => ?_) (fun h7 hX => ?_)
  · refine ax_lump ax_layC ok_kX1 [(56, .iconst 0, 1, 0, 0, 0), (57, .istore_n 3, 1, 0, 0, 0)] (pc' := 58) (lc' := [(3, (0, 0, 0)), (0, (2, 1, b)), (1, (5, n1, (a1 : Int))), (2, (0, 0, x2))]) (st' := []) (M' := M6) (C' := True) (by decide +kernel) rfl trivial ?_
    refine ax_pk [1,2,3,0] (lc' := [(0, (2, 1, b)), (1, (5, n1, (a1 : Int))), (2, (0, 0, x2)), (3, (0, 0, 0))]) rfl ?_
    refine w_X1_read_L58 d b n1 a1 x2 _ (by omega) (by omega) (fun M13 hx_13 hX => ?_) (x2 - 0).toNat 0  M6 (by omega)  hX
    refine ax_lump ax_layC ok_kX1 [(93, .iload_n 2, 1, 0, 0, 0), (94, .bipush 40, 2, 0, 0, 0)] (pc' := 96) (lc' := [(0, (2, 1, b)), (2, (0, 0, x2))]) (st' := [(0, 0, 40), (0, 0, x2)]) (M' := M13) (C' := True) (by decide +kernel) rfl trivial ?_
    refine ax_jle_s hX (off := 6) (tgt := 102) (by decide +kernel) (by decide) (fun h14 hX => ?_) (fun h14 hX => ?_)
    · refine ax_factZ (i := 0) (c := 1) (f := 4) (s := b) (by simp) rfl rfl (fun hf15 => ?_)
      have hf15 : 0 ≤ (M13 b.toNat 4) ∧ (M13 b.toNat 4) ≤ 1 := hf15
      refine ax_lump ax_layC ok_kX1 [(102, .aload_n 0, 1, 0, 0, 0), (103, .getfield 25, 3, 1, 4, 0)] (pc' := 106) (lc' := [(0, (2, 1, b)), (2, (0, 0, x2))]) (st' := [(0, 0, (M13 b.toNat 4))]) (M' := M13) (C' := True) (by decide +kernel) rfl trivial ?_
      refine ax_zne_s hX (off := 10) (tgt := 116) (by decide +kernel) (by decide) (fun h16 hX => ?_) (fun h16 hX => ?_)
      · refine ax_lump ax_layC ok_kX1 [(116, .iload_n 2, 1, 0, 0, 0)] (pc' := 117) (lc' := [(0, (2, 1, b)), (2, (0, 0, x2))]) (st' := [(0, 0, x2)]) (M' := M13) (C' := True) (by decide +kernel) rfl trivial ?_
        exact ax_iret (by decide +kernel) rfl ⟨rfl, rfl, (show ((-1) : Int) ≤ x2 from by omega), (show x2 ≤ (40 : Int) from by omega)⟩
      · refine ax_fact (i := 0) (c := 1) (f := 5) (hi := 4) (s := b) (by simp) rfl rfl rfl (fun hf17 => ?_)
        have hf17 : 0 ≤ (M13 b.toNat 5) ∧ (M13 b.toNat 5) ≤ 4 := hf17
        refine ax_lump ax_layC ok_kX1 [(109, .aload_n 0, 1, 0, 0, 0), (110, .getfield 29, 3, 1, 5, 0)] (pc' := 113) (lc' := [(0, (2, 1, b)), (2, (0, 0, x2))]) (st' := [(0, 0, (M13 b.toNat 5))]) (M' := M13) (C' := True) (by decide +kernel) rfl trivial ?_
        refine ax_zle_s hX (off := 5) (tgt := 118) (by decide +kernel) (by decide) (fun h18 hX => ?_) (fun h18 hX => ?_)
        · refine ax_lump ax_layC ok_kX1 [(118, .aload_n 0, 1, 0, 0, 0), (119, .iconst 0, 1, 0, 0, 0)] (pc' := 120) (lc' := [(0, (2, 1, b)), (2, (0, 0, x2))]) (st' := [(0, 0, 0), (2, 1, b)]) (M' := M13) (C' := True) (by decide +kernel) rfl trivial ?_
          refine ax_cVv_r hX (G1 := gX1_unwind) (d1 := d + 1) (i := 46) (n := 1) (as := [(0, 0, 0)]) (st := []) (c := 1) (a := b) (by decide +kernel) ax_cls1 calX1_unwind (by omega) rfl wt_324 wt_326 ws_8 (Nat.le_of_ble_eq_true rfl) rfl (fun hY => c_X1_unwind d b 0 M13 hY) (fun M19 hX => ?_)
          refine ax_lump ax_layC ok_kX1 [(123, .iconst (-1), 1, 0, 0, 0)] (pc' := 124) (lc' := [(0, (2, 1, b)), (2, (0, 0, x2))]) (st' := [(0, 0, (-1))]) (M' := M19) (C' := True) (by decide +kernel) rfl trivial ?_
          exact ax_iret (by decide +kernel) rfl ⟨rfl, rfl, (show ((-1) : Int) ≤ (-1) from by omega), (show (-1) ≤ (40 : Int) from by omega)⟩
        · refine ax_lump ax_layC ok_kX1 [(116, .iload_n 2, 1, 0, 0, 0)] (pc' := 117) (lc' := [(0, (2, 1, b)), (2, (0, 0, x2))]) (st' := [(0, 0, x2)]) (M' := M13) (C' := True) (by decide +kernel) rfl trivial ?_
          exact ax_iret (by decide +kernel) rfl ⟨rfl, rfl, (show ((-1) : Int) ≤ x2 from by omega), (show x2 ≤ (40 : Int) from by omega)⟩
    · refine ax_lump ax_layC ok_kX1 [(99, .bipush 40, 2, 0, 0, 0)] (pc' := 101) (lc' := [(0, (2, 1, b)), (2, (0, 0, x2))]) (st' := [(0, 0, 40)]) (M' := M13) (C' := True) (by decide +kernel) rfl trivial ?_
      exact ax_iret (by decide +kernel) rfl ⟨rfl, rfl, (show ((-1) : Int) ≤ 40 from by omega), (show 40 ≤ (40 : Int) from by omega)⟩
  · refine ax_lump ax_layC ok_kX1 [(35, .aload_n 0, 1, 0, 0, 0), (36, .sipush 1000, 3, 0, 0, 0)] (pc' := 39) (lc' := [(0, (2, 1, b)), (1, (5, n1, (a1 : Int))), (2, (0, 0, x2))]) (st' := [(0, 0, 1000), (2, 1, b)]) (M' := M6) (C' := True) (by decide +kernel) rfl trivial ?_
    refine ax_cVv_s hX (G1 := gX1_emit) (d1 := d + 0) (i := 38) (n := 1) (as := [(0, 0, 1000)]) (st := []) (c := 1) (a := b) (by decide +kernel) ax_cls1 calX1_emit (by omega) rfl wt_213 wt_215 ws_2 (Nat.le_of_ble_eq_true rfl) rfl (c_X1_emit d b 1000 M6) (fun M20 hX => ?_)
    refine ax_lump ax_layC ok_kX1 [(42, .aload_n 0, 1, 0, 0, 0), (43, .iconst 4, 1, 0, 0, 0)] (pc' := 44) (lc' := [(0, (2, 1, b)), (1, (5, n1, (a1 : Int))), (2, (0, 0, x2))]) (st' := [(0, 0, 4), (2, 1, b)]) (M' := M20) (C' := True) (by decide +kernel) rfl trivial ?_
    refine ax_cVv_s hX (G1 := gX1_emit) (d1 := d + 0) (i := 38) (n := 1) (as := [(0, 0, 4)]) (st := []) (c := 1) (a := b) (by decide +kernel) ax_cls1 calX1_emit (by omega) rfl wt_213 wt_215 ws_2 (Nat.le_of_ble_eq_true rfl) rfl (c_X1_emit d b 4 M20) (fun M21 hX => ?_)
    refine ax_lump ax_layC ok_kX1 [(47, .aload_n 0, 1, 0, 0, 0), (48, .sipush 2062, 3, 0, 0, 0)] (pc' := 51) (lc' := [(0, (2, 1, b)), (1, (5, n1, (a1 : Int))), (2, (0, 0, x2))]) (st' := [(0, 0, 2062), (2, 1, b)]) (M' := M21) (C' := True) (by decide +kernel) rfl trivial ?_
    refine ax_cVv_s hX (G1 := gX1_emit) (d1 := d + 0) (i := 38) (n := 1) (as := [(0, 0, 2062)]) (st := []) (c := 1) (a := b) (by decide +kernel) ax_cls1 calX1_emit (by omega) rfl wt_213 wt_215 ws_2 (Nat.le_of_ble_eq_true rfl) rfl (c_X1_emit d b 2062 M21) (fun M22 hX => ?_)
    refine ax_lump ax_layC ok_kX1 [(54, .iconst (-1), 1, 0, 0, 0)] (pc' := 55) (lc' := [(0, (2, 1, b)), (1, (5, n1, (a1 : Int))), (2, (0, 0, x2))]) (st' := [(0, 0, (-1))]) (M' := M22) (C' := True) (by decide +kernel) rfl trivial ?_
    exact ax_iret (by decide +kernel) rfl ⟨rfl, rfl, (show ((-1) : Int) ≤ (-1) from by omega), (show (-1) ≤ (40 : Int) from by omega)⟩
def f_X2_readOtherRule  (M : ax_M) : Prop × Int × ax_M := ax_bd (M 0 10) (fun y2 => ax_bd (ax_up M 0 10 0) (fun M3 => ax_rc (f_X1_read (M3 0 8) 80 34 y2 M3) (fun y5 => (True, (y5.1, y5.2)))))
set_option maxRecDepth 100000 in
set_option maxHeartbeats 4000000 in
theorem c_X2_readOtherRule (d : Nat)  (M : ax_M)  (hX : (f_X2_readOtherRule  M).1) : ax_Met ax_LC gX2_readOtherRule (d + 7) [(2, 2, 0)] M ((ax_qm (-1) 40) (f_X2_readOtherRule  M).2) := by
  refine ax_body (by decide) (fun X => Nat.le_of_ble_eq_true rfl) (fun hok => ?_)
  show ax_W ax_LC gX2_readOtherRule (d + 7) 0 [(0, (2, 2, 0))] [] M _
  unfold f_X2_readOtherRule at hX ⊢
  refine ax_fact (i := 0) (c := 2) (f := 10) (hi := 80) (s := 0) (by simp) rfl rfl rfl (fun hf1 => ?_)
  have hf1 : 0 ≤ (M 0 10) ∧ (M 0 10) ≤ 80 := hf1
  refine ax_lump ax_layC ok_kX2 [(0, .aload_n 0, 1, 0, 0, 0), (1, .getfield 51, 3, 2, 10, 0), (4, .istore_n 1, 1, 0, 0, 0)] (pc' := 5) (lc' := [(1, (0, 0, (M 0 10))), (0, (2, 2, 0))]) (st' := []) (M' := M) (C' := True) (by decide +kernel) rfl trivial ?_
  refine ax_bdI_s hX (lo := 0) (hi := 80) (e := (M 0 10)) (fun y2 => [(1, (0, 0, y2)), (0, (2, 2, 0))]) (fun y2 => []) (by omega) (fun y2 h_y2 hX => ?_)
  refine ax_lump ax_layC ok_kX2 [(5, .aload_n 0, 1, 0, 0, 0), (6, .iconst 0, 1, 0, 0, 0), (7, .putfield 51, 3, 2, 10, 0)] (pc' := 10) (lc' := [(1, (0, 0, y2)), (0, (2, 2, 0))]) (st' := []) (M' := (ax_up M 0 10 0)) (C' := (True ∧ (0 ≤ 0 ∧ 0 < ((81 : Nat) : Int)))) (by decide +kernel) rfl ⟨trivial, by omega⟩ ?_
  refine ax_bdMe_s hX (fun M3 hM_M3 hX => ?_)
  have hk_k4 : (M3 0 10) = 0 := by rw [hM_M3]; exact ax_up_s
  refine ax_lump ax_layC ok_kX2 [(10, .aload_n 0, 1, 0, 0, 0), (11, .getfield 44, 3, 2, 8, 0), (14, .aload_n 0, 1, 0, 0, 0), (15, .getfield 47, 3, 2, 9, 0), (18, .iload_n 1, 1, 0, 0, 0)] (pc' := 19) (lc' := [(1, (0, 0, y2)), (0, (2, 2, 0))]) (st' := [(0, 0, y2), (5, 80, 34), (2, 1, (M3 0 8))]) (M' := M3) (C' := True) (by decide +kernel) rfl trivial ?_
  refine ax_cNm_r hX (G1 := gX1_read) (d1 := d + 6) (i := 316) (n := 2) (as := [(5, 80, 34), (0, 0, y2)]) (st := []) (c := 1) (a := (M3 0 8)) (by decide +kernel) ax_cls1 calX1_read (by omega) rfl wn_209 wt_211 ws_1 (Nat.le_of_ble_eq_true rfl) rfl (fun hY => c_X1_read d (M3 0 8) 80 34 y2 M3 (by omega) hY) (fun y5 h_y5 hX => ?_)
  exact ax_iret (by decide +kernel) rfl ⟨rfl, rfl, (show ((-1) : Int) ≤ y5.1 from by omega), (show y5.1 ≤ (40 : Int) from by omega)⟩
def f_X2_rule  (M : ax_M) : Prop × Int × ax_M := ax_rc (f_X2_readOtherRule M) (fun y1 => (if y1.1 = (-1) then ax_bd (ax_up y1.2 0 7 (y1.2 0 8)) (fun M3 => ax_bd (ax_up M3 0 8 (y1.2 0 7)) (fun M4 => (True, (0, M4)))) else (True, (((-1) - y1.1), y1.2))))
set_option maxRecDepth 100000 in
set_option maxHeartbeats 4000000 in
theorem c_X2_rule (d : Nat)  (M : ax_M)  (hX : (f_X2_rule  M).1) : ax_Met ax_LC gX2_rule (d + 8) [(2, 2, 0)] M ((ax_qm (-41) 0) (f_X2_rule  M).2) := by
  refine ax_body (by decide) (fun X => Nat.le_of_ble_eq_true rfl) (fun hok => ?_)
  show ax_W ax_LC gX2_rule (d + 8) 0 [(0, (2, 2, 0))] [] M _
  unfold f_X2_rule at hX ⊢
  refine ax_lump ax_layC ok_kX2 [(0, .aload_n 0, 1, 0, 0, 0)] (pc' := 1) (lc' := [(0, (2, 2, 0))]) (st' := [(2, 2, 0)]) (M' := M) (C' := True) (by decide +kernel) rfl trivial ?_
  refine ax_cVm_r hX (G1 := gX2_readOtherRule) (d1 := d + 7) (i := 73) (n := 0) (as := []) (st := []) (c := 2) (a := 0) (by decide +kernel) ax_cls2 calX2_readOtherRule (by omega) rfl wt_205 wt_207 ws_0 (Nat.le_of_ble_eq_true rfl) rfl (fun hY => c_X2_readOtherRule d  M hY) (fun y1 h_y1 hX => ?_)
  refine ax_lump ax_layC ok_kX2 [(4, .istore_n 1, 1, 0, 0, 0), (5, .iload_n 1, 1, 0, 0, 0), (6, .iconst (-1), 1, 0, 0, 0)] (pc' := 7) (lc' := [(1, (0, 0, y1.1)), (0, (2, 2, 0))]) (st' := [(0, 0, (-1)), (0, 0, y1.1)]) (M' := y1.2) (C' := True) (by decide +kernel) rfl trivial ?_
  refine ax_jeq_s hX (off := 7) (tgt := 14) (by decide +kernel) (by decide) (fun h2 hX => ?_) (fun h2 hX => ?_)
  · refine ax_lump ax_layC ok_kX2 [(14, .aload_n 0, 1, 0, 0, 0), (15, .getfield 40, 3, 2, 7, 0), (18, .astore_n 2, 1, 0, 0, 0), (19, .aload_n 0, 1, 0, 0, 0), (20, .aload_n 0, 1, 0, 0, 0), (21, .getfield 44, 3, 2, 8, 0), (24, .putfield 40, 3, 2, 7, 0)] (pc' := 27) (lc' := [(2, (2, 1, (y1.2 0 7))), (1, (0, 0, y1.1)), (0, (2, 2, 0))]) (st' := []) (M' := (ax_up y1.2 0 7 (y1.2 0 8))) (C' := True) (by decide +kernel) rfl trivial ?_
    refine ax_bdMe_s hX (fun M3 hM_M3 hX => ?_)
    refine ax_lump ax_layC ok_kX2 [(27, .aload_n 0, 1, 0, 0, 0), (28, .aload_n 2, 1, 0, 0, 0), (29, .putfield 44, 3, 2, 8, 0)] (pc' := 32) (lc' := [(2, (2, 1, (y1.2 0 7))), (1, (0, 0, y1.1)), (0, (2, 2, 0))]) (st' := []) (M' := (ax_up M3 0 8 (y1.2 0 7))) (C' := True) (by decide +kernel) rfl trivial ?_
    refine ax_bdMe_s hX (fun M4 hM_M4 hX => ?_)
    refine ax_lump ax_layC ok_kX2 [(32, .iconst 0, 1, 0, 0, 0)] (pc' := 33) (lc' := [(2, (2, 1, (y1.2 0 7))), (1, (0, 0, y1.1)), (0, (2, 2, 0))]) (st' := [(0, 0, 0)]) (M' := M4) (C' := True) (by decide +kernel) rfl trivial ?_
    exact ax_iret (by decide +kernel) rfl ⟨rfl, rfl, (show ((-41) : Int) ≤ 0 from by omega), (show 0 ≤ (0 : Int) from by omega)⟩
  · refine ax_lump ax_layC ok_kX2 [(10, .iconst (-1), 1, 0, 0, 0), (11, .iload_n 1, 1, 0, 0, 0), (12, .isub, 1, 1, 0, 0)] (pc' := 13) (lc' := [(1, (0, 0, y1.1)), (0, (2, 2, 0))]) (st' := [(0, 0, ((-1) - y1.1))]) (M' := y1.2) (C' := (True ∧ ax_r32 ((-1) - y1.1))) (by decide +kernel) rfl ⟨trivial, ⟨by omega, by omega⟩⟩ ?_
    exact ax_iret (by decide +kernel) rfl ⟨rfl, rfl, (show ((-41) : Int) ≤ ((-1) - y1.1) from by omega), (show ((-1) - y1.1) ≤ (0 : Int) from by omega)⟩
def f_X2_law (x1 : Int) (M : ax_M) : Prop × Int × ax_M := ax_rc (f_X2_readOtherRule M) (fun y1 => (if y1.1 = (-1) then ax_bd (f_X2_begin y1.2) (fun M3 => ax_rc (f_X2_tryYears x1 40 (M3 0 8) M3) (fun M4 => ax_bd (f_X0_wear 13 M4) (fun y6 => ax_bd (f_X0_since 13 2 M4) (fun y8 => ax_rc (f_X2_tryYears x1 40 (M4 0 7) M4) (fun M9 => ax_bd (f_X0_wear 13 M9) (fun y11 => ax_bd (f_X2_tellAnew M9) (fun M12 => ax_bd (f_X2_tell y6 M12) (fun M13 => ax_bd (f_X2_tell y11 M13) (fun M14 => ax_bd (f_X2_tell y8 M14) (fun M15 => ax_bd (f_X2_tell (f_X0_since 13 2 M15) M15) (fun M17 => (True, ((ax_wr (y6 - y11)), M17))))))))))))) else (True, (((-10000) - y1.1), y1.2))))
set_option maxRecDepth 100000 in
set_option maxHeartbeats 4000000 in
theorem c_X2_law (d : Nat) (x1 : Int) (M : ax_M)  (hX : (f_X2_law x1 M).1) : ax_Met ax_LC gX2_law (d + 8) [(2, 2, 0), (0, 0, x1)] M ((ax_qm (-2147483648) 2147483647) (f_X2_law x1 M).2) := by
  refine ax_body (by decide) (fun X => Nat.le_of_ble_eq_true rfl) (fun hok => ?_)
  have hr_x1 : (-2147483648) ≤ x1 ∧ x1 ≤ 2147483647 := hok (0, 0, x1) (by simp)
  show ax_W ax_LC gX2_law (d + 8) 0 [(0, (2, 2, 0)), (1, (0, 0, x1))] [] M _
  unfold f_X2_law at hX ⊢
  refine ax_lump ax_layC ok_kX2 [(0, .aload_n 0, 1, 0, 0, 0)] (pc' := 1) (lc' := [(0, (2, 2, 0)), (1, (0, 0, x1))]) (st' := [(2, 2, 0)]) (M' := M) (C' := True) (by decide +kernel) rfl trivial ?_
  refine ax_cVm_r hX (G1 := gX2_readOtherRule) (d1 := d + 7) (i := 73) (n := 0) (as := []) (st := []) (c := 2) (a := 0) (by decide +kernel) ax_cls2 calX2_readOtherRule (by omega) rfl wt_205 wt_207 ws_0 (Nat.le_of_ble_eq_true rfl) rfl (fun hY => c_X2_readOtherRule d  M hY) (fun y1 h_y1 hX => ?_)
  refine ax_lump ax_layC ok_kX2 [(4, .istore_n 2, 1, 0, 0, 0), (5, .iload_n 2, 1, 0, 0, 0), (6, .iconst (-1), 1, 0, 0, 0)] (pc' := 7) (lc' := [(2, (0, 0, y1.1)), (0, (2, 2, 0)), (1, (0, 0, x1))]) (st' := [(0, 0, (-1)), (0, 0, y1.1)]) (M' := y1.2) (C' := True) (by decide +kernel) rfl trivial ?_
  refine ax_jeq_s hX (off := 9) (tgt := 16) (by decide +kernel) (by decide) (fun h2 hX => ?_) (fun h2 hX => ?_)
  · refine ax_lump ax_layC ok_kX2 [(16, .aload_n 0, 1, 0, 0, 0)] (pc' := 17) (lc' := [(2, (0, 0, y1.1)), (0, (2, 2, 0)), (1, (0, 0, x1))]) (st' := [(2, 2, 0)]) (M' := y1.2) (C' := True) (by decide +kernel) rfl trivial ?_
    refine ax_cVv_s hX (G1 := gX2_begin) (d1 := d + 4) (i := 142) (n := 0) (as := []) (st := []) (c := 2) (a := 0) (by decide +kernel) ax_cls2 calX2_begin (by omega) rfl wt_351 wt_353 ws_10 (Nat.le_of_ble_eq_true rfl) rfl (c_X2_begin d  y1.2) (fun M3 hX => ?_)
    refine ax_lump ax_layC ok_kX2 [(20, .aload_n 0, 1, 0, 0, 0), (21, .iload_n 1, 1, 0, 0, 0), (22, .bipush 40, 2, 0, 0, 0), (24, .aload_n 0, 1, 0, 0, 0), (25, .getfield 44, 3, 2, 8, 0)] (pc' := 28) (lc' := [(2, (0, 0, y1.1)), (0, (2, 2, 0)), (1, (0, 0, x1))]) (st' := [(2, 1, (M3 0 8)), (0, 0, 40), (0, 0, x1), (2, 2, 0)]) (M' := M3) (C' := True) (by decide +kernel) rfl trivial ?_
    refine ax_cVv_r hX (G1 := gX2_tryYears) (d1 := d + 6) (i := 298) (n := 3) (as := [(0, 0, x1), (0, 0, 40), (2, 1, (M3 0 8))]) (st := []) (c := 2) (a := 0) (by decide +kernel) ax_cls2 calX2_tryYears (by omega) rfl wt_736 wt_738 ws_65 (Nat.le_of_ble_eq_true rfl) rfl (fun hY => c_X2_tryYears d x1 40 (M3 0 8) M3 (by omega) hY) (fun M4 hX => ?_)
    refine ax_lump ax_layC ok_kX2 [(31, .aload_n 0, 1, 0, 0, 0), (32, .getfield 16, 3, 2, 1, 0)] (pc' := 35) (lc' := [(2, (0, 0, y1.1)), (0, (2, 2, 0)), (1, (0, 0, x1))]) (st' := [(2, 0, 13)]) (M' := M4) (C' := True) (by decide +kernel) rfl trivial ?_
    refine ax_cNi (G1 := gX0_wear) (d1 := d + 1) (i := 261) (n := 0) (as := []) (st := []) (c := 0) (a := 13) (by decide +kernel) ax_cls0 calX0_wear (by omega) rfl wn_664 wt_480 ws_38 (Nat.le_of_ble_eq_true rfl) rfl (c_X0_wear d 13 M4) (fun hc5 => ?_)
    refine ax_lump ax_layC ok_kX2 [(38, .istore_n 3, 1, 0, 0, 0)] (pc' := 39) (lc' := [(3, (0, 0, (f_X0_wear 13 M4))), (2, (0, 0, y1.1)), (0, (2, 2, 0)), (1, (0, 0, x1))]) (st' := []) (M' := M4) (C' := True) (by decide +kernel) rfl trivial ?_
    refine ax_bdI0_s hX (e := (f_X0_wear 13 M4)) (fun y6 => [(3, (0, 0, y6)), (2, (0, 0, y1.1)), (0, (2, 2, 0)), (1, (0, 0, x1))]) (fun y6 => []) (fun y6 hX => ?_)
    refine ax_lump ax_layC ok_kX2 [(39, .aload_n 0, 1, 0, 0, 0), (40, .getfield 16, 3, 2, 1, 0), (43, .iconst 2, 1, 0, 0, 0)] (pc' := 44) (lc' := [(3, (0, 0, y6)), (2, (0, 0, y1.1)), (0, (2, 2, 0)), (1, (0, 0, x1))]) (st' := [(0, 0, 2), (2, 0, 13)]) (M' := M4) (C' := True) (by decide +kernel) rfl trivial ?_
    refine ax_cNi (G1 := gX0_since) (d1 := d + 0) (i := 252) (n := 1) (as := [(0, 0, 2)]) (st := []) (c := 0) (a := 13) (by decide +kernel) ax_cls0 calX0_since (by omega) rfl wn_529 wt_531 ws_50 (Nat.le_of_ble_eq_true rfl) rfl (c_X0_since d 13 2 M4) (fun hc7 => ?_)
    refine ax_lump ax_layC ok_kX2 [(47, .istore 4, 2, 0, 0, 0)] (pc' := 49) (lc' := [(4, (0, 0, (f_X0_since 13 2 M4))), (3, (0, 0, y6)), (2, (0, 0, y1.1)), (0, (2, 2, 0)), (1, (0, 0, x1))]) (st' := []) (M' := M4) (C' := True) (by decide +kernel) rfl trivial ?_
    refine ax_bdI0_s hX (e := (f_X0_since 13 2 M4)) (fun y8 => [(4, (0, 0, y8)), (3, (0, 0, y6)), (2, (0, 0, y1.1)), (0, (2, 2, 0)), (1, (0, 0, x1))]) (fun y8 => []) (fun y8 hX => ?_)
    refine ax_lump ax_layC ok_kX2 [(49, .aload_n 0, 1, 0, 0, 0), (50, .iload_n 1, 1, 0, 0, 0), (51, .bipush 40, 2, 0, 0, 0), (53, .aload_n 0, 1, 0, 0, 0), (54, .getfield 40, 3, 2, 7, 0)] (pc' := 57) (lc' := [(4, (0, 0, y8)), (3, (0, 0, y6)), (2, (0, 0, y1.1)), (0, (2, 2, 0)), (1, (0, 0, x1))]) (st' := [(2, 1, (M4 0 7)), (0, 0, 40), (0, 0, x1), (2, 2, 0)]) (M' := M4) (C' := True) (by decide +kernel) rfl trivial ?_
    refine ax_cVv_r hX (G1 := gX2_tryYears) (d1 := d + 6) (i := 298) (n := 3) (as := [(0, 0, x1), (0, 0, 40), (2, 1, (M4 0 7))]) (st := []) (c := 2) (a := 0) (by decide +kernel) ax_cls2 calX2_tryYears (by omega) rfl wt_736 wt_738 ws_65 (Nat.le_of_ble_eq_true rfl) rfl (fun hY => c_X2_tryYears d x1 40 (M4 0 7) M4 (by omega) hY) (fun M9 hX => ?_)
    refine ax_lump ax_layC ok_kX2 [(60, .aload_n 0, 1, 0, 0, 0), (61, .getfield 16, 3, 2, 1, 0)] (pc' := 64) (lc' := [(4, (0, 0, y8)), (3, (0, 0, y6)), (2, (0, 0, y1.1)), (0, (2, 2, 0)), (1, (0, 0, x1))]) (st' := [(2, 0, 13)]) (M' := M9) (C' := True) (by decide +kernel) rfl trivial ?_
    refine ax_cNi (G1 := gX0_wear) (d1 := d + 1) (i := 261) (n := 0) (as := []) (st := []) (c := 0) (a := 13) (by decide +kernel) ax_cls0 calX0_wear (by omega) rfl wn_664 wt_480 ws_38 (Nat.le_of_ble_eq_true rfl) rfl (c_X0_wear d 13 M9) (fun hc10 => ?_)
    refine ax_lump ax_layC ok_kX2 [(67, .istore 5, 2, 0, 0, 0)] (pc' := 69) (lc' := [(5, (0, 0, (f_X0_wear 13 M9))), (4, (0, 0, y8)), (3, (0, 0, y6)), (2, (0, 0, y1.1)), (0, (2, 2, 0)), (1, (0, 0, x1))]) (st' := []) (M' := M9) (C' := True) (by decide +kernel) rfl trivial ?_
    refine ax_bdI0_s hX (e := (f_X0_wear 13 M9)) (fun y11 => [(5, (0, 0, y11)), (4, (0, 0, y8)), (3, (0, 0, y6)), (2, (0, 0, y1.1)), (0, (2, 2, 0)), (1, (0, 0, x1))]) (fun y11 => []) (fun y11 hX => ?_)
    refine ax_lump ax_layC ok_kX2 [(69, .aload_n 0, 1, 0, 0, 0)] (pc' := 70) (lc' := [(5, (0, 0, y11)), (4, (0, 0, y8)), (3, (0, 0, y6)), (2, (0, 0, y1.1)), (0, (2, 2, 0)), (1, (0, 0, x1))]) (st' := [(2, 2, 0)]) (M' := M9) (C' := True) (by decide +kernel) rfl trivial ?_
    refine ax_cVv_s hX (G1 := gX2_tellAnew) (d1 := d + 0) (i := 168) (n := 0) (as := []) (st := []) (c := 2) (a := 0) (by decide +kernel) ax_cls2 calX2_tellAnew (by omega) rfl wt_517 wt_519 ws_47 (Nat.le_of_ble_eq_true rfl) rfl (c_X2_tellAnew d  M9) (fun M12 hX => ?_)
    refine ax_lump ax_layC ok_kX2 [(73, .aload_n 0, 1, 0, 0, 0), (74, .iload_n 3, 1, 0, 0, 0), (75, .i2l, 1, 0, 0, 0)] (pc' := 76) (lc' := [(5, (0, 0, y11)), (4, (0, 0, y8)), (3, (0, 0, y6)), (2, (0, 0, y1.1)), (0, (2, 2, 0)), (1, (0, 0, x1))]) (st' := [(1, 0, y6), (2, 2, 0)]) (M' := M12) (C' := True) (by decide +kernel) rfl trivial ?_
    refine ax_cVv_s hX (G1 := gX2_tell) (d1 := d + 0) (i := 155) (n := 1) (as := [(1, 0, y6)]) (st := []) (c := 2) (a := 0) (by decide +kernel) ax_cls2 calX2_tell (by omega) rfl wt_521 wt_523 ws_48 (Nat.le_of_ble_eq_true rfl) rfl (c_X2_tell d y6 M12) (fun M13 hX => ?_)
    refine ax_lump ax_layC ok_kX2 [(79, .aload_n 0, 1, 0, 0, 0), (80, .iload 5, 2, 0, 0, 0), (82, .i2l, 1, 0, 0, 0)] (pc' := 83) (lc' := [(5, (0, 0, y11)), (4, (0, 0, y8)), (3, (0, 0, y6)), (2, (0, 0, y1.1)), (0, (2, 2, 0)), (1, (0, 0, x1))]) (st' := [(1, 0, y11), (2, 2, 0)]) (M' := M13) (C' := True) (by decide +kernel) rfl trivial ?_
    refine ax_cVv_s hX (G1 := gX2_tell) (d1 := d + 0) (i := 155) (n := 1) (as := [(1, 0, y11)]) (st := []) (c := 2) (a := 0) (by decide +kernel) ax_cls2 calX2_tell (by omega) rfl wt_521 wt_523 ws_48 (Nat.le_of_ble_eq_true rfl) rfl (c_X2_tell d y11 M13) (fun M14 hX => ?_)
    refine ax_lump ax_layC ok_kX2 [(86, .aload_n 0, 1, 0, 0, 0), (87, .iload 4, 2, 0, 0, 0), (89, .i2l, 1, 0, 0, 0)] (pc' := 90) (lc' := [(5, (0, 0, y11)), (4, (0, 0, y8)), (3, (0, 0, y6)), (2, (0, 0, y1.1)), (0, (2, 2, 0)), (1, (0, 0, x1))]) (st' := [(1, 0, y8), (2, 2, 0)]) (M' := M14) (C' := True) (by decide +kernel) rfl trivial ?_
    refine ax_cVv_s hX (G1 := gX2_tell) (d1 := d + 0) (i := 155) (n := 1) (as := [(1, 0, y8)]) (st := []) (c := 2) (a := 0) (by decide +kernel) ax_cls2 calX2_tell (by omega) rfl wt_521 wt_523 ws_48 (Nat.le_of_ble_eq_true rfl) rfl (c_X2_tell d y8 M14) (fun M15 hX => ?_)
    refine ax_lump ax_layC ok_kX2 [(93, .aload_n 0, 1, 0, 0, 0), (94, .aload_n 0, 1, 0, 0, 0), (95, .getfield 16, 3, 2, 1, 0), (98, .iconst 2, 1, 0, 0, 0)] (pc' := 99) (lc' := [(5, (0, 0, y11)), (4, (0, 0, y8)), (3, (0, 0, y6)), (2, (0, 0, y1.1)), (0, (2, 2, 0)), (1, (0, 0, x1))]) (st' := [(0, 0, 2), (2, 0, 13), (2, 2, 0)]) (M' := M15) (C' := True) (by decide +kernel) rfl trivial ?_
    refine ax_cNi (G1 := gX0_since) (d1 := d + 0) (i := 252) (n := 1) (as := [(0, 0, 2)]) (st := [(2, 2, 0)]) (c := 0) (a := 13) (by decide +kernel) ax_cls0 calX0_since (by omega) rfl wn_529 wt_531 ws_50 (Nat.le_of_ble_eq_true rfl) rfl (c_X0_since d 13 2 M15) (fun hc16 => ?_)
    refine ax_lump ax_layC ok_kX2 [(102, .i2l, 1, 0, 0, 0)] (pc' := 103) (lc' := [(5, (0, 0, y11)), (4, (0, 0, y8)), (3, (0, 0, y6)), (2, (0, 0, y1.1)), (0, (2, 2, 0)), (1, (0, 0, x1))]) (st' := [(1, 0, (f_X0_since 13 2 M15)), (2, 2, 0)]) (M' := M15) (C' := True) (by decide +kernel) rfl trivial ?_
    refine ax_cVv_s hX (G1 := gX2_tell) (d1 := d + 0) (i := 155) (n := 1) (as := [(1, 0, (f_X0_since 13 2 M15))]) (st := []) (c := 2) (a := 0) (by decide +kernel) ax_cls2 calX2_tell (by omega) rfl wt_521 wt_523 ws_48 (Nat.le_of_ble_eq_true rfl) rfl (c_X2_tell d (f_X0_since 13 2 M15) M15) (fun M17 hX => ?_)
    refine ax_lump ax_layC ok_kX2 [(106, .iload_n 3, 1, 0, 0, 0), (107, .iload 5, 2, 0, 0, 0), (109, .isub, 1, 0, 0, 0)] (pc' := 110) (lc' := [(5, (0, 0, y11)), (4, (0, 0, y8)), (3, (0, 0, y6)), (2, (0, 0, y1.1)), (0, (2, 2, 0)), (1, (0, 0, x1))]) (st' := [(0, 0, (ax_wr (y6 - y11)))]) (M' := M17) (C' := True) (by decide +kernel) rfl trivial ?_
    refine ax_rngS (fun hr => ?_)
    exact ax_iret (by decide +kernel) rfl ⟨rfl, rfl, hr.1, hr.2⟩
  · refine ax_lump ax_layC ok_kX2 [(10, .sipush (-10000), 3, 0, 0, 0), (13, .iload_n 2, 1, 0, 0, 0), (14, .isub, 1, 1, 0, 0)] (pc' := 15) (lc' := [(2, (0, 0, y1.1)), (0, (2, 2, 0)), (1, (0, 0, x1))]) (st' := [(0, 0, ((-10000) - y1.1))]) (M' := y1.2) (C' := (True ∧ ax_r32 ((-10000) - y1.1))) (by decide +kernel) rfl ⟨trivial, ⟨by omega, by omega⟩⟩ ?_
    refine ax_rngS (fun hr => ?_)
    exact ax_iret (by decide +kernel) rfl ⟨rfl, rfl, hr.1, hr.2⟩
def f_X3_swells  (M : ax_M) : Prop × Int × ax_M := ax_bd (ax_up M 0 0 0) (fun M1 => (if (M1 7 264) ≠ 0 then ax_rc (f_X3_common (ax_wr ((M1 7 264) + (M1 7 265))) (M1 7 264) M1) (fun y3 => ax_bd (ax_up M1 0 1 0) (fun M4 => ax_rq (y3 ≠ 0) (ax_rc (f_X3_enters (ax_ldiv (ax_wr ((M1 7 264) + (M1 7 265))) y3) M4) (fun M6 => ax_rq (y3 ≠ 0) (ax_rc (f_X3_enters (ax_ldiv (M6 7 264) y3) M6) (fun M8 => (True, (0, M8)))))))) else (True, ((-2), M1))))
set_option maxRecDepth 100000 in
set_option maxHeartbeats 4000000 in
theorem c_X3_swells (d : Nat)  (M : ax_M)  (hX : (f_X3_swells  M).1) : ax_Met ax_LM gX3_swells (d + 61) [(2, 3, 0)] M ((ax_qm (-2) 0) (f_X3_swells  M).2) := by
  refine ax_body (by decide) (fun X => Nat.le_of_ble_eq_true rfl) (fun hok => ?_)
  show ax_W ax_LM gX3_swells (d + 61) 0 [(0, (2, 3, 0))] [] M _
  unfold f_X3_swells at hX ⊢
  refine ax_lump ax_layM ok_kX3 [(0, .aload_n 0, 1, 0, 0, 0), (1, .iconst 0, 1, 0, 0, 0), (2, .putfield 3, 3, 3, 0, 0)] (pc' := 5) (lc' := [(0, (2, 3, 0))]) (st' := []) (M' := (ax_up M 0 0 0)) (C' := (True ∧ (0 ≤ 0 ∧ 0 < ((2 : Nat) : Int)))) (by decide +kernel) rfl ⟨trivial, by omega⟩ ?_
  refine ax_bdMe_s hX (fun M1 hM_M1 hX => ?_)
  refine ax_lump ax_layM ok_kX3 [(5, .aload_n 0, 1, 0, 0, 0), (6, .getfield 138, 3, 3, 14, 0), (9, .sipush 264, 3, 0, 0, 0), (12, .iaload, 1, 0, 0, 0)] (pc' := 13) (lc' := [(0, (2, 3, 0))]) (st' := [(0, 0, (M1 7 264))]) (M' := M1) (C' := (True ∧ (0 ≤ 264 ∧ 264 < ((274 : Nat) : Int)))) (by decide +kernel) rfl ⟨trivial, by omega⟩ ?_
  refine ax_zne_s hX (off := 6) (tgt := 19) (by decide +kernel) (by decide) (fun h2 hX => ?_) (fun h2 hX => ?_)
  · refine ax_lump ax_layM ok_kX3 [(19, .aload_n 0, 1, 0, 0, 0), (20, .getfield 138, 3, 3, 14, 0), (23, .sipush 264, 3, 0, 0, 0), (26, .iaload, 1, 0, 0, 0), (27, .aload_n 0, 1, 0, 0, 0), (28, .getfield 138, 3, 3, 14, 0), (31, .sipush 265, 3, 0, 0, 0), (34, .iaload, 1, 0, 0, 0), (35, .iadd, 1, 0, 0, 0), (36, .i2l, 1, 0, 0, 0), (37, .lstore_n 1, 1, 0, 0, 0), (38, .lload_n 1, 1, 0, 0, 0), (39, .aload_n 0, 1, 0, 0, 0), (40, .getfield 138, 3, 3, 14, 0), (43, .sipush 264, 3, 0, 0, 0), (46, .iaload, 1, 0, 0, 0), (47, .i2l, 1, 0, 0, 0)] (pc' := 48) (lc' := [(1, (1, 0, (ax_wr ((M1 7 264) + (M1 7 265))))), (0, (2, 3, 0))]) (st' := [(1, 0, (M1 7 264)), (1, 0, (ax_wr ((M1 7 264) + (M1 7 265))))]) (M' := M1) (C' := (((True ∧ (0 ≤ 264 ∧ 264 < ((274 : Nat) : Int))) ∧ (0 ≤ 265 ∧ 265 < ((274 : Nat) : Int))) ∧ (0 ≤ 264 ∧ 264 < ((274 : Nat) : Int)))) (by decide +kernel) rfl ⟨⟨⟨trivial, by omega⟩, by omega⟩, by omega⟩ ?_
    refine ax_cSl_r hX (G1 := gX3_common) (d1 := d + 60) (i := 7) (n := 2) (as := [(1, 0, (ax_wr ((M1 7 264) + (M1 7 265)))), (1, 0, (M1 7 264))]) (st := []) (by decide +kernel) calX3_common (by omega) rfl wt_1420 wt_1421 (Nat.le_of_ble_eq_true rfl) rfl (fun hY => c_X3_common d (ax_wr ((M1 7 264) + (M1 7 265))) (M1 7 264) M1 hY) (fun y3 hX => ?_)
    refine ax_lump ax_layM ok_kX3 [(51, .lstore_n 3, 1, 0, 0, 0), (52, .aload_n 0, 1, 0, 0, 0), (53, .iconst 0, 1, 0, 0, 0), (54, .putfield 15, 3, 3, 1, 0)] (pc' := 57) (lc' := [(3, (1, 0, y3)), (1, (1, 0, (ax_wr ((M1 7 264) + (M1 7 265))))), (0, (2, 3, 0))]) (st' := []) (M' := (ax_up M1 0 1 0)) (C' := (True ∧ (0 ≤ 0 ∧ 0 < ((25 : Nat) : Int)))) (by decide +kernel) rfl ⟨trivial, by omega⟩ ?_
    refine ax_bdMe_s hX (fun M4 hM_M4 hX => ?_)
    refine ax_rq_s hX (fun hS5 hX => ?_)
    refine ax_lump ax_layM ok_kX3 [(57, .aload_n 0, 1, 0, 0, 0), (58, .lload_n 1, 1, 0, 0, 0), (59, .lload_n 3, 1, 0, 0, 0), (60, .ldiv, 1, 0, 0, 0)] (pc' := 61) (lc' := [(3, (1, 0, y3)), (1, (1, 0, (ax_wr ((M1 7 264) + (M1 7 265))))), (0, (2, 3, 0))]) (st' := [(1, 0, (ax_ldiv (ax_wr ((M1 7 264) + (M1 7 265))) y3)), (2, 3, 0)]) (M' := M4) (C' := (True ∧ y3 ≠ 0)) (by decide +kernel) rfl ⟨trivial, hS5⟩ ?_
    refine ax_cVv_r hX (G1 := gX3_enters) (d1 := d + 0) (i := 345) (n := 1) (as := [(1, 0, (ax_ldiv (ax_wr ((M1 7 264) + (M1 7 265))) y3))]) (st := []) (c := 3) (a := 0) (by decide +kernel) ax_cls3 calX3_enters (by omega) rfl wt_1256 wt_1258 ws_98 (Nat.le_of_ble_eq_true rfl) rfl (fun hY => c_X3_enters d (ax_ldiv (ax_wr ((M1 7 264) + (M1 7 265))) y3) M4 hY) (fun M6 hX => ?_)
    refine ax_rq_s hX (fun hS7 hX => ?_)
    refine ax_lump ax_layM ok_kX3 [(64, .aload_n 0, 1, 0, 0, 0), (65, .aload_n 0, 1, 0, 0, 0), (66, .getfield 138, 3, 3, 14, 0), (69, .sipush 264, 3, 0, 0, 0), (72, .iaload, 1, 0, 0, 0), (73, .i2l, 1, 0, 0, 0), (74, .lload_n 3, 1, 0, 0, 0), (75, .ldiv, 1, 0, 0, 0)] (pc' := 76) (lc' := [(3, (1, 0, y3)), (1, (1, 0, (ax_wr ((M1 7 264) + (M1 7 265))))), (0, (2, 3, 0))]) (st' := [(1, 0, (ax_ldiv (M6 7 264) y3)), (2, 3, 0)]) (M' := M6) (C' := ((True ∧ (0 ≤ 264 ∧ 264 < ((274 : Nat) : Int))) ∧ y3 ≠ 0)) (by decide +kernel) rfl ⟨⟨trivial, by omega⟩, hS7⟩ ?_
    refine ax_cVv_r hX (G1 := gX3_enters) (d1 := d + 0) (i := 345) (n := 1) (as := [(1, 0, (ax_ldiv (M6 7 264) y3))]) (st := []) (c := 3) (a := 0) (by decide +kernel) ax_cls3 calX3_enters (by omega) rfl wt_1256 wt_1258 ws_98 (Nat.le_of_ble_eq_true rfl) rfl (fun hY => c_X3_enters d (ax_ldiv (M6 7 264) y3) M6 hY) (fun M8 hX => ?_)
    refine ax_lump ax_layM ok_kX3 [(79, .iconst 0, 1, 0, 0, 0)] (pc' := 80) (lc' := [(3, (1, 0, y3)), (1, (1, 0, (ax_wr ((M1 7 264) + (M1 7 265))))), (0, (2, 3, 0))]) (st' := [(0, 0, 0)]) (M' := M8) (C' := True) (by decide +kernel) rfl trivial ?_
    exact ax_iret (by decide +kernel) rfl ⟨rfl, rfl, (show ((-2) : Int) ≤ 0 from by omega), (show 0 ≤ (0 : Int) from by omega)⟩
  · refine ax_lump ax_layM ok_kX3 [(16, .bipush (-2), 2, 0, 0, 0)] (pc' := 18) (lc' := [(0, (2, 3, 0))]) (st' := [(0, 0, (-2))]) (M' := M1) (C' := True) (by decide +kernel) rfl trivial ?_
    exact ax_iret (by decide +kernel) rfl ⟨rfl, rfl, (show ((-2) : Int) ≤ (-2) from by omega), (show (-2) ≤ (0 : Int) from by omega)⟩
def f_X3_readsAct_J100 (j1 : Int) (s0 : Int) (s1 : Int) (M : ax_M) : Prop × Int × ax_M := ax_rq ((0 ≤ s1 ∧ s1 < ((80 : Nat) : Int))) (ax_bd (ax_up M 15 s1.toNat s0) (fun M18 => ax_rq ((0 ≤ j1 ∧ j1 < ((80 : Nat) : Int))) ((if (M18 15 j1.toNat) < 0 then ax_rq ((0 ≤ j1 ∧ j1 < ((80 : Nat) : Int))) ((True, (0, M18))) else ax_rq ((0 ≤ j1 ∧ j1 < ((80 : Nat) : Int))) ((if 5 ≤ (M18 14 j1.toNat) then ax_rc (f_X3_two M18) (fun y25 => ax_rq ((0 ≤ j1 ∧ j1 < ((80 : Nat) : Int))) (ax_bd (ax_up y25.2 16 j1.toNat y25.1) (fun M27 => ax_rq ((0 ≤ j1 ∧ j1 < ((80 : Nat) : Int))) ((if (M27 16 j1.toNat) < 0 then (True, (0, M27)) else (True, (1, M27))))))) else ax_rq ((0 ≤ j1 ∧ j1 < ((80 : Nat) : Int))) ((True, (1, M18)))))))))
set_option maxRecDepth 100000 in
set_option maxHeartbeats 4000000 in
theorem w_X3_readsAct_J100 (d : Nat) (j1 : Int) (s0 : Int) (s1 : Int) (M : ax_M) (hw_j1 : 0 ≤ j1 ∧ j1 ≤ 80) (hw_s1 : 0 ≤ s1 ∧ s1 ≤ 80) (hX : (f_X3_readsAct_J100 j1 s0 s1 M).1) : ax_W ax_LM gX3_readsAct (d + 5) 100 [(0, (2, 3, 0)), (1, (0, 0, j1))] [(0, 0, s0), (0, 0, s1), (3, 80, 15)] M ((ax_qm 0 1) (f_X3_readsAct_J100 j1 s0 s1 M).2) := by
  unfold f_X3_readsAct_J100 at hX ⊢
  refine ax_rq_s hX (fun hS17 hX => ?_)
  refine ax_lump ax_layM ok_kX3 [(100, .iastore, 1, 0, 0, 0)] (pc' := 101) (lc' := [(0, (2, 3, 0)), (1, (0, 0, j1))]) (st' := []) (M' := (ax_up M 15 s1.toNat s0)) (C' := (True ∧ (0 ≤ s1 ∧ s1 < ((80 : Nat) : Int)))) (by decide +kernel) rfl ⟨trivial, hS17⟩ ?_
  refine ax_bdMe_s hX (fun M18 hM_M18 hX => ?_)
  refine ax_rq_s hX (fun hS19 hX => ?_)
  refine ax_lump ax_layM ok_kX3 [(101, .aload_n 0, 1, 0, 0, 0), (102, .getfield 162, 3, 3, 29, 0), (105, .iload_n 1, 1, 0, 0, 0), (106, .iaload, 1, 0, 0, 0)] (pc' := 107) (lc' := [(0, (2, 3, 0)), (1, (0, 0, j1))]) (st' := [(0, 0, (M18 15 j1.toNat))]) (M' := M18) (C' := (True ∧ (0 ≤ j1 ∧ j1 < ((80 : Nat) : Int)))) (by decide +kernel) rfl ⟨trivial, hS19⟩ ?_
  refine ax_zlt_s hX (off := 13) (tgt := 120) (by decide +kernel) (by decide) (fun h20 hX => ?_) (fun h20 hX => ?_)
  · refine ax_rq_s hX (fun hS21 hX => ?_)
    refine ax_lump ax_layM ok_kX3 [(120, .aload_n 0, 1, 0, 0, 0), (121, .getfield 162, 3, 3, 29, 0), (124, .iload_n 1, 1, 0, 0, 0), (125, .iaload, 1, 0, 0, 0)] (pc' := 126) (lc' := [(0, (2, 3, 0)), (1, (0, 0, j1))]) (st' := [(0, 0, (M18 15 j1.toNat))]) (M' := M18) (C' := (True ∧ (0 ≤ j1 ∧ j1 < ((80 : Nat) : Int)))) (by decide +kernel) rfl ⟨trivial, hS21⟩ ?_
    refine ax_if_lt (off := 7) (tgt := 133) (by decide +kernel) (by decide) (fun h22 => ?_) (fun h22 => ?_)
    · refine ax_lump ax_layM ok_kX3 [(133, .iconst 0, 1, 0, 0, 0)] (pc' := 134) (lc' := [(0, (2, 3, 0)), (1, (0, 0, j1))]) (st' := [(0, 0, 0)]) (M' := M18) (C' := True) (by decide +kernel) rfl trivial ?_
      exact ax_zret (by decide +kernel) rfl (by omega) ⟨rfl, rfl, (show (0 : Int) ≤ 0 from by omega), (show 0 ≤ (1 : Int) from by omega)⟩
    · exfalso; omega
  · refine ax_rq_s hX (fun hS23 hX => ?_)
    refine ax_lump ax_layM ok_kX3 [(110, .aload_n 0, 1, 0, 0, 0), (111, .getfield 159, 3, 3, 28, 0), (114, .iload_n 1, 1, 0, 0, 0), (115, .iaload, 1, 0, 0, 0), (116, .iconst 5, 1, 0, 0, 0)] (pc' := 117) (lc' := [(0, (2, 3, 0)), (1, (0, 0, j1))]) (st' := [(0, 0, 5), (0, 0, (M18 14 j1.toNat))]) (M' := M18) (C' := (True ∧ (0 ≤ j1 ∧ j1 < ((80 : Nat) : Int)))) (by decide +kernel) rfl ⟨trivial, hS23⟩ ?_
    refine ax_jge_s hX (off := 18) (tgt := 135) (by decide +kernel) (by decide) (fun h24 hX => ?_) (fun h24 hX => ?_)
    · refine ax_lump ax_layM ok_kX3 [(135, .aload_n 0, 1, 0, 0, 0), (136, .getfield 165, 3, 3, 30, 0), (139, .iload_n 1, 1, 0, 0, 0), (140, .aload_n 0, 1, 0, 0, 0)] (pc' := 141) (lc' := [(0, (2, 3, 0)), (1, (0, 0, j1))]) (st' := [(2, 3, 0), (0, 0, j1), (3, 80, 16)]) (M' := M18) (C' := True) (by decide +kernel) rfl trivial ?_
      refine ax_cVm_r hX (G1 := gX3_two) (d1 := d + 3) (i := 404) (n := 0) (as := []) (st := [(0, 0, j1), (3, 80, 16)]) (c := 3) (a := 0) (by decide +kernel) ax_cls3 calX3_two (by omega) rfl wt_1339 wt_1341 ws_109 (Nat.le_of_ble_eq_true rfl) rfl (fun hY => c_X3_two d  M18 hY) (fun y25 h_y25 hX => ?_)
      refine ax_rq_s hX (fun hS26 hX => ?_)
      refine ax_lump ax_layM ok_kX3 [(144, .iastore, 1, 0, 0, 0)] (pc' := 145) (lc' := [(0, (2, 3, 0)), (1, (0, 0, j1))]) (st' := []) (M' := (ax_up y25.2 16 j1.toNat y25.1)) (C' := (True ∧ (0 ≤ j1 ∧ j1 < ((80 : Nat) : Int)))) (by decide +kernel) rfl ⟨trivial, hS26⟩ ?_
      refine ax_bdMe_s hX (fun M27 hM_M27 hX => ?_)
      refine ax_rq_s hX (fun hS28 hX => ?_)
      refine ax_lump ax_layM ok_kX3 [(145, .aload_n 0, 1, 0, 0, 0), (146, .getfield 165, 3, 3, 30, 0), (149, .iload_n 1, 1, 0, 0, 0), (150, .iaload, 1, 0, 0, 0)] (pc' := 151) (lc' := [(0, (2, 3, 0)), (1, (0, 0, j1))]) (st' := [(0, 0, (M27 16 j1.toNat))]) (M' := M27) (C' := (True ∧ (0 ≤ j1 ∧ j1 < ((80 : Nat) : Int)))) (by decide +kernel) rfl ⟨trivial, hS28⟩ ?_
      refine ax_zlt_s hX (off := 7) (tgt := 158) (by decide +kernel) (by decide) (fun h29 hX => ?_) (fun h29 hX => ?_)
      · refine ax_lump ax_layM ok_kX3 [(158, .iconst 0, 1, 0, 0, 0)] (pc' := 159) (lc' := [(0, (2, 3, 0)), (1, (0, 0, j1))]) (st' := [(0, 0, 0)]) (M' := M27) (C' := True) (by decide +kernel) rfl trivial ?_
        exact ax_zret (by decide +kernel) rfl (by omega) ⟨rfl, rfl, (show (0 : Int) ≤ 0 from by omega), (show 0 ≤ (1 : Int) from by omega)⟩
      · refine ax_lump ax_layM ok_kX3 [(154, .iconst 1, 1, 0, 0, 0), (155, .goto 4, 3, 159, 0, 0)] (pc' := 159) (lc' := [(0, (2, 3, 0)), (1, (0, 0, j1))]) (st' := [(0, 0, 1)]) (M' := M27) (C' := True) (by decide +kernel) rfl trivial ?_
        exact ax_zret (by decide +kernel) rfl (by omega) ⟨rfl, rfl, (show (0 : Int) ≤ 1 from by omega), (show 1 ≤ (1 : Int) from by omega)⟩
    · refine ax_rq_s hX (fun hS30 hX => ?_)
      refine ax_lump ax_layM ok_kX3 [(120, .aload_n 0, 1, 0, 0, 0), (121, .getfield 162, 3, 3, 29, 0), (124, .iload_n 1, 1, 0, 0, 0), (125, .iaload, 1, 0, 0, 0)] (pc' := 126) (lc' := [(0, (2, 3, 0)), (1, (0, 0, j1))]) (st' := [(0, 0, (M18 15 j1.toNat))]) (M' := M18) (C' := (True ∧ (0 ≤ j1 ∧ j1 < ((80 : Nat) : Int)))) (by decide +kernel) rfl ⟨trivial, hS30⟩ ?_
      refine ax_if_lt (off := 7) (tgt := 133) (by decide +kernel) (by decide) (fun h31 => ?_) (fun h31 => ?_)
      · exfalso; omega
      · refine ax_lump ax_layM ok_kX3 [(129, .iconst 1, 1, 0, 0, 0), (130, .goto 4, 3, 134, 0, 0)] (pc' := 134) (lc' := [(0, (2, 3, 0)), (1, (0, 0, j1))]) (st' := [(0, 0, 1)]) (M' := M18) (C' := True) (by decide +kernel) rfl trivial ?_
        exact ax_zret (by decide +kernel) rfl (by omega) ⟨rfl, rfl, (show (0 : Int) ≤ 1 from by omega), (show 1 ≤ (1 : Int) from by omega)⟩
def f_X3_readsAct  (M : ax_M) : Prop × Int × ax_M := ax_bd (M 0 31) (fun y2 => ax_rc (f_X3_takesOf 4 M) (fun y3 => ax_rq ((0 ≤ y2 ∧ y2 < ((80 : Nat) : Int))) (ax_bd (ax_up y3.2 14 y2.toNat y3.1) (fun M5 => ax_rq ((0 ≤ ((M5 0 31) + 1) ∧ ((M5 0 31) + 1) < ((81 : Nat) : Int))) (ax_bd (ax_up M5 0 31 ((M5 0 31) + 1)) (fun M8 => ax_rq ((0 ≤ y2 ∧ y2 < ((80 : Nat) : Int))) ((if 3 ≤ (M8 14 y2.toNat) then ax_rq ((0 ≤ y2 ∧ y2 < ((80 : Nat) : Int))) ((if (M8 14 y2.toNat) ≠ 3 then ax_rq ((0 ≤ y2 ∧ y2 < ((80 : Nat) : Int))) ((if (M8 14 y2.toNat) ≠ 4 then ax_rc (f_X3_two M8) (fun y16 => f_X3_readsAct_J100 y2 y16.1 y2 y16.2) else ax_rc (f_X3_takesOf 5 M8) (fun y32 => f_X3_readsAct_J100 y2 y32.1 y2 y32.2))) else ax_rc (f_X3_number 1 M8) (fun y33 => f_X3_readsAct_J100 y2 y33.1 y2 y33.2))) else ax_rq ((0 ≤ y2 ∧ y2 < ((80 : Nat) : Int))) ((if (M8 14 y2.toNat) < 0 then (True, (0, M8)) else (True, (1, M8))))))))))))
set_option maxRecDepth 100000 in
set_option maxHeartbeats 4000000 in
theorem c_X3_readsAct (d : Nat)  (M : ax_M)  (hX : (f_X3_readsAct  M).1) : ax_Met ax_LM gX3_readsAct (d + 5) [(2, 3, 0)] M ((ax_qm 0 1) (f_X3_readsAct  M).2) := by
  refine ax_body (by decide) (fun X => Nat.le_of_ble_eq_true rfl) (fun hok => ?_)
  show ax_W ax_LM gX3_readsAct (d + 5) 0 [(0, (2, 3, 0))] [] M _
  unfold f_X3_readsAct at hX ⊢
  refine ax_fact (i := 0) (c := 3) (f := 31) (hi := 80) (s := 0) (by simp) rfl rfl rfl (fun hf1 => ?_)
  have hf1 : 0 ≤ (M 0 31) ∧ (M 0 31) ≤ 80 := hf1
  refine ax_lump ax_layM ok_kX3 [(0, .aload_n 0, 1, 0, 0, 0), (1, .getfield 397, 3, 3, 31, 0), (4, .istore_n 1, 1, 0, 0, 0)] (pc' := 5) (lc' := [(1, (0, 0, (M 0 31))), (0, (2, 3, 0))]) (st' := []) (M' := M) (C' := True) (by decide +kernel) rfl trivial ?_
  refine ax_bdI_s hX (lo := 0) (hi := 80) (e := (M 0 31)) (fun y2 => [(1, (0, 0, y2)), (0, (2, 3, 0))]) (fun y2 => []) (by omega) (fun y2 h_y2 hX => ?_)
  refine ax_lump ax_layM ok_kX3 [(5, .aload_n 0, 1, 0, 0, 0), (6, .getfield 159, 3, 3, 28, 0), (9, .iload_n 1, 1, 0, 0, 0), (10, .aload_n 0, 1, 0, 0, 0)] (pc' := 11) (lc' := [(1, (0, 0, y2)), (0, (2, 3, 0))]) (st' := [(2, 3, 0), (0, 0, y2), (3, 80, 14)]) (M' := M) (C' := True) (by decide +kernel) rfl trivial ?_
  refine ax_ldcwS (i := 400) (j := 4) (by decide +kernel) (by decide +kernel) ?_
  refine ax_cVm_r hX (G1 := gX3_takesOf) (d1 := d + 4) (i := 89) (n := 1) (as := [(7, 4, 0)]) (st := [(0, 0, y2), (3, 80, 14)]) (c := 3) (a := 0) (by decide +kernel) ax_cls3 calX3_takesOf (by omega) rfl wt_922 wt_924 ws_77 (Nat.le_of_ble_eq_true rfl) rfl (fun hY => c_X3_takesOf d 4 M hY) (fun y3 h_y3 hX => ?_)
  refine ax_rq_s hX (fun hS4 hX => ?_)
  refine ax_lump ax_layM ok_kX3 [(17, .iastore, 1, 0, 0, 0)] (pc' := 18) (lc' := [(1, (0, 0, y2)), (0, (2, 3, 0))]) (st' := []) (M' := (ax_up y3.2 14 y2.toNat y3.1)) (C' := (True ∧ (0 ≤ y2 ∧ y2 < ((80 : Nat) : Int)))) (by decide +kernel) rfl ⟨trivial, hS4⟩ ?_
  refine ax_bdMe_s hX (fun M5 hM_M5 hX => ?_)
  refine ax_rq_s hX (fun hS7 hX => ?_)
  refine ax_fact (i := 0) (c := 3) (f := 31) (hi := 80) (s := 0) (by simp) rfl rfl rfl (fun hf6 => ?_)
  have hf6 : 0 ≤ (M5 0 31) ∧ (M5 0 31) ≤ 80 := hf6
  refine ax_lump ax_layM ok_kX3 [(18, .aload_n 0, 1, 0, 0, 0), (19, .dup, 1, 0, 0, 0), (20, .getfield 397, 3, 3, 31, 0), (23, .iconst 1, 1, 0, 0, 0), (24, .iadd, 1, 1, 0, 0), (25, .putfield 397, 3, 3, 31, 0)] (pc' := 28) (lc' := [(1, (0, 0, y2)), (0, (2, 3, 0))]) (st' := []) (M' := (ax_up M5 0 31 ((M5 0 31) + 1))) (C' := ((True ∧ ax_r32 ((M5 0 31) + 1)) ∧ (0 ≤ ((M5 0 31) + 1) ∧ ((M5 0 31) + 1) < ((81 : Nat) : Int)))) (by decide +kernel) rfl ⟨⟨trivial, ⟨by omega, by omega⟩⟩, hS7⟩ ?_
  refine ax_bdMe_s hX (fun M8 hM_M8 hX => ?_)
  have hk_k9 : (M8 0 31) = ((M5 0 31) + 1) := by rw [hM_M8]; exact ax_up_s
  refine ax_rq_s hX (fun hS10 hX => ?_)
  refine ax_lump ax_layM ok_kX3 [(28, .aload_n 0, 1, 0, 0, 0), (29, .getfield 159, 3, 3, 28, 0), (32, .iload_n 1, 1, 0, 0, 0), (33, .iaload, 1, 0, 0, 0), (34, .iconst 3, 1, 0, 0, 0)] (pc' := 35) (lc' := [(1, (0, 0, y2)), (0, (2, 3, 0))]) (st' := [(0, 0, 3), (0, 0, (M8 14 y2.toNat))]) (M' := M8) (C' := (True ∧ (0 ≤ y2 ∧ y2 < ((80 : Nat) : Int)))) (by decide +kernel) rfl ⟨trivial, hS10⟩ ?_
  refine ax_jge_s hX (off := 18) (tgt := 53) (by decide +kernel) (by decide) (fun h11 hX => ?_) (fun h11 hX => ?_)
  · refine ax_rq_s hX (fun hS12 hX => ?_)
    refine ax_lump ax_layM ok_kX3 [(53, .aload_n 0, 1, 0, 0, 0), (54, .getfield 162, 3, 3, 29, 0), (57, .iload_n 1, 1, 0, 0, 0), (58, .aload_n 0, 1, 0, 0, 0), (59, .getfield 159, 3, 3, 28, 0), (62, .iload_n 1, 1, 0, 0, 0), (63, .iaload, 1, 0, 0, 0), (64, .iconst 3, 1, 0, 0, 0)] (pc' := 65) (lc' := [(1, (0, 0, y2)), (0, (2, 3, 0))]) (st' := [(0, 0, 3), (0, 0, (M8 14 y2.toNat)), (0, 0, y2), (3, 80, 15)]) (M' := M8) (C' := (True ∧ (0 ≤ y2 ∧ y2 < ((80 : Nat) : Int)))) (by decide +kernel) rfl ⟨trivial, hS12⟩ ?_
    refine ax_jne_s hX (off := 11) (tgt := 76) (by decide +kernel) (by decide) (fun h13 hX => ?_) (fun h13 hX => ?_)
    · refine ax_rq_s hX (fun hS14 hX => ?_)
      refine ax_lump ax_layM ok_kX3 [(76, .aload_n 0, 1, 0, 0, 0), (77, .getfield 159, 3, 3, 28, 0), (80, .iload_n 1, 1, 0, 0, 0), (81, .iaload, 1, 0, 0, 0), (82, .iconst 4, 1, 0, 0, 0)] (pc' := 83) (lc' := [(1, (0, 0, y2)), (0, (2, 3, 0))]) (st' := [(0, 0, 4), (0, 0, (M8 14 y2.toNat)), (0, 0, y2), (3, 80, 15)]) (M' := M8) (C' := (True ∧ (0 ≤ y2 ∧ y2 < ((80 : Nat) : Int)))) (by decide +kernel) rfl ⟨trivial, hS14⟩ ?_
      refine ax_jne_s hX (off := 13) (tgt := 96) (by decide +kernel) (by decide) (fun h15 hX => ?_) (fun h15 hX => ?_)
      · refine ax_lump ax_layM ok_kX3 [(96, .aload_n 0, 1, 0, 0, 0)] (pc' := 97) (lc' := [(1, (0, 0, y2)), (0, (2, 3, 0))]) (st' := [(2, 3, 0), (0, 0, y2), (3, 80, 15)]) (M' := M8) (C' := True) (by decide +kernel) rfl trivial ?_
        refine ax_cVm_r hX (G1 := gX3_two) (d1 := d + 3) (i := 404) (n := 0) (as := []) (st := [(0, 0, y2), (3, 80, 15)]) (c := 3) (a := 0) (by decide +kernel) ax_cls3 calX3_two (by omega) rfl wt_1339 wt_1341 ws_109 (Nat.le_of_ble_eq_true rfl) rfl (fun hY => c_X3_two d  M8 hY) (fun y16 h_y16 hX => ?_)
        refine ax_pk [1,0] (lc' := [(0, (2, 3, 0)), (1, (0, 0, y2))]) rfl ?_
        exact w_X3_readsAct_J100 d y2 y16.1 y2 y16.2 (by omega) (by omega) hX
      · refine ax_lump ax_layM ok_kX3 [(86, .aload_n 0, 1, 0, 0, 0)] (pc' := 87) (lc' := [(1, (0, 0, y2)), (0, (2, 3, 0))]) (st' := [(2, 3, 0), (0, 0, y2), (3, 80, 15)]) (M' := M8) (C' := True) (by decide +kernel) rfl trivial ?_
        refine ax_ldcwS (i := 402) (j := 5) (by decide +kernel) (by decide +kernel) ?_
        refine ax_cVm_r hX (G1 := gX3_takesOf) (d1 := d + 4) (i := 89) (n := 1) (as := [(7, 5, 0)]) (st := [(0, 0, y2), (3, 80, 15)]) (c := 3) (a := 0) (by decide +kernel) ax_cls3 calX3_takesOf (by omega) rfl wt_922 wt_924 ws_77 (Nat.le_of_ble_eq_true rfl) rfl (fun hY => c_X3_takesOf d 5 M8 hY) (fun y32 h_y32 hX => ?_)
        refine ax_lump ax_layM ok_kX3 [(93, .goto 7, 3, 100, 0, 0)] (pc' := 100) (lc' := [(1, (0, 0, y2)), (0, (2, 3, 0))]) (st' := [(0, 0, y32.1), (0, 0, y2), (3, 80, 15)]) (M' := y32.2) (C' := True) (by decide +kernel) rfl trivial ?_
        refine ax_pk [1,0] (lc' := [(0, (2, 3, 0)), (1, (0, 0, y2))]) rfl ?_
        exact w_X3_readsAct_J100 d y2 y32.1 y2 y32.2 (by omega) (by omega) hX
    · refine ax_lump ax_layM ok_kX3 [(68, .aload_n 0, 1, 0, 0, 0), (69, .iconst 1, 1, 0, 0, 0)] (pc' := 70) (lc' := [(1, (0, 0, y2)), (0, (2, 3, 0))]) (st' := [(0, 0, 1), (2, 3, 0), (0, 0, y2), (3, 80, 15)]) (M' := M8) (C' := True) (by decide +kernel) rfl trivial ?_
      refine ax_cVm_r hX (G1 := gX3_number) (d1 := d + 2) (i := 66) (n := 1) (as := [(0, 0, 1)]) (st := [(0, 0, y2), (3, 80, 15)]) (c := 3) (a := 0) (by decide +kernel) ax_cls3 calX3_number (by omega) rfl wt_917 wt_919 ws_76 (Nat.le_of_ble_eq_true rfl) rfl (fun hY => c_X3_number d 1 M8 (by omega) hY) (fun y33 h_y33 hX => ?_)
      refine ax_lump ax_layM ok_kX3 [(73, .goto 27, 3, 100, 0, 0)] (pc' := 100) (lc' := [(1, (0, 0, y2)), (0, (2, 3, 0))]) (st' := [(0, 0, y33.1), (0, 0, y2), (3, 80, 15)]) (M' := y33.2) (C' := True) (by decide +kernel) rfl trivial ?_
      refine ax_pk [1,0] (lc' := [(0, (2, 3, 0)), (1, (0, 0, y2))]) rfl ?_
      exact w_X3_readsAct_J100 d y2 y33.1 y2 y33.2 (by omega) (by omega) hX
  · refine ax_rq_s hX (fun hS34 hX => ?_)
    refine ax_lump ax_layM ok_kX3 [(38, .aload_n 0, 1, 0, 0, 0), (39, .getfield 159, 3, 3, 28, 0), (42, .iload_n 1, 1, 0, 0, 0), (43, .iaload, 1, 0, 0, 0)] (pc' := 44) (lc' := [(1, (0, 0, y2)), (0, (2, 3, 0))]) (st' := [(0, 0, (M8 14 y2.toNat))]) (M' := M8) (C' := (True ∧ (0 ≤ y2 ∧ y2 < ((80 : Nat) : Int)))) (by decide +kernel) rfl ⟨trivial, hS34⟩ ?_
    refine ax_zlt_s hX (off := 7) (tgt := 51) (by decide +kernel) (by decide) (fun h35 hX => ?_) (fun h35 hX => ?_)
    · refine ax_lump ax_layM ok_kX3 [(51, .iconst 0, 1, 0, 0, 0)] (pc' := 52) (lc' := [(1, (0, 0, y2)), (0, (2, 3, 0))]) (st' := [(0, 0, 0)]) (M' := M8) (C' := True) (by decide +kernel) rfl trivial ?_
      exact ax_zret (by decide +kernel) rfl (by omega) ⟨rfl, rfl, (show (0 : Int) ≤ 0 from by omega), (show 0 ≤ (1 : Int) from by omega)⟩
    · refine ax_lump ax_layM ok_kX3 [(47, .iconst 1, 1, 0, 0, 0), (48, .goto 4, 3, 52, 0, 0)] (pc' := 52) (lc' := [(1, (0, 0, y2)), (0, (2, 3, 0))]) (st' := [(0, 0, 1)]) (M' := M8) (C' := True) (by decide +kernel) rfl trivial ?_
      exact ax_zret (by decide +kernel) rfl (by omega) ⟨rfl, rfl, (show (0 : Int) ≤ 1 from by omega), (show 1 ≤ (1 : Int) from by omega)⟩
def f_X3_day_B17   (M : ax_M) (kc : ax_M → Prop × Int × ax_M) (kx : ax_M → Prop × Int × ax_M) : Prop × Int × ax_M := (if (M 0 6) ≤ (M 0 5) then kx M else ax_rc (f_X3_readsAct M) (fun y7 => (if y7.1 ≠ 0 then kc y7.2 else (True, (((-1) - (y7.2 0 5)), y7.2)))))
def f_X3_day_L17  : Nat → ax_M → (ax_M → Prop × Int × ax_M) → Prop × Int × ax_M
  | 0, _, _ => (False, (0, fun _ _ => 0))
  | n + 1, M, kx => f_X3_day_B17   M (fun M9 => f_X3_day_L17  n  M9 kx) kx
set_option maxRecDepth 100000 in
set_option maxHeartbeats 4000000 in
theorem wb_X3_day_B17 (d : Nat)   (M : ax_M) (kc : ax_M → Prop × Int × ax_M) (kx : ax_M → Prop × Int × ax_M)    (hkc : ∀ (M9 : ax_M), (kc M9).1 → ax_W ax_LM gX3_day (d + 10) 17 [(0, (2, 3, 0))] [] M9 ((ax_qm (-2147483648) 2147483647) (kc M9).2)) (hkx : ∀ (M9 : ax_M), (True) → (kx M9).1 → ax_W ax_LM gX3_day (d + 10) 42 [(0, (2, 3, 0))] [] M9 ((ax_qm (-2147483648) 2147483647) (kx M9).2)) (hX : (f_X3_day_B17   M kc kx).1) : ax_W ax_LM gX3_day (d + 10) 17 [(0, (2, 3, 0))] [] M ((ax_qm (-2147483648) 2147483647) (f_X3_day_B17   M kc kx).2) := by
  unfold f_X3_day_B17 at hX ⊢
  refine ax_fact (i := 0) (c := 3) (f := 5) (hi := 80) (s := 0) (by simp) rfl rfl rfl (fun hf4 => ?_)
  have hf4 : 0 ≤ (M 0 5) ∧ (M 0 5) ≤ 80 := hf4
  refine ax_fact (i := 0) (c := 3) (f := 6) (hi := 80) (s := 0) (by simp) rfl rfl rfl (fun hf5 => ?_)
  have hf5 : 0 ≤ (M 0 6) ∧ (M 0 6) ≤ 80 := hf5
  refine ax_lump ax_layM ok_kX3 [(17, .aload_n 0, 1, 0, 0, 0), (18, .getfield 29, 3, 3, 5, 0), (21, .aload_n 0, 1, 0, 0, 0), (22, .getfield 41, 3, 3, 6, 0)] (pc' := 25) (lc' := [(0, (2, 3, 0))]) (st' := [(0, 0, (M 0 6)), (0, 0, (M 0 5))]) (M' := M) (C' := True) (by decide +kernel) rfl trivial ?_
  refine ax_jge_s hX (off := 17) (tgt := 42) (by decide +kernel) (by decide) (fun h6 hX => ?_) (fun h6 hX => ?_)
  · exact hkx M trivial hX
  · refine ax_lump ax_layM ok_kX3 [(28, .aload_n 0, 1, 0, 0, 0)] (pc' := 29) (lc' := [(0, (2, 3, 0))]) (st' := [(2, 3, 0)]) (M' := M) (C' := True) (by decide +kernel) rfl trivial ?_
    refine ax_cVm_r hX (G1 := gX3_readsAct) (d1 := d + 5) (i := 407) (n := 0) (as := []) (st := []) (c := 3) (a := 0) (by decide +kernel) ax_cls3 calX3_readsAct (by omega) rfl wt_1333 wt_1335 ws_108 (Nat.le_of_ble_eq_true rfl) rfl (fun hY => c_X3_readsAct d  M hY) (fun y7 h_y7 hX => ?_)
    refine ax_zne_s hX (off := (-15)) (tgt := 17) (by decide +kernel) (by decide) (fun h8 hX => ?_) (fun h8 hX => ?_)
    · exact hkc y7.2  hX
    · refine ax_fact (i := 0) (c := 3) (f := 5) (hi := 80) (s := 0) (by simp) rfl rfl rfl (fun hf9 => ?_)
      have hf9 : 0 ≤ (y7.2 0 5) ∧ (y7.2 0 5) ≤ 80 := hf9
      refine ax_lump ax_layM ok_kX3 [(35, .iconst (-1), 1, 0, 0, 0), (36, .aload_n 0, 1, 0, 0, 0), (37, .getfield 29, 3, 3, 5, 0), (40, .isub, 1, 1, 0, 0)] (pc' := 41) (lc' := [(0, (2, 3, 0))]) (st' := [(0, 0, ((-1) - (y7.2 0 5)))]) (M' := y7.2) (C' := (True ∧ ax_r32 ((-1) - (y7.2 0 5)))) (by decide +kernel) rfl ⟨trivial, ⟨by omega, by omega⟩⟩ ?_
      refine ax_rngS (fun hr => ?_)
      exact ax_iret (by decide +kernel) rfl ⟨rfl, rfl, hr.1, hr.2⟩
set_option maxRecDepth 100000 in
set_option maxHeartbeats 4000000 in
theorem w_X3_day_L17 (d : Nat)  (kx : ax_M → Prop × Int × ax_M)  (hkx : ∀ (M9 : ax_M), (True) → (kx M9).1 → ax_W ax_LM gX3_day (d + 10) 42 [(0, (2, 3, 0))] [] M9 ((ax_qm (-2147483648) 2147483647) (kx M9).2)) : ∀ (n : Nat) (M : ax_M), (f_X3_day_L17  n  M kx).1 → ax_W ax_LM gX3_day (d + 10) 17 [(0, (2, 3, 0))] [] M ((ax_qm (-2147483648) 2147483647) (f_X3_day_L17  n  M kx).2) := by
  intro n
  induction n with
  | zero =>
    intro M hX
    exact False.elim hX
  | succ n ih =>
    intro M hX
    exact wb_X3_day_B17 d   M _ kx    (fun M9 hX => ih  M9   hX) hkx hX
def f_X3_day_B56  (v1 : Int) (M : ax_M) (kc : Int → ax_M → Prop × Int × ax_M) (kx : Int → ax_M → Prop × Int × ax_M) : Prop × Int × ax_M := (if (M 0 31) ≤ v1 then kx v1 M else ax_rq ((0 ≤ v1 ∧ v1 ≤ 79)) (ax_rc (f_X3_does v1 M) (fun y16 => (if y16.1 < 0 then kx v1 y16.2 else kc (v1 + 1) y16.2))))
def f_X3_day_L56  : Nat → Int → ax_M → (Int → ax_M → Prop × Int × ax_M) → Prop × Int × ax_M
  | 0, _, _, _ => (False, (0, fun _ _ => 0))
  | n + 1, v1, M, kx => f_X3_day_B56  v1 M (fun u1 M9 => f_X3_day_L56  n  u1 M9 kx) kx
set_option maxRecDepth 100000 in
set_option maxHeartbeats 4000000 in
theorem wb_X3_day_B56 (d : Nat)  (v1 : Int) (M : ax_M) (kc : Int → ax_M → Prop × Int × ax_M) (kx : Int → ax_M → Prop × Int × ax_M)    (hkc : ∀ (u1 : Int) (M9 : ax_M), (kc u1 M9).1 → ax_W ax_LM gX3_day (d + 10) 56 [(0, (2, 3, 0)), (1, (0, 0, u1))] [] M9 ((ax_qm (-2147483648) 2147483647) (kc u1 M9).2)) (hkx : ∀ (x1 : Int) (M9 : ax_M), (True) → (kx x1 M9).1 → ax_W ax_LM gX3_day (d + 10) 78 [(0, (2, 3, 0)), (1, (0, 0, x1))] [] M9 ((ax_qm (-2147483648) 2147483647) (kx x1 M9).2)) (hX : (f_X3_day_B56  v1 M kc kx).1) : ax_W ax_LM gX3_day (d + 10) 56 [(0, (2, 3, 0)), (1, (0, 0, v1))] [] M ((ax_qm (-2147483648) 2147483647) (f_X3_day_B56  v1 M kc kx).2) := by
  unfold f_X3_day_B56 at hX ⊢
  refine ax_fact (i := 0) (c := 3) (f := 31) (hi := 80) (s := 0) (by simp) rfl rfl rfl (fun hf13 => ?_)
  have hf13 : 0 ≤ (M 0 31) ∧ (M 0 31) ≤ 80 := hf13
  refine ax_lump ax_layM ok_kX3 [(56, .iload_n 1, 1, 0, 0, 0), (57, .aload_n 0, 1, 0, 0, 0), (58, .getfield 397, 3, 3, 31, 0)] (pc' := 61) (lc' := [(0, (2, 3, 0)), (1, (0, 0, v1))]) (st' := [(0, 0, (M 0 31)), (0, 0, v1)]) (M' := M) (C' := True) (by decide +kernel) rfl trivial ?_
  refine ax_jge_s hX (off := 17) (tgt := 78) (by decide +kernel) (by decide) (fun h14 hX => ?_) (fun h14 hX => ?_)
  · exact hkx v1 M trivial hX
  · refine ax_rq_s hX (fun hS15 hX => ?_)
    refine ax_lump ax_layM ok_kX3 [(64, .aload_n 0, 1, 0, 0, 0), (65, .iload_n 1, 1, 0, 0, 0)] (pc' := 66) (lc' := [(0, (2, 3, 0)), (1, (0, 0, v1))]) (st' := [(0, 0, v1), (2, 3, 0)]) (M' := M) (C' := True) (by decide +kernel) rfl trivial ?_
    refine ax_cVm_r hX (G1 := gX3_does) (d1 := d + 9) (i := 410) (n := 1) (as := [(0, 0, v1)]) (st := []) (c := 3) (a := 0) (by decide +kernel) ax_cls3 calX3_does (by omega) rfl wt_1343 wt_1345 ws_110 (Nat.le_of_ble_eq_true rfl) rfl (fun hY => c_X3_does d v1 M (hS15) hY) (fun y16 h_y16 hX => ?_)
    refine ax_zlt_s hX (off := 9) (tgt := 78) (by decide +kernel) (by decide) (fun h17 hX => ?_) (fun h17 hX => ?_)
    · exact hkx v1 y16.2 trivial hX
    · refine ax_rngL (i := 1) (u := 0) (n := v1) (by simp) (fun hq18 => ?_)
      have hq18 : (-2147483648) ≤ v1 ∧ v1 ≤ 2147483647 := hq18
      refine ax_lump ax_layM ok_kX3 [(72, .iinc 1 1, 3, 1, 0, 0), (75, .goto (-19), 3, 56, 0, 0)] (pc' := 56) (lc' := [(1, (0, 0, (v1 + 1))), (0, (2, 3, 0))]) (st' := []) (M' := y16.2) (C' := (True ∧ ax_r32 (v1 + 1))) (by decide +kernel) rfl ⟨trivial, ⟨by omega, by omega⟩⟩ ?_
      refine ax_pk [1,0] (lc' := [(0, (2, 3, 0)), (1, (0, 0, (v1 + 1)))]) rfl ?_
      exact hkc (v1 + 1) y16.2  hX
set_option maxRecDepth 100000 in
set_option maxHeartbeats 4000000 in
theorem w_X3_day_L56 (d : Nat)  (kx : Int → ax_M → Prop × Int × ax_M)  (hkx : ∀ (x1 : Int) (M9 : ax_M), (True) → (kx x1 M9).1 → ax_W ax_LM gX3_day (d + 10) 78 [(0, (2, 3, 0)), (1, (0, 0, x1))] [] M9 ((ax_qm (-2147483648) 2147483647) (kx x1 M9).2)) : ∀ (n : Nat) (v1 : Int) (M : ax_M), (f_X3_day_L56  n v1 M kx).1 → ax_W ax_LM gX3_day (d + 10) 56 [(0, (2, 3, 0)), (1, (0, 0, v1))] [] M ((ax_qm (-2147483648) 2147483647) (f_X3_day_L56  n v1 M kx).2) := by
  intro n
  induction n with
  | zero =>
    intro v1 M hX
    exact False.elim hX
  | succ n ih =>
    intro v1 M hX
    exact wb_X3_day_B56 d  v1 M _ kx    (fun u1 M9 hX => ih u1 M9   hX) hkx hX
def f_X3_day_J78 (j1 : Int) (M : ax_M) : Prop × Int × ax_M := ax_bd (ax_up M 0 1 0) (fun M21 => (if (M21 0 31) ≤ j1 then ax_rc (f_X3_enters (f_X3_flag 0 M21) M21) (fun M25 => ax_rc (f_X3_entersMore 7 M25) (fun M26 => (if j1 ≤ 0 then (True, (0, M26)) else ax_rc (f_X3_adds j1 M26) (fun y28 => (True, (y28.1, y28.2)))))) else ax_rc (f_X3_enters (f_X3_flag 1 M21) M21) (fun M30 => ax_rc (f_X3_entersMore 7 M30) (fun M31 => (if j1 ≤ 0 then (True, (0, M31)) else ax_rc (f_X3_adds j1 M31) (fun y33 => (True, (y33.1, y33.2))))))))
set_option maxRecDepth 100000 in
set_option maxHeartbeats 4000000 in
theorem w_X3_day_J78 (d : Nat) (j1 : Int) (M : ax_M)  (hX : (f_X3_day_J78 j1 M).1) : ax_W ax_LM gX3_day (d + 10) 78 [(0, (2, 3, 0)), (1, (0, 0, j1))] [] M ((ax_qm (-2147483648) 2147483647) (f_X3_day_J78 j1 M).2) := by
  unfold f_X3_day_J78 at hX ⊢
  refine ax_lump ax_layM ok_kX3 [(78, .aload_n 0, 1, 0, 0, 0), (79, .iconst 0, 1, 0, 0, 0), (80, .putfield 15, 3, 3, 1, 0)] (pc' := 83) (lc' := [(0, (2, 3, 0)), (1, (0, 0, j1))]) (st' := []) (M' := (ax_up M 0 1 0)) (C' := (True ∧ (0 ≤ 0 ∧ 0 < ((25 : Nat) : Int)))) (by decide +kernel) rfl ⟨trivial, by omega⟩ ?_
  refine ax_bdMe_s hX (fun M21 hM_M21 hX => ?_)
  refine ax_fact (i := 0) (c := 3) (f := 31) (hi := 80) (s := 0) (by simp) rfl rfl rfl (fun hf22 => ?_)
  have hf22 : 0 ≤ (M21 0 31) ∧ (M21 0 31) ≤ 80 := hf22
  refine ax_lump ax_layM ok_kX3 [(83, .aload_n 0, 1, 0, 0, 0), (84, .iload_n 1, 1, 0, 0, 0), (85, .aload_n 0, 1, 0, 0, 0), (86, .getfield 397, 3, 3, 31, 0)] (pc' := 89) (lc' := [(0, (2, 3, 0)), (1, (0, 0, j1))]) (st' := [(0, 0, (M21 0 31)), (0, 0, j1), (2, 3, 0)]) (M' := M21) (C' := True) (by decide +kernel) rfl trivial ?_
  refine ax_jge_s hX (off := 7) (tgt := 96) (by decide +kernel) (by decide) (fun h23 hX => ?_) (fun h23 hX => ?_)
  · refine ax_lump ax_layM ok_kX3 [(96, .iconst 0, 1, 0, 0, 0)] (pc' := 97) (lc' := [(0, (2, 3, 0)), (1, (0, 0, j1))]) (st' := [(0, 0, 0), (2, 3, 0)]) (M' := M21) (C' := True) (by decide +kernel) rfl trivial ?_
    refine ax_cSi (G1 := gX3_flag) (d1 := d + 0) (i := 44) (n := 1) (as := [(0, 0, 0)]) (st := [(2, 3, 0)]) (by decide +kernel) calX3_flag (by omega) rfl wt_904 wt_905 (Nat.le_of_ble_eq_true rfl) rfl (c_X3_flag d 0 M21 (by omega)) (fun hc24 => ?_)
    refine ax_lump ax_layM ok_kX3 [(100, .i2l, 1, 0, 0, 0)] (pc' := 101) (lc' := [(0, (2, 3, 0)), (1, (0, 0, j1))]) (st' := [(1, 0, (f_X3_flag 0 M21)), (2, 3, 0)]) (M' := M21) (C' := True) (by decide +kernel) rfl trivial ?_
    refine ax_cVv_r hX (G1 := gX3_enters) (d1 := d + 0) (i := 345) (n := 1) (as := [(1, 0, (f_X3_flag 0 M21))]) (st := []) (c := 3) (a := 0) (by decide +kernel) ax_cls3 calX3_enters (by omega) rfl wt_1256 wt_1258 ws_98 (Nat.le_of_ble_eq_true rfl) rfl (fun hY => c_X3_enters d (f_X3_flag 0 M21) M21 hY) (fun M25 hX => ?_)
    refine ax_lump ax_layM ok_kX3 [(104, .aload_n 0, 1, 0, 0, 0), (105, .aload_n 0, 1, 0, 0, 0), (106, .getfield 138, 3, 3, 14, 0)] (pc' := 109) (lc' := [(0, (2, 3, 0)), (1, (0, 0, j1))]) (st' := [(3, 274, 7), (2, 3, 0)]) (M' := M25) (C' := True) (by decide +kernel) rfl trivial ?_
    refine ax_cVv_r hX (G1 := gX3_entersMore) (d1 := d + 1) (i := 364) (n := 1) (as := [(3, 274, 7)]) (st := []) (c := 3) (a := 0) (by decide +kernel) ax_cls3 calX3_entersMore (by omega) rfl wt_1260 wt_1262 ws_99 (Nat.le_of_ble_eq_true rfl) rfl (fun hY => c_X3_entersMore d 7 M25 hY) (fun M26 hX => ?_)
    refine ax_lump ax_layM ok_kX3 [(112, .iload_n 1, 1, 0, 0, 0)] (pc' := 113) (lc' := [(0, (2, 3, 0)), (1, (0, 0, j1))]) (st' := [(0, 0, j1)]) (M' := M26) (C' := True) (by decide +kernel) rfl trivial ?_
    refine ax_zle_s hX (off := 11) (tgt := 124) (by decide +kernel) (by decide) (fun h27 hX => ?_) (fun h27 hX => ?_)
    · refine ax_lump ax_layM ok_kX3 [(124, .iconst 0, 1, 0, 0, 0)] (pc' := 125) (lc' := [(0, (2, 3, 0)), (1, (0, 0, j1))]) (st' := [(0, 0, 0)]) (M' := M26) (C' := True) (by decide +kernel) rfl trivial ?_
      refine ax_rngS (fun hr => ?_)
      exact ax_iret (by decide +kernel) rfl ⟨rfl, rfl, hr.1, hr.2⟩
    · refine ax_lump ax_layM ok_kX3 [(116, .aload_n 0, 1, 0, 0, 0), (117, .iload_n 1, 1, 0, 0, 0)] (pc' := 118) (lc' := [(0, (2, 3, 0)), (1, (0, 0, j1))]) (st' := [(0, 0, j1), (2, 3, 0)]) (M' := M26) (C' := True) (by decide +kernel) rfl trivial ?_
      refine ax_cVm_r hX (G1 := gX3_adds) (d1 := d + 0) (i := 367) (n := 1) (as := [(0, 0, j1)]) (st := []) (c := 3) (a := 0) (by decide +kernel) ax_cls3 calX3_adds (by omega) rfl wt_1264 wt_1266 ws_100 (Nat.le_of_ble_eq_true rfl) rfl (fun hY => c_X3_adds d j1 M26 hY) (fun y28 h_y28 hX => ?_)
      refine ax_lump ax_layM ok_kX3 [(121, .goto 4, 3, 125, 0, 0)] (pc' := 125) (lc' := [(0, (2, 3, 0)), (1, (0, 0, j1))]) (st' := [(0, 0, y28.1)]) (M' := y28.2) (C' := True) (by decide +kernel) rfl trivial ?_
      refine ax_rngS (fun hr => ?_)
      exact ax_iret (by decide +kernel) rfl ⟨rfl, rfl, hr.1, hr.2⟩
  · refine ax_lump ax_layM ok_kX3 [(92, .iconst 1, 1, 0, 0, 0), (93, .goto 4, 3, 97, 0, 0)] (pc' := 97) (lc' := [(0, (2, 3, 0)), (1, (0, 0, j1))]) (st' := [(0, 0, 1), (2, 3, 0)]) (M' := M21) (C' := True) (by decide +kernel) rfl trivial ?_
    refine ax_cSi (G1 := gX3_flag) (d1 := d + 0) (i := 44) (n := 1) (as := [(0, 0, 1)]) (st := [(2, 3, 0)]) (by decide +kernel) calX3_flag (by omega) rfl wt_904 wt_905 (Nat.le_of_ble_eq_true rfl) rfl (c_X3_flag d 1 M21 (by omega)) (fun hc29 => ?_)
    refine ax_lump ax_layM ok_kX3 [(100, .i2l, 1, 0, 0, 0)] (pc' := 101) (lc' := [(0, (2, 3, 0)), (1, (0, 0, j1))]) (st' := [(1, 0, (f_X3_flag 1 M21)), (2, 3, 0)]) (M' := M21) (C' := True) (by decide +kernel) rfl trivial ?_
    refine ax_cVv_r hX (G1 := gX3_enters) (d1 := d + 0) (i := 345) (n := 1) (as := [(1, 0, (f_X3_flag 1 M21))]) (st := []) (c := 3) (a := 0) (by decide +kernel) ax_cls3 calX3_enters (by omega) rfl wt_1256 wt_1258 ws_98 (Nat.le_of_ble_eq_true rfl) rfl (fun hY => c_X3_enters d (f_X3_flag 1 M21) M21 hY) (fun M30 hX => ?_)
    refine ax_lump ax_layM ok_kX3 [(104, .aload_n 0, 1, 0, 0, 0), (105, .aload_n 0, 1, 0, 0, 0), (106, .getfield 138, 3, 3, 14, 0)] (pc' := 109) (lc' := [(0, (2, 3, 0)), (1, (0, 0, j1))]) (st' := [(3, 274, 7), (2, 3, 0)]) (M' := M30) (C' := True) (by decide +kernel) rfl trivial ?_
    refine ax_cVv_r hX (G1 := gX3_entersMore) (d1 := d + 1) (i := 364) (n := 1) (as := [(3, 274, 7)]) (st := []) (c := 3) (a := 0) (by decide +kernel) ax_cls3 calX3_entersMore (by omega) rfl wt_1260 wt_1262 ws_99 (Nat.le_of_ble_eq_true rfl) rfl (fun hY => c_X3_entersMore d 7 M30 hY) (fun M31 hX => ?_)
    refine ax_lump ax_layM ok_kX3 [(112, .iload_n 1, 1, 0, 0, 0)] (pc' := 113) (lc' := [(0, (2, 3, 0)), (1, (0, 0, j1))]) (st' := [(0, 0, j1)]) (M' := M31) (C' := True) (by decide +kernel) rfl trivial ?_
    refine ax_zle_s hX (off := 11) (tgt := 124) (by decide +kernel) (by decide) (fun h32 hX => ?_) (fun h32 hX => ?_)
    · refine ax_lump ax_layM ok_kX3 [(124, .iconst 0, 1, 0, 0, 0)] (pc' := 125) (lc' := [(0, (2, 3, 0)), (1, (0, 0, j1))]) (st' := [(0, 0, 0)]) (M' := M31) (C' := True) (by decide +kernel) rfl trivial ?_
      refine ax_rngS (fun hr => ?_)
      exact ax_iret (by decide +kernel) rfl ⟨rfl, rfl, hr.1, hr.2⟩
    · refine ax_lump ax_layM ok_kX3 [(116, .aload_n 0, 1, 0, 0, 0), (117, .iload_n 1, 1, 0, 0, 0)] (pc' := 118) (lc' := [(0, (2, 3, 0)), (1, (0, 0, j1))]) (st' := [(0, 0, j1), (2, 3, 0)]) (M' := M31) (C' := True) (by decide +kernel) rfl trivial ?_
      refine ax_cVm_r hX (G1 := gX3_adds) (d1 := d + 0) (i := 367) (n := 1) (as := [(0, 0, j1)]) (st := []) (c := 3) (a := 0) (by decide +kernel) ax_cls3 calX3_adds (by omega) rfl wt_1264 wt_1266 ws_100 (Nat.le_of_ble_eq_true rfl) rfl (fun hY => c_X3_adds d j1 M31 hY) (fun y33 h_y33 hX => ?_)
      refine ax_lump ax_layM ok_kX3 [(121, .goto 4, 3, 125, 0, 0)] (pc' := 125) (lc' := [(0, (2, 3, 0)), (1, (0, 0, j1))]) (st' := [(0, 0, y33.1)]) (M' := y33.2) (C' := True) (by decide +kernel) rfl trivial ?_
      refine ax_rngS (fun hr => ?_)
      exact ax_iret (by decide +kernel) rfl ⟨rfl, rfl, hr.1, hr.2⟩
def f_X3_day  (M : ax_M) : Prop × Int × ax_M := ax_bd (ax_up M 0 0 0) (fun M1 => ax_bd (f_X3_begins 80 M1) (fun y2 => ax_bd (ax_up y2.2 0 31 0) (fun M3 => f_X3_day_L17  100   M3 (fun M10 => ax_rc (f_X3_putsBy M10) (fun M11 => ax_bd (f_X3_marks 7 M11) (fun M12 => f_X3_day_L56  100  0 M12 (fun z19 M20 => f_X3_day_J78 z19 M20)))))))
set_option maxRecDepth 100000 in
set_option maxHeartbeats 4000000 in
theorem c_X3_day (d : Nat)  (M : ax_M)  (hX : (f_X3_day  M).1) : ax_Met ax_LM gX3_day (d + 10) [(2, 3, 0)] M ((ax_qm (-2147483648) 2147483647) (f_X3_day  M).2) := by
  refine ax_body (by decide) (fun X => Nat.le_of_ble_eq_true rfl) (fun hok => ?_)
  show ax_W ax_LM gX3_day (d + 10) 0 [(0, (2, 3, 0))] [] M _
  unfold f_X3_day at hX ⊢
  refine ax_lump ax_layM ok_kX3 [(0, .aload_n 0, 1, 0, 0, 0), (1, .iconst 0, 1, 0, 0, 0), (2, .putfield 3, 3, 3, 0, 0)] (pc' := 5) (lc' := [(0, (2, 3, 0))]) (st' := []) (M' := (ax_up M 0 0 0)) (C' := (True ∧ (0 ≤ 0 ∧ 0 < ((2 : Nat) : Int)))) (by decide +kernel) rfl ⟨trivial, by omega⟩ ?_
  refine ax_bdMe_s hX (fun M1 hM_M1 hX => ?_)
  refine ax_lump ax_layM ok_kX3 [(5, .aload_n 0, 1, 0, 0, 0), (6, .bipush 80, 2, 0, 0, 0)] (pc' := 8) (lc' := [(0, (2, 3, 0))]) (st' := [(0, 0, 80), (2, 3, 0)]) (M' := M1) (C' := True) (by decide +kernel) rfl trivial ?_
  refine ax_cVm_s hX (G1 := gX3_begins) (d1 := d + 1) (i := 102) (n := 1) (as := [(0, 0, 80)]) (st := []) (c := 3) (a := 0) (by decide +kernel) ax_cls3 calX3_begins (by omega) rfl wt_887 wt_889 ws_70 (Nat.le_of_ble_eq_true rfl) rfl (c_X3_begins d 80 M1 (by omega)) (fun y2 h_y2 hX => ?_)
  refine ax_lump ax_layM ok_kX3 [(11, .pop, 1, 0, 0, 0), (12, .aload_n 0, 1, 0, 0, 0), (13, .iconst 0, 1, 0, 0, 0), (14, .putfield 397, 3, 3, 31, 0)] (pc' := 17) (lc' := [(0, (2, 3, 0))]) (st' := []) (M' := (ax_up y2.2 0 31 0)) (C' := (True ∧ (0 ≤ 0 ∧ 0 < ((81 : Nat) : Int)))) (by decide +kernel) rfl ⟨trivial, by omega⟩ ?_
  refine ax_bdMe_s hX (fun M3 hM_M3 hX => ?_)
  refine w_X3_day_L17 d  _  (fun M10 hx_10 hX => ?_) 100   M3   hX
  refine ax_lump ax_layM ok_kX3 [(42, .aload_n 0, 1, 0, 0, 0)] (pc' := 43) (lc' := [(0, (2, 3, 0))]) (st' := [(2, 3, 0)]) (M' := M10) (C' := True) (by decide +kernel) rfl trivial ?_
  refine ax_cVv_r hX (G1 := gX3_putsBy) (d1 := d + 0) (i := 354) (n := 0) (as := []) (st := []) (c := 3) (a := 0) (by decide +kernel) ax_cls3 calX3_putsBy (by omega) rfl wt_1136 wt_1138 ws_81 (Nat.le_of_ble_eq_true rfl) rfl (fun hY => c_X3_putsBy d  M10 hY) (fun M11 hX => ?_)
  refine ax_lump ax_layM ok_kX3 [(46, .aload_n 0, 1, 0, 0, 0), (47, .aload_n 0, 1, 0, 0, 0), (48, .getfield 138, 3, 3, 14, 0)] (pc' := 51) (lc' := [(0, (2, 3, 0))]) (st' := [(3, 274, 7), (2, 3, 0)]) (M' := M11) (C' := True) (by decide +kernel) rfl trivial ?_
  refine ax_cVv_s hX (G1 := gX3_marks) (d1 := d + 0) (i := 357) (n := 1) (as := [(3, 274, 7)]) (st := []) (c := 3) (a := 0) (by decide +kernel) ax_cls3 calX3_marks (by omega) rfl wt_1140 wt_1142 ws_82 (Nat.le_of_ble_eq_true rfl) rfl (c_X3_marks d 7 M11) (fun M12 hX => ?_)
  refine ax_lump ax_layM ok_kX3 [(54, .iconst 0, 1, 0, 0, 0), (55, .istore_n 1, 1, 0, 0, 0)] (pc' := 56) (lc' := [(1, (0, 0, 0)), (0, (2, 3, 0))]) (st' := []) (M' := M12) (C' := True) (by decide +kernel) rfl trivial ?_
  refine ax_pk [1,0] (lc' := [(0, (2, 3, 0)), (1, (0, 0, 0))]) rfl ?_
  refine w_X3_day_L56 d  _  (fun z19 M20 hx_20 hX => ?_) 100  0 M12   hX
  exact w_X3_day_J78 d z19 M20  hX
