def f_X2_doAct (x1 : Int) (M : ax_M) : Prop × Int × ax_M := (if x1 < 0 then (True, ((-1), M)) else (if x1 < 80 then (if (M 34 x1.toNat) = 99 then ax_bd (f_X0_clearFirst 1 (f_X2_kindOfRow (f_X2_digitAt (x1 + 1) M) M) M) (fun y6 => (True, (y6.1, y6.2))) else (if (M 34 x1.toNat) = 104 then ax_bd (f_X0_coolAll 1 M) (fun y8 => (True, (y8.1, y8.2))) else (if (M 34 x1.toNat) = 108 then ax_bd (f_X0_level 1 M) (fun y10 => (True, (y10.1, y10.2))) else (if (M 34 x1.toNat) = 109 then ax_bd (f_X0_mergeFolder 1 (f_X2_digitAt (x1 + 1) M) M) (fun y13 => (True, (y13.1, y13.2))) else (if (M 34 x1.toNat) = 113 then ax_bd (f_X0_sealRun 1 M) (fun y15 => (True, (y15.1, y15.2))) else (if (M 34 x1.toNat) = 119 then ax_rc (f_X0_write 1 (ax_wr ((ax_wr (10 * (f_X2_digitAt (x1 + 1) M))) + (f_X2_digitAt (x1 + 2) M))) (ax_wr ((ax_wr (10 * (f_X2_digitAt (x1 + 3) M))) + (f_X2_digitAt (x1 + 4) M))) (M 0 7) M) (fun y21 => (True, (y21.1, y21.2))) else (True, ((-1), M)))))))) else (True, ((-1), M))))
set_option maxRecDepth 100000 in
set_option maxHeartbeats 4000000 in
theorem c_X2_doAct (d : Nat) (x1 : Int) (M : ax_M)  (hX : (f_X2_doAct x1 M).1) : ax_Met ax_LC gX2_doAct (d + 6) [(2, 2, 0), (0, 0, x1)] M ((ax_qm (-2147483648) 2147483647) (f_X2_doAct x1 M).2) := by
  refine ax_body (by decide) (fun X => Nat.le_of_ble_eq_true rfl) (fun hok => ?_)
  have hr_x1 : (-2147483648) ≤ x1 ∧ x1 ≤ 2147483647 := hok (0, 0, x1) (by simp)
  show ax_W ax_LC gX2_doAct (d + 6) 0 [(0, (2, 2, 0)), (1, (0, 0, x1))] [] M _
  unfold f_X2_doAct at hX ⊢
  refine ax_lump ax_layC ok_kX2 [(0, .iload_n 1, 1, 0, 0, 0)] (pc' := 1) (lc' := [(0, (2, 2, 0)), (1, (0, 0, x1))]) (st' := [(0, 0, x1)]) (M' := M) (C' := True) (by decide +kernel) rfl trivial ?_
  refine ax_zlt_s hX (off := 9) (tgt := 10) (by decide +kernel) (by decide) (fun h1 hX => ?_) (fun h1 hX => ?_)
  · refine ax_lump ax_layC ok_kX2 [(10, .iconst (-1), 1, 0, 0, 0)] (pc' := 11) (lc' := [(0, (2, 2, 0)), (1, (0, 0, x1))]) (st' := [(0, 0, (-1))]) (M' := M) (C' := True) (by decide +kernel) rfl trivial ?_
    refine ax_rngS (fun hr => ?_)
    exact ax_iret (by decide +kernel) rfl ⟨rfl, rfl, hr.1, hr.2⟩
  · refine ax_lump ax_layC ok_kX2 [(4, .iload_n 1, 1, 0, 0, 0), (5, .bipush 80, 2, 0, 0, 0)] (pc' := 7) (lc' := [(0, (2, 2, 0)), (1, (0, 0, x1))]) (st' := [(0, 0, 80), (0, 0, x1)]) (M' := M) (C' := True) (by decide +kernel) rfl trivial ?_
    refine ax_jlt_s hX (off := 5) (tgt := 12) (by decide +kernel) (by decide) (fun h2 hX => ?_) (fun h2 hX => ?_)
    · refine ax_lump ax_layC ok_kX2 [(12, .aload_n 0, 1, 0, 0, 0), (13, .getfield 47, 3, 2, 9, 0), (16, .iload_n 1, 1, 0, 0, 0), (17, .caload, 1, 0, 0, 0)] (pc' := 18) (lc' := [(0, (2, 2, 0)), (1, (0, 0, x1))]) (st' := [(0, 0, (M 34 x1.toNat))]) (M' := M) (C' := (True ∧ (0 ≤ x1 ∧ x1 < ((80 : Nat) : Int)))) (by decide +kernel) rfl ⟨trivial, by omega⟩ ?_
      refine ax_ite_s hX (fun h3 hX => ?_) (fun h3 hX => ?_)
      · refine ax_swLk (dflt := 163) (off := 129) (ps := #[(99, 129), (104, 155), (108, 147), (109, 106), (113, 121), (119, 58)]) (len := 58) (tgt := 147) (by decide +kernel) (by decide) (by rw [h3]; rfl) (by decide) ?_
        refine ax_lump ax_layC ok_kX2 [(147, .aload_n 0, 1, 0, 0, 0), (148, .getfield 12, 3, 2, 0, 0), (151, .aload_n 0, 1, 0, 0, 0), (152, .iload_n 1, 1, 0, 0, 0), (153, .iconst 1, 1, 0, 0, 0), (154, .iadd, 1, 1, 0, 0)] (pc' := 155) (lc' := [(0, (2, 2, 0)), (1, (0, 0, x1))]) (st' := [(0, 0, (x1 + 1)), (2, 2, 0), (2, 0, 1)]) (M' := M) (C' := (True ∧ ax_r32 (x1 + 1))) (by decide +kernel) rfl ⟨trivial, ⟨by omega, by omega⟩⟩ ?_
        refine ax_cVi (G1 := gX2_digitAt) (d1 := d + 0) (i := 320) (n := 1) (as := [(0, 0, (x1 + 1))]) (st := [(2, 0, 1)]) (c := 2) (a := 0) (by decide +kernel) ax_cls2 calX2_digitAt (by omega) rfl wt_603 wt_605 ws_56 (Nat.le_of_ble_eq_true rfl) rfl (c_X2_digitAt d (x1 + 1) M) (fun hc4 => ?_)
        refine ax_cSi (G1 := gX2_kindOfRow) (d1 := d + 0) (i := 180) (n := 1) (as := [(0, 0, (f_X2_digitAt (x1 + 1) M))]) (st := [(2, 0, 1)]) (by decide +kernel) calX2_kindOfRow (by omega) rfl wt_562 wt_563 (Nat.le_of_ble_eq_true rfl) rfl (c_X2_kindOfRow d (f_X2_digitAt (x1 + 1) M) M) (fun hc5 => ?_)
        refine ax_cNm_s hX (G1 := gX0_clearFirst) (d1 := d + 4) (i := 183) (n := 1) (as := [(0, 0, (f_X2_kindOfRow (f_X2_digitAt (x1 + 1) M) M))]) (st := []) (c := 0) (a := 1) (by decide +kernel) ax_cls0 calX0_clearFirst (by omega) rfl wn_565 wt_461 ws_35 (Nat.le_of_ble_eq_true rfl) rfl (c_X0_clearFirst d 1 (f_X2_kindOfRow (f_X2_digitAt (x1 + 1) M) M) M) (fun y6 h_y6 hX => ?_)
        refine ax_rngS (fun hr => ?_)
        exact ax_iret (by decide +kernel) rfl ⟨rfl, rfl, hr.1, hr.2⟩
      · refine ax_ite_s hX (fun h7 hX => ?_) (fun h7 hX => ?_)
        · refine ax_swLk (dflt := 163) (off := 155) (ps := #[(99, 129), (104, 155), (108, 147), (109, 106), (113, 121), (119, 58)]) (len := 58) (tgt := 173) (by decide +kernel) (by decide) (by rw [h7]; rfl) (by decide) ?_
          refine ax_lump ax_layC ok_kX2 [(173, .aload_n 0, 1, 0, 0, 0), (174, .getfield 12, 3, 2, 0, 0)] (pc' := 177) (lc' := [(0, (2, 2, 0)), (1, (0, 0, x1))]) (st' := [(2, 0, 1)]) (M' := M) (C' := True) (by decide +kernel) rfl trivial ?_
          refine ax_cNm_s hX (G1 := gX0_coolAll) (d1 := d + 1) (i := 192) (n := 0) (as := []) (st := []) (c := 0) (a := 1) (by decide +kernel) ax_cls0 calX0_coolAll (by omega) rfl wn_575 wt_577 ws_53 (Nat.le_of_ble_eq_true rfl) rfl (c_X0_coolAll d 1 M) (fun y8 h_y8 hX => ?_)
          refine ax_rngS (fun hr => ?_)
          exact ax_iret (by decide +kernel) rfl ⟨rfl, rfl, hr.1, hr.2⟩
        · refine ax_ite_s hX (fun h9 hX => ?_) (fun h9 hX => ?_)
          · refine ax_swLk (dflt := 163) (off := 147) (ps := #[(99, 129), (104, 155), (108, 147), (109, 106), (113, 121), (119, 58)]) (len := 58) (tgt := 165) (by decide +kernel) (by decide) (by rw [h9]; rfl) (by decide) ?_
            refine ax_lump ax_layC ok_kX2 [(165, .aload_n 0, 1, 0, 0, 0), (166, .getfield 12, 3, 2, 0, 0)] (pc' := 169) (lc' := [(0, (2, 2, 0)), (1, (0, 0, x1))]) (st' := [(2, 0, 1)]) (M' := M) (C' := True) (by decide +kernel) rfl trivial ?_
            refine ax_cNm_s hX (G1 := gX0_level) (d1 := d + 2) (i := 186) (n := 0) (as := []) (st := []) (c := 0) (a := 1) (by decide +kernel) ax_cls0 calX0_level (by omega) rfl wn_570 wt_507 ws_44 (Nat.le_of_ble_eq_true rfl) rfl (c_X0_level d 1 M) (fun y10 h_y10 hX => ?_)
            refine ax_rngS (fun hr => ?_)
            exact ax_iret (by decide +kernel) rfl ⟨rfl, rfl, hr.1, hr.2⟩
          · refine ax_ite_s hX (fun h11 hX => ?_) (fun h11 hX => ?_)
            · refine ax_swLk (dflt := 163) (off := 106) (ps := #[(99, 129), (104, 155), (108, 147), (109, 106), (113, 121), (119, 58)]) (len := 58) (tgt := 124) (by decide +kernel) (by decide) (by rw [h11]; rfl) (by decide) ?_
              refine ax_lump ax_layC ok_kX2 [(124, .aload_n 0, 1, 0, 0, 0), (125, .getfield 12, 3, 2, 0, 0), (128, .aload_n 0, 1, 0, 0, 0), (129, .iload_n 1, 1, 0, 0, 0), (130, .iconst 1, 1, 0, 0, 0), (131, .iadd, 1, 1, 0, 0)] (pc' := 132) (lc' := [(0, (2, 2, 0)), (1, (0, 0, x1))]) (st' := [(0, 0, (x1 + 1)), (2, 2, 0), (2, 0, 1)]) (M' := M) (C' := (True ∧ ax_r32 (x1 + 1))) (by decide +kernel) rfl ⟨trivial, ⟨by omega, by omega⟩⟩ ?_
              refine ax_cVi (G1 := gX2_digitAt) (d1 := d + 0) (i := 320) (n := 1) (as := [(0, 0, (x1 + 1))]) (st := [(2, 0, 1)]) (c := 2) (a := 0) (by decide +kernel) ax_cls2 calX2_digitAt (by omega) rfl wt_603 wt_605 ws_56 (Nat.le_of_ble_eq_true rfl) rfl (c_X2_digitAt d (x1 + 1) M) (fun hc12 => ?_)
              refine ax_cNm_s hX (G1 := gX0_mergeFolder) (d1 := d + 4) (i := 171) (n := 1) (as := [(0, 0, (f_X2_digitAt (x1 + 1) M))]) (st := []) (c := 0) (a := 1) (by decide +kernel) ax_cls0 calX0_mergeFolder (by omega) rfl wn_545 wt_547 ws_51 (Nat.le_of_ble_eq_true rfl) rfl (c_X0_mergeFolder d 1 (f_X2_digitAt (x1 + 1) M) M) (fun y13 h_y13 hX => ?_)
              refine ax_rngS (fun hr => ?_)
              exact ax_iret (by decide +kernel) rfl ⟨rfl, rfl, hr.1, hr.2⟩
            · refine ax_ite_s hX (fun h14 hX => ?_) (fun h14 hX => ?_)
              · refine ax_swLk (dflt := 163) (off := 121) (ps := #[(99, 129), (104, 155), (108, 147), (109, 106), (113, 121), (119, 58)]) (len := 58) (tgt := 139) (by decide +kernel) (by decide) (by rw [h14]; rfl) (by decide) ?_
                refine ax_lump ax_layC ok_kX2 [(139, .aload_n 0, 1, 0, 0, 0), (140, .getfield 12, 3, 2, 0, 0)] (pc' := 143) (lc' := [(0, (2, 2, 0)), (1, (0, 0, x1))]) (st' := [(2, 0, 1)]) (M' := M) (C' := True) (by decide +kernel) rfl trivial ?_
                refine ax_cNm_s hX (G1 := gX0_sealRun) (d1 := d + 4) (i := 177) (n := 0) (as := []) (st := []) (c := 0) (a := 1) (by decide +kernel) ax_cls0 calX0_sealRun (by omega) rfl wn_557 wt_400 ws_20 (Nat.le_of_ble_eq_true rfl) rfl (c_X0_sealRun d 1 M) (fun y15 h_y15 hX => ?_)
                refine ax_rngS (fun hr => ?_)
                exact ax_iret (by decide +kernel) rfl ⟨rfl, rfl, hr.1, hr.2⟩
              · refine ax_ite_s hX (fun h16 hX => ?_) (fun h16 hX => ?_)
                · refine ax_swLk (dflt := 163) (off := 58) (ps := #[(99, 129), (104, 155), (108, 147), (109, 106), (113, 121), (119, 58)]) (len := 58) (tgt := 76) (by decide +kernel) (by decide) (by rw [h16]; rfl) (by decide) ?_
                  refine ax_lump ax_layC ok_kX2 [(76, .aload_n 0, 1, 0, 0, 0), (77, .getfield 12, 3, 2, 0, 0), (80, .bipush 10, 2, 0, 0, 0), (82, .aload_n 0, 1, 0, 0, 0), (83, .iload_n 1, 1, 0, 0, 0), (84, .iconst 1, 1, 0, 0, 0), (85, .iadd, 1, 1, 0, 0)] (pc' := 86) (lc' := [(0, (2, 2, 0)), (1, (0, 0, x1))]) (st' := [(0, 0, (x1 + 1)), (2, 2, 0), (0, 0, 10), (2, 0, 1)]) (M' := M) (C' := (True ∧ ax_r32 (x1 + 1))) (by decide +kernel) rfl ⟨trivial, ⟨by omega, by omega⟩⟩ ?_
                  refine ax_cVi (G1 := gX2_digitAt) (d1 := d + 0) (i := 320) (n := 1) (as := [(0, 0, (x1 + 1))]) (st := [(0, 0, 10), (2, 0, 1)]) (c := 2) (a := 0) (by decide +kernel) ax_cls2 calX2_digitAt (by omega) rfl wt_603 wt_605 ws_56 (Nat.le_of_ble_eq_true rfl) rfl (c_X2_digitAt d (x1 + 1) M) (fun hc17 => ?_)
                  refine ax_lump ax_layC ok_kX2 [(89, .imul, 1, 0, 0, 0), (90, .aload_n 0, 1, 0, 0, 0), (91, .iload_n 1, 1, 0, 0, 0), (92, .iconst 2, 1, 0, 0, 0), (93, .iadd, 1, 1, 0, 0)] (pc' := 94) (lc' := [(0, (2, 2, 0)), (1, (0, 0, x1))]) (st' := [(0, 0, (x1 + 2)), (2, 2, 0), (0, 0, (ax_wr (10 * (f_X2_digitAt (x1 + 1) M)))), (2, 0, 1)]) (M' := M) (C' := (True ∧ ax_r32 (x1 + 2))) (by decide +kernel) rfl ⟨trivial, ⟨by omega, by omega⟩⟩ ?_
                  refine ax_cVi (G1 := gX2_digitAt) (d1 := d + 0) (i := 320) (n := 1) (as := [(0, 0, (x1 + 2))]) (st := [(0, 0, (ax_wr (10 * (f_X2_digitAt (x1 + 1) M)))), (2, 0, 1)]) (c := 2) (a := 0) (by decide +kernel) ax_cls2 calX2_digitAt (by omega) rfl wt_603 wt_605 ws_56 (Nat.le_of_ble_eq_true rfl) rfl (c_X2_digitAt d (x1 + 2) M) (fun hc18 => ?_)
                  refine ax_lump ax_layC ok_kX2 [(97, .iadd, 1, 0, 0, 0), (98, .bipush 10, 2, 0, 0, 0), (100, .aload_n 0, 1, 0, 0, 0), (101, .iload_n 1, 1, 0, 0, 0), (102, .iconst 3, 1, 0, 0, 0), (103, .iadd, 1, 1, 0, 0)] (pc' := 104) (lc' := [(0, (2, 2, 0)), (1, (0, 0, x1))]) (st' := [(0, 0, (x1 + 3)), (2, 2, 0), (0, 0, 10), (0, 0, (ax_wr ((ax_wr (10 * (f_X2_digitAt (x1 + 1) M))) + (f_X2_digitAt (x1 + 2) M)))), (2, 0, 1)]) (M' := M) (C' := (True ∧ ax_r32 (x1 + 3))) (by decide +kernel) rfl ⟨trivial, ⟨by omega, by omega⟩⟩ ?_
                  refine ax_cVi (G1 := gX2_digitAt) (d1 := d + 0) (i := 320) (n := 1) (as := [(0, 0, (x1 + 3))]) (st := [(0, 0, 10), (0, 0, (ax_wr ((ax_wr (10 * (f_X2_digitAt (x1 + 1) M))) + (f_X2_digitAt (x1 + 2) M)))), (2, 0, 1)]) (c := 2) (a := 0) (by decide +kernel) ax_cls2 calX2_digitAt (by omega) rfl wt_603 wt_605 ws_56 (Nat.le_of_ble_eq_true rfl) rfl (c_X2_digitAt d (x1 + 3) M) (fun hc19 => ?_)
                  refine ax_lump ax_layC ok_kX2 [(107, .imul, 1, 0, 0, 0), (108, .aload_n 0, 1, 0, 0, 0), (109, .iload_n 1, 1, 0, 0, 0), (110, .iconst 4, 1, 0, 0, 0), (111, .iadd, 1, 1, 0, 0)] (pc' := 112) (lc' := [(0, (2, 2, 0)), (1, (0, 0, x1))]) (st' := [(0, 0, (x1 + 4)), (2, 2, 0), (0, 0, (ax_wr (10 * (f_X2_digitAt (x1 + 3) M)))), (0, 0, (ax_wr ((ax_wr (10 * (f_X2_digitAt (x1 + 1) M))) + (f_X2_digitAt (x1 + 2) M)))), (2, 0, 1)]) (M' := M) (C' := (True ∧ ax_r32 (x1 + 4))) (by decide +kernel) rfl ⟨trivial, ⟨by omega, by omega⟩⟩ ?_
                  refine ax_cVi (G1 := gX2_digitAt) (d1 := d + 0) (i := 320) (n := 1) (as := [(0, 0, (x1 + 4))]) (st := [(0, 0, (ax_wr (10 * (f_X2_digitAt (x1 + 3) M)))), (0, 0, (ax_wr ((ax_wr (10 * (f_X2_digitAt (x1 + 1) M))) + (f_X2_digitAt (x1 + 2) M)))), (2, 0, 1)]) (c := 2) (a := 0) (by decide +kernel) ax_cls2 calX2_digitAt (by omega) rfl wt_603 wt_605 ws_56 (Nat.le_of_ble_eq_true rfl) rfl (c_X2_digitAt d (x1 + 4) M) (fun hc20 => ?_)
                  refine ax_lump ax_layC ok_kX2 [(115, .iadd, 1, 0, 0, 0), (116, .aload_n 0, 1, 0, 0, 0), (117, .getfield 40, 3, 2, 7, 0)] (pc' := 120) (lc' := [(0, (2, 2, 0)), (1, (0, 0, x1))]) (st' := [(2, 1, (M 0 7)), (0, 0, (ax_wr ((ax_wr (10 * (f_X2_digitAt (x1 + 3) M))) + (f_X2_digitAt (x1 + 4) M)))), (0, 0, (ax_wr ((ax_wr (10 * (f_X2_digitAt (x1 + 1) M))) + (f_X2_digitAt (x1 + 2) M)))), (2, 0, 1)]) (M' := M) (C' := True) (by decide +kernel) rfl trivial ?_
                  refine ax_cNm_r hX (G1 := gX0_write) (d1 := d + 5) (i := 145) (n := 3) (as := [(0, 0, (ax_wr ((ax_wr (10 * (f_X2_digitAt (x1 + 1) M))) + (f_X2_digitAt (x1 + 2) M)))), (0, 0, (ax_wr ((ax_wr (10 * (f_X2_digitAt (x1 + 3) M))) + (f_X2_digitAt (x1 + 4) M)))), (2, 1, (M 0 7))]) (st := []) (c := 0) (a := 1) (by decide +kernel) ax_cls0 calX0_write (by omega) rfl wn_377 wt_379 ws_15 (Nat.le_of_ble_eq_true rfl) rfl (fun hY => c_X0_write d 1 (ax_wr ((ax_wr (10 * (f_X2_digitAt (x1 + 1) M))) + (f_X2_digitAt (x1 + 2) M))) (ax_wr ((ax_wr (10 * (f_X2_digitAt (x1 + 3) M))) + (f_X2_digitAt (x1 + 4) M))) (M 0 7) M hY) (fun y21 h_y21 hX => ?_)
                  refine ax_rngS (fun hr => ?_)
                  exact ax_iret (by decide +kernel) rfl ⟨rfl, rfl, hr.1, hr.2⟩
                · refine ax_swLk (dflt := 163) (off := 163) (ps := #[(99, 129), (104, 155), (108, 147), (109, 106), (113, 121), (119, 58)]) (len := 58) (tgt := 181) (by decide +kernel) (by decide) (by simp [Op.lookupswitch.offset, Ne.symm h3, h3, Ne.symm h7, h7, Ne.symm h9, h9, Ne.symm h11, h11, Ne.symm h14, h14, Ne.symm h16, h16]) (by decide) ?_
                  refine ax_lump ax_layC ok_kX2 [(181, .iconst (-1), 1, 0, 0, 0)] (pc' := 182) (lc' := [(0, (2, 2, 0)), (1, (0, 0, x1))]) (st' := [(0, 0, (-1))]) (M' := M) (C' := True) (by decide +kernel) rfl trivial ?_
                  refine ax_rngS (fun hr => ?_)
                  exact ax_iret (by decide +kernel) rfl ⟨rfl, rfl, hr.1, hr.2⟩
    · refine ax_lump ax_layC ok_kX2 [(10, .iconst (-1), 1, 0, 0, 0)] (pc' := 11) (lc' := [(0, (2, 2, 0)), (1, (0, 0, x1))]) (st' := [(0, 0, (-1))]) (M' := M) (C' := True) (by decide +kernel) rfl trivial ?_
      refine ax_rngS (fun hr => ?_)
      exact ax_iret (by decide +kernel) rfl ⟨rfl, rfl, hr.1, hr.2⟩
def f_X2_tryYears_B12 (a3 : Int) (w2 : Int) (i : Int)  (M : ax_M) (kc : ax_M → Prop × ax_M) (kx : ax_M → Prop × ax_M) : Prop × ax_M := ax_bd (f_X2_draw 4 M) (fun y3 => (if 3 ≤ y3.1 then ax_bd (f_X2_draw 4 y3.2) (fun y5 => ax_bd (f_X2_draw 100 y5.2) (fun y6 => ax_rc (f_X0_write 13 y5.1 y6.1 a3 y6.2) (fun y7 => kc y7.2))) else ax_bd (f_X2_draw 24 y3.2) (fun y8 => ax_bd (f_X2_draw 100 y8.2) (fun y9 => ax_rc (f_X0_write 13 y8.1 y9.1 a3 y9.2) (fun y10 => kc y10.2)))))
def f_X2_tryYears_L12 (a3 : Int) (w2 : Int) : Nat → Int → ax_M → (ax_M → Prop × ax_M) → Prop × ax_M
  | 0, i, M, kx => kx M
  | n + 1, i, M, kx => f_X2_tryYears_B12 a3 w2 i  M (fun M9 => f_X2_tryYears_L12 a3 w2 n (i + 1) M9 kx) kx
set_option maxRecDepth 100000 in
set_option maxHeartbeats 4000000 in
theorem wb_X2_tryYears_B12 (d : Nat) (a3 : Int) (w2 : Int) (i : Int)  (M : ax_M) (kc : ax_M → Prop × ax_M) (kx : ax_M → Prop × ax_M) (hw_w2 : 1 ≤ w2 ∧ w2 ≤ 60) (hi : 0 ≤ i ∧ i < w2)  (hkc : ∀ (M9 : ax_M), (kc M9).1 → ax_W ax_LC gX2_tryYears (d + 6) 12 [(0, (2, 2, 0)), (2, (0, 0, w2)), (3, (2, 1, a3)), (4, (0, 0, (i + 1)))] [] M9 (ax_qv (kc M9).2)) (hkx : ∀ (M9 : ax_M), (True) → (kx M9).1 → ax_W ax_LC gX2_tryYears (d + 6) 66 [] [] M9 (ax_qv (kx M9).2)) (hX : (f_X2_tryYears_B12 a3 w2 i  M kc kx).1) : ax_W ax_LC gX2_tryYears (d + 6) 18 [(0, (2, 2, 0)), (2, (0, 0, w2)), (3, (2, 1, a3)), (4, (0, 0, i))] [] M (ax_qv (f_X2_tryYears_B12 a3 w2 i  M kc kx).2) := by
  unfold f_X2_tryYears_B12 at hX ⊢
  refine ax_lump ax_layC ok_kX2 [(18, .aload_n 0, 1, 0, 0, 0), (19, .iconst 4, 1, 0, 0, 0)] (pc' := 20) (lc' := [(0, (2, 2, 0)), (2, (0, 0, w2)), (3, (2, 1, a3)), (4, (0, 0, i))]) (st' := [(0, 0, 4), (2, 2, 0)]) (M' := M) (C' := True) (by decide +kernel) rfl trivial ?_
  refine ax_cVm_s hX (G1 := gX2_draw) (d1 := d + 0) (i := 325) (n := 1) (as := [(0, 0, 4)]) (st := []) (c := 2) (a := 0) (by decide +kernel) ax_cls2 calX2_draw (by omega) rfl wt_740 wt_742 ws_66 (Nat.le_of_ble_eq_true rfl) rfl (c_X2_draw d 4 M) (fun y3 h_y3 hX => ?_)
  refine ax_lump ax_layC ok_kX2 [(23, .iconst 3, 1, 0, 0, 0)] (pc' := 24) (lc' := [(0, (2, 2, 0)), (2, (0, 0, w2)), (3, (2, 1, a3)), (4, (0, 0, i))]) (st' := [(0, 0, 3), (0, 0, y3.1)]) (M' := y3.2) (C' := True) (by decide +kernel) rfl trivial ?_
  refine ax_jge_s hX (off := 12) (tgt := 36) (by decide +kernel) (by decide) (fun h4 hX => ?_) (fun h4 hX => ?_)
  · refine ax_lump ax_layC ok_kX2 [(36, .aload_n 0, 1, 0, 0, 0), (37, .iconst 4, 1, 0, 0, 0)] (pc' := 38) (lc' := [(0, (2, 2, 0)), (2, (0, 0, w2)), (3, (2, 1, a3)), (4, (0, 0, i))]) (st' := [(0, 0, 4), (2, 2, 0)]) (M' := y3.2) (C' := True) (by decide +kernel) rfl trivial ?_
    refine ax_cVm_s hX (G1 := gX2_draw) (d1 := d + 0) (i := 325) (n := 1) (as := [(0, 0, 4)]) (st := []) (c := 2) (a := 0) (by decide +kernel) ax_cls2 calX2_draw (by omega) rfl wt_740 wt_742 ws_66 (Nat.le_of_ble_eq_true rfl) rfl (c_X2_draw d 4 y3.2) (fun y5 h_y5 hX => ?_)
    refine ax_lump ax_layC ok_kX2 [(41, .istore 5, 2, 0, 0, 0), (43, .aload_n 0, 1, 0, 0, 0), (44, .getfield 16, 3, 2, 1, 0), (47, .iload 5, 2, 0, 0, 0), (49, .aload_n 0, 1, 0, 0, 0), (50, .bipush 100, 2, 0, 0, 0)] (pc' := 52) (lc' := [(5, (0, 0, y5.1)), (0, (2, 2, 0)), (2, (0, 0, w2)), (3, (2, 1, a3)), (4, (0, 0, i))]) (st' := [(0, 0, 100), (2, 2, 0), (0, 0, y5.1), (2, 0, 13)]) (M' := y5.2) (C' := True) (by decide +kernel) rfl trivial ?_
    refine ax_cVm_s hX (G1 := gX2_draw) (d1 := d + 0) (i := 325) (n := 1) (as := [(0, 0, 100)]) (st := [(0, 0, y5.1), (2, 0, 13)]) (c := 2) (a := 0) (by decide +kernel) ax_cls2 calX2_draw (by omega) rfl wt_740 wt_742 ws_66 (Nat.le_of_ble_eq_true rfl) rfl (c_X2_draw d 100 y5.2) (fun y6 h_y6 hX => ?_)
    refine ax_lump ax_layC ok_kX2 [(55, .aload_n 3, 1, 0, 0, 0)] (pc' := 56) (lc' := [(5, (0, 0, y5.1)), (0, (2, 2, 0)), (2, (0, 0, w2)), (3, (2, 1, a3)), (4, (0, 0, i))]) (st' := [(2, 1, a3), (0, 0, y6.1), (0, 0, y5.1), (2, 0, 13)]) (M' := y6.2) (C' := True) (by decide +kernel) rfl trivial ?_
    refine ax_cNm_r hX (G1 := gX0_write) (d1 := d + 5) (i := 145) (n := 3) (as := [(0, 0, y5.1), (0, 0, y6.1), (2, 1, a3)]) (st := []) (c := 0) (a := 13) (by decide +kernel) ax_cls0 calX0_write (by omega) rfl wn_377 wt_379 ws_15 (Nat.le_of_ble_eq_true rfl) rfl (fun hY => c_X0_write d 13 y5.1 y6.1 a3 y6.2 hY) (fun y7 h_y7 hX => ?_)
    refine ax_lump ax_layC ok_kX2 [(59, .pop, 1, 0, 0, 0), (60, .iinc 4 1, 3, 1, 0, 0), (63, .goto (-51), 3, 12, 0, 0)] (pc' := 12) (lc' := [(4, (0, 0, (i + 1))), (5, (0, 0, y5.1)), (0, (2, 2, 0)), (2, (0, 0, w2)), (3, (2, 1, a3))]) (st' := []) (M' := y7.2) (C' := (True ∧ ax_r32 (i + 1))) (by decide +kernel) rfl ⟨trivial, ⟨by omega, by omega⟩⟩ ?_
    refine ax_pk [2,3,4,0] (lc' := [(0, (2, 2, 0)), (2, (0, 0, w2)), (3, (2, 1, a3)), (4, (0, 0, (i + 1)))]) rfl ?_
    exact hkc y7.2  hX
  · refine ax_lump ax_layC ok_kX2 [(27, .aload_n 0, 1, 0, 0, 0), (28, .bipush 24, 2, 0, 0, 0)] (pc' := 30) (lc' := [(0, (2, 2, 0)), (2, (0, 0, w2)), (3, (2, 1, a3)), (4, (0, 0, i))]) (st' := [(0, 0, 24), (2, 2, 0)]) (M' := y3.2) (C' := True) (by decide +kernel) rfl trivial ?_
    refine ax_cVm_s hX (G1 := gX2_draw) (d1 := d + 0) (i := 325) (n := 1) (as := [(0, 0, 24)]) (st := []) (c := 2) (a := 0) (by decide +kernel) ax_cls2 calX2_draw (by omega) rfl wt_740 wt_742 ws_66 (Nat.le_of_ble_eq_true rfl) rfl (c_X2_draw d 24 y3.2) (fun y8 h_y8 hX => ?_)
    refine ax_lump ax_layC ok_kX2 [(33, .goto 8, 3, 41, 0, 0), (41, .istore 5, 2, 0, 0, 0), (43, .aload_n 0, 1, 0, 0, 0), (44, .getfield 16, 3, 2, 1, 0), (47, .iload 5, 2, 0, 0, 0), (49, .aload_n 0, 1, 0, 0, 0), (50, .bipush 100, 2, 0, 0, 0)] (pc' := 52) (lc' := [(5, (0, 0, y8.1)), (0, (2, 2, 0)), (2, (0, 0, w2)), (3, (2, 1, a3)), (4, (0, 0, i))]) (st' := [(0, 0, 100), (2, 2, 0), (0, 0, y8.1), (2, 0, 13)]) (M' := y8.2) (C' := True) (by decide +kernel) rfl trivial ?_
    refine ax_cVm_s hX (G1 := gX2_draw) (d1 := d + 0) (i := 325) (n := 1) (as := [(0, 0, 100)]) (st := [(0, 0, y8.1), (2, 0, 13)]) (c := 2) (a := 0) (by decide +kernel) ax_cls2 calX2_draw (by omega) rfl wt_740 wt_742 ws_66 (Nat.le_of_ble_eq_true rfl) rfl (c_X2_draw d 100 y8.2) (fun y9 h_y9 hX => ?_)
    refine ax_lump ax_layC ok_kX2 [(55, .aload_n 3, 1, 0, 0, 0)] (pc' := 56) (lc' := [(5, (0, 0, y8.1)), (0, (2, 2, 0)), (2, (0, 0, w2)), (3, (2, 1, a3)), (4, (0, 0, i))]) (st' := [(2, 1, a3), (0, 0, y9.1), (0, 0, y8.1), (2, 0, 13)]) (M' := y9.2) (C' := True) (by decide +kernel) rfl trivial ?_
    refine ax_cNm_r hX (G1 := gX0_write) (d1 := d + 5) (i := 145) (n := 3) (as := [(0, 0, y8.1), (0, 0, y9.1), (2, 1, a3)]) (st := []) (c := 0) (a := 13) (by decide +kernel) ax_cls0 calX0_write (by omega) rfl wn_377 wt_379 ws_15 (Nat.le_of_ble_eq_true rfl) rfl (fun hY => c_X0_write d 13 y8.1 y9.1 a3 y9.2 hY) (fun y10 h_y10 hX => ?_)
    refine ax_lump ax_layC ok_kX2 [(59, .pop, 1, 0, 0, 0), (60, .iinc 4 1, 3, 1, 0, 0), (63, .goto (-51), 3, 12, 0, 0)] (pc' := 12) (lc' := [(4, (0, 0, (i + 1))), (5, (0, 0, y8.1)), (0, (2, 2, 0)), (2, (0, 0, w2)), (3, (2, 1, a3))]) (st' := []) (M' := y10.2) (C' := (True ∧ ax_r32 (i + 1))) (by decide +kernel) rfl ⟨trivial, ⟨by omega, by omega⟩⟩ ?_
    refine ax_pk [2,3,4,0] (lc' := [(0, (2, 2, 0)), (2, (0, 0, w2)), (3, (2, 1, a3)), (4, (0, 0, (i + 1)))]) rfl ?_
    exact hkc y10.2  hX
set_option maxRecDepth 100000 in
set_option maxHeartbeats 4000000 in
theorem w_X2_tryYears_L12 (d : Nat) (a3 : Int) (w2 : Int) (kx : ax_M → Prop × ax_M) (hw_w2 : 1 ≤ w2 ∧ w2 ≤ 60) (hkx : ∀ (M9 : ax_M), (True) → (kx M9).1 → ax_W ax_LC gX2_tryYears (d + 6) 66 [] [] M9 (ax_qv (kx M9).2)) : ∀ (n : Nat) (i : Int) (M : ax_M), 0 ≤ i ∧ n = (w2 - i).toNat → (f_X2_tryYears_L12 a3 w2 n i  M kx).1 → ax_W ax_LC gX2_tryYears (d + 6) 12 [(0, (2, 2, 0)), (2, (0, 0, w2)), (3, (2, 1, a3)), (4, (0, 0, i))] [] M (ax_qv (f_X2_tryYears_L12 a3 w2 n i  M kx).2) := by
  intro n
  induction n with
  | zero =>
    intro i M hin hX
    refine ax_lump ax_layC ok_kX2 [(12, .iload 4, 2, 0, 0, 0), (14, .iload_n 2, 1, 0, 0, 0)] (pc' := 15) (lc' := [(0, (2, 2, 0)), (2, (0, 0, w2)), (3, (2, 1, a3)), (4, (0, 0, i))]) (st' := [(0, 0, w2), (0, 0, i)]) (M' := M) (C' := True) (by decide +kernel) rfl trivial ?_
    refine ax_icmp_ge (off := 51) (tgt := 66) (by decide +kernel) (by decide) (fun h => ?_) (fun h => ?_)
    · refine ax_pk [] (lc' := []) rfl ?_
      exact hkx M trivial hX
    · exfalso; omega
  | succ n ih =>
    intro i M hin hX
    refine ax_lump ax_layC ok_kX2 [(12, .iload 4, 2, 0, 0, 0), (14, .iload_n 2, 1, 0, 0, 0)] (pc' := 15) (lc' := [(0, (2, 2, 0)), (2, (0, 0, w2)), (3, (2, 1, a3)), (4, (0, 0, i))]) (st' := [(0, 0, w2), (0, 0, i)]) (M' := M) (C' := True) (by decide +kernel) rfl trivial ?_
    refine ax_icmp_ge (off := 51) (tgt := 66) (by decide +kernel) (by decide) (fun h => ?_) (fun h => ?_)
    · exfalso; omega
    · exact wb_X2_tryYears_B12 d a3 w2 i  M _ kx hw_w2 (by omega)  (fun M9 hX => ih (i + 1)  M9 (by omega)  hX) hkx hX
def f_X2_tryYears (x1 : Int) (x2 : Int) (a3 : Int) (M : ax_M) : Prop × ax_M := ax_bd (f_X2_beginTrial M) (fun M1 => ax_bd (ax_up M1 0 16 x1) (fun M2 => f_X2_tryYears_L12 a3 x2 (x2 - 0).toNat 0  M2 (fun M11 => (True, M11))))
set_option maxRecDepth 100000 in
set_option maxHeartbeats 4000000 in
theorem c_X2_tryYears (d : Nat) (x1 : Int) (x2 : Int) (a3 : Int) (M : ax_M) (hp1 : 1 ≤ x2 ∧ x2 ≤ 60) (hX : (f_X2_tryYears x1 x2 a3 M).1) : ax_Met ax_LC gX2_tryYears (d + 6) [(2, 2, 0), (0, 0, x1), (0, 0, x2), (2, 1, a3)] M (ax_qv (f_X2_tryYears x1 x2 a3 M).2) := by
  refine ax_body (by decide) (fun X => Nat.le_of_ble_eq_true rfl) (fun hok => ?_)
  have hr_x1 : (-2147483648) ≤ x1 ∧ x1 ≤ 2147483647 := hok (0, 0, x1) (by simp)
  have hr_x2 : (-2147483648) ≤ x2 ∧ x2 ≤ 2147483647 := hok (0, 0, x2) (by simp)
  show ax_W ax_LC gX2_tryYears (d + 6) 0 [(0, (2, 2, 0)), (1, (0, 0, x1)), (2, (0, 0, x2)), (3, (2, 1, a3))] [] M _
  unfold f_X2_tryYears at hX ⊢
  refine ax_lump ax_layC ok_kX2 [(0, .aload_n 0, 1, 0, 0, 0)] (pc' := 1) (lc' := [(0, (2, 2, 0)), (1, (0, 0, x1)), (2, (0, 0, x2)), (3, (2, 1, a3))]) (st' := [(2, 2, 0)]) (M' := M) (C' := True) (by decide +kernel) rfl trivial ?_
  refine ax_cVv_s hX (G1 := gX2_beginTrial) (d1 := d + 4) (i := 249) (n := 0) (as := []) (st := []) (c := 2) (a := 0) (by decide +kernel) ax_cls2 calX2_beginTrial (by omega) rfl wt_654 wt_656 ws_59 (Nat.le_of_ble_eq_true rfl) rfl (c_X2_beginTrial d  M) (fun M1 hX => ?_)
  refine ax_lump ax_layC ok_kX2 [(4, .aload_n 0, 1, 0, 0, 0), (5, .iload_n 1, 1, 0, 0, 0), (6, .putfield 70, 3, 2, 16, 0)] (pc' := 9) (lc' := [(0, (2, 2, 0)), (1, (0, 0, x1)), (2, (0, 0, x2)), (3, (2, 1, a3))]) (st' := []) (M' := (ax_up M1 0 16 x1)) (C' := True) (by decide +kernel) rfl trivial ?_
  refine ax_bdMe_s hX (fun M2 hM_M2 hX => ?_)
  refine ax_lump ax_layC ok_kX2 [(9, .iconst 0, 1, 0, 0, 0), (10, .istore 4, 2, 0, 0, 0)] (pc' := 12) (lc' := [(4, (0, 0, 0)), (0, (2, 2, 0)), (1, (0, 0, x1)), (2, (0, 0, x2)), (3, (2, 1, a3))]) (st' := []) (M' := M2) (C' := True) (by decide +kernel) rfl trivial ?_
  refine ax_pk [1,3,4,0] (lc' := [(0, (2, 2, 0)), (2, (0, 0, x2)), (3, (2, 1, a3)), (4, (0, 0, 0))]) rfl ?_
  refine w_X2_tryYears_L12 d a3 x2 _ (by omega) (fun M11 hx_11 hX => ?_) (x2 - 0).toNat 0  M2 (by omega)  hX
  exact ax_vret (by decide +kernel) rfl ⟨rfl, rfl⟩
def f_X2_day_B37 (w1 : Int) (v3 : Int) (v4 : Int) (v5 : Int) (M : ax_M) (kc : Int → Int → Int → ax_M → Prop × Int × ax_M) (kx : Int → Int → ax_M → Prop × Int × ax_M) : Prop × Int × ax_M := (if w1 ≤ v5 then kx v3 v4 M else (if v4 ≠ 0 then kx v3 v4 M else ax_rc (f_X2_doAct v5 M) (fun y11 => (if 0 ≤ y11.1 then ax_rq ((0 ≤ v5 ∧ v5 < ((80 : Nat) : Int))) (kc (ax_wr (v3 + 1)) v4 (v5 + (if 1 < (f_X2_actSize (y11.2 34 v5.toNat) y11.2) then (f_X2_actSize (y11.2 34 v5.toNat) y11.2) else 1)) y11.2) else kc v3 1 v5 y11.2))))
def f_X2_day_L37 (w1 : Int) : Nat → Int → Int → Int → ax_M → (Int → Int → ax_M → Prop × Int × ax_M) → Prop × Int × ax_M
  | 0, _, _, _, _, _ => (False, (0, fun _ _ => 0))
  | n + 1, v3, v4, v5, M, kx => f_X2_day_B37 w1 v3 v4 v5 M (fun u3 u4 u5 M9 => f_X2_day_L37 w1 n  u3 u4 u5 M9 kx) kx
set_option maxRecDepth 100000 in
set_option maxHeartbeats 4000000 in
theorem wb_X2_day_B37 (d : Nat) (w1 : Int) (v3 : Int) (v4 : Int) (v5 : Int) (M : ax_M) (kc : Int → Int → Int → ax_M → Prop × Int × ax_M) (kx : Int → Int → ax_M → Prop × Int × ax_M) (hw_w1 : 0 ≤ w1 ∧ w1 ≤ 80)  (hv4 : 0 ≤ v4 ∧ v4 ≤ 1) (hkc : ∀ (u3 : Int) (u4 : Int) (u5 : Int) (M9 : ax_M), 0 ≤ u4 ∧ u4 ≤ 1 → (kc u3 u4 u5 M9).1 → ax_W ax_LC gX2_day (d + 7) 37 [(0, (2, 2, 0)), (1, (0, 0, w1)), (3, (0, 0, u3)), (4, (0, 0, u4)), (5, (0, 0, u5))] [] M9 ((ax_qm (-2147483648) 2147483647) (kc u3 u4 u5 M9).2)) (hkx : ∀ (x3 : Int) (x4 : Int) (M9 : ax_M), ((0 ≤ x4 ∧ x4 ≤ 1)) → (kx x3 x4 M9).1 → ax_W ax_LC gX2_day (d + 7) 88 [(0, (2, 2, 0)), (3, (0, 0, x3)), (4, (0, 0, x4))] [] M9 ((ax_qm (-2147483648) 2147483647) (kx x3 x4 M9).2)) (hX : (f_X2_day_B37 w1 v3 v4 v5 M kc kx).1) : ax_W ax_LC gX2_day (d + 7) 37 [(0, (2, 2, 0)), (1, (0, 0, w1)), (3, (0, 0, v3)), (4, (0, 0, v4)), (5, (0, 0, v5))] [] M ((ax_qm (-2147483648) 2147483647) (f_X2_day_B37 w1 v3 v4 v5 M kc kx).2) := by
  unfold f_X2_day_B37 at hX ⊢
  refine ax_lump ax_layC ok_kX2 [(37, .iload 5, 2, 0, 0, 0), (39, .iload_n 1, 1, 0, 0, 0)] (pc' := 40) (lc' := [(0, (2, 2, 0)), (1, (0, 0, w1)), (3, (0, 0, v3)), (4, (0, 0, v4)), (5, (0, 0, v5))]) (st' := [(0, 0, w1), (0, 0, v5)]) (M' := M) (C' := True) (by decide +kernel) rfl trivial ?_
  refine ax_jge_s hX (off := 48) (tgt := 88) (by decide +kernel) (by decide) (fun h9 hX => ?_) (fun h9 hX => ?_)
  · refine ax_pk [0,2,3] (lc' := [(0, (2, 2, 0)), (3, (0, 0, v3)), (4, (0, 0, v4))]) rfl ?_
    exact hkx v3 v4 M (by omega) hX
  · refine ax_lump ax_layC ok_kX2 [(43, .iload 4, 2, 0, 0, 0)] (pc' := 45) (lc' := [(0, (2, 2, 0)), (1, (0, 0, w1)), (3, (0, 0, v3)), (4, (0, 0, v4)), (5, (0, 0, v5))]) (st' := [(0, 0, v4)]) (M' := M) (C' := True) (by decide +kernel) rfl trivial ?_
    refine ax_zne_s hX (off := 43) (tgt := 88) (by decide +kernel) (by decide) (fun h10 hX => ?_) (fun h10 hX => ?_)
    · refine ax_pk [0,2,3] (lc' := [(0, (2, 2, 0)), (3, (0, 0, v3)), (4, (0, 0, v4))]) rfl ?_
      exact hkx v3 v4 M (by omega) hX
    · refine ax_lump ax_layC ok_kX2 [(48, .aload_n 0, 1, 0, 0, 0), (49, .iload 5, 2, 0, 0, 0)] (pc' := 51) (lc' := [(0, (2, 2, 0)), (1, (0, 0, w1)), (3, (0, 0, v3)), (4, (0, 0, v4)), (5, (0, 0, v5))]) (st' := [(0, 0, v5), (2, 2, 0)]) (M' := M) (C' := True) (by decide +kernel) rfl trivial ?_
      refine ax_cVm_r hX (G1 := gX2_doAct) (d1 := d + 6) (i := 213) (n := 1) (as := [(0, 0, v5)]) (st := []) (c := 2) (a := 0) (by decide +kernel) ax_cls2 calX2_doAct (by omega) rfl wt_599 wt_601 ws_55 (Nat.le_of_ble_eq_true rfl) rfl (fun hY => c_X2_doAct d v5 M hY) (fun y11 h_y11 hX => ?_)
      refine ax_zge_s hX (off := 9) (tgt := 63) (by decide +kernel) (by decide) (fun h12 hX => ?_) (fun h12 hX => ?_)
      · refine ax_rq_s hX (fun hS13 hX => ?_)
        refine ax_lump ax_layC ok_kX2 [(63, .iinc 3 1, 3, 0, 0, 0), (66, .iload 5, 2, 0, 0, 0), (68, .iconst 1, 1, 0, 0, 0), (69, .aload_n 0, 1, 0, 0, 0), (70, .getfield 47, 3, 2, 9, 0), (73, .iload 5, 2, 0, 0, 0), (75, .caload, 1, 0, 0, 0)] (pc' := 76) (lc' := [(3, (0, 0, (ax_wr (v3 + 1)))), (0, (2, 2, 0)), (1, (0, 0, w1)), (4, (0, 0, v4)), (5, (0, 0, v5))]) (st' := [(0, 0, (y11.2 34 v5.toNat)), (0, 0, 1), (0, 0, v5)]) (M' := y11.2) (C' := (True ∧ (0 ≤ v5 ∧ v5 < ((80 : Nat) : Int)))) (by decide +kernel) rfl ⟨trivial, hS13⟩ ?_
        refine ax_cSi (G1 := gX2_actSize) (d1 := d + 0) (i := 216) (n := 1) (as := [(0, 0, (y11.2 34 v5.toNat))]) (st := [(0, 0, 1), (0, 0, v5)]) (by decide +kernel) calX2_actSize (by omega) rfl wt_596 wt_597 (Nat.le_of_ble_eq_true rfl) rfl (c_X2_actSize d (y11.2 34 v5.toNat) y11.2) (fun hc14 => ?_)
        refine ax_mmax (i := 139) (by decide +kernel) (by omega) (Nat.le_of_ble_eq_true rfl) wt_342 wt_263 wt_8 wt_264 ?_
        refine ax_rngL (i := 5) (u := 0) (n := v5) (by simp) (fun hq15 => ?_)
        have hq15 : (-2147483648) ≤ v5 ∧ v5 ≤ 2147483647 := hq15
        refine ax_lump ax_layC ok_kX2 [(82, .iadd, 1, 1, 0, 0), (83, .istore 5, 2, 0, 0, 0), (85, .goto (-48), 3, 37, 0, 0)] (pc' := 37) (lc' := [(5, (0, 0, (v5 + (if 1 < (f_X2_actSize (y11.2 34 v5.toNat) y11.2) then (f_X2_actSize (y11.2 34 v5.toNat) y11.2) else 1)))), (3, (0, 0, (ax_wr (v3 + 1)))), (0, (2, 2, 0)), (1, (0, 0, w1)), (4, (0, 0, v4))]) (st' := []) (M' := y11.2) (C' := (True ∧ ax_r32 (v5 + (if 1 < (f_X2_actSize (y11.2 34 v5.toNat) y11.2) then (f_X2_actSize (y11.2 34 v5.toNat) y11.2) else 1)))) (by decide +kernel) rfl ⟨trivial, ⟨by omega, by omega⟩⟩ ?_
        refine ax_pk [2,3,1,4,0] (lc' := [(0, (2, 2, 0)), (1, (0, 0, w1)), (3, (0, 0, (ax_wr (v3 + 1)))), (4, (0, 0, v4)), (5, (0, 0, (v5 + (if 1 < (f_X2_actSize (y11.2 34 v5.toNat) y11.2) then (f_X2_actSize (y11.2 34 v5.toNat) y11.2) else 1))))]) rfl ?_
        exact hkc (ax_wr (v3 + 1)) v4 (v5 + (if 1 < (f_X2_actSize (y11.2 34 v5.toNat) y11.2) then (f_X2_actSize (y11.2 34 v5.toNat) y11.2) else 1)) y11.2 (by omega) hX
      · refine ax_lump ax_layC ok_kX2 [(57, .iconst 1, 1, 0, 0, 0), (58, .istore 4, 2, 0, 0, 0), (60, .goto (-23), 3, 37, 0, 0)] (pc' := 37) (lc' := [(4, (0, 0, 1)), (0, (2, 2, 0)), (1, (0, 0, w1)), (3, (0, 0, v3)), (5, (0, 0, v5))]) (st' := []) (M' := y11.2) (C' := True) (by decide +kernel) rfl trivial ?_
        refine ax_pk [1,2,3,0,4] (lc' := [(0, (2, 2, 0)), (1, (0, 0, w1)), (3, (0, 0, v3)), (4, (0, 0, 1)), (5, (0, 0, v5))]) rfl ?_
        exact hkc v3 1 v5 y11.2 (by omega) hX
set_option maxRecDepth 100000 in
set_option maxHeartbeats 4000000 in
theorem w_X2_day_L37 (d : Nat) (w1 : Int) (kx : Int → Int → ax_M → Prop × Int × ax_M) (hw_w1 : 0 ≤ w1 ∧ w1 ≤ 80) (hkx : ∀ (x3 : Int) (x4 : Int) (M9 : ax_M), ((0 ≤ x4 ∧ x4 ≤ 1)) → (kx x3 x4 M9).1 → ax_W ax_LC gX2_day (d + 7) 88 [(0, (2, 2, 0)), (3, (0, 0, x3)), (4, (0, 0, x4))] [] M9 ((ax_qm (-2147483648) 2147483647) (kx x3 x4 M9).2)) : ∀ (n : Nat) (v3 : Int) (v4 : Int) (v5 : Int) (M : ax_M), 0 ≤ v4 ∧ v4 ≤ 1 → (f_X2_day_L37 w1 n v3 v4 v5 M kx).1 → ax_W ax_LC gX2_day (d + 7) 37 [(0, (2, 2, 0)), (1, (0, 0, w1)), (3, (0, 0, v3)), (4, (0, 0, v4)), (5, (0, 0, v5))] [] M ((ax_qm (-2147483648) 2147483647) (f_X2_day_L37 w1 n v3 v4 v5 M kx).2) := by
  intro n
  induction n with
  | zero =>
    intro v3 v4 v5 M hv4 hX
    exact False.elim hX
  | succ n ih =>
    intro v3 v4 v5 M hv4 hX
    exact wb_X2_day_B37 d w1 v3 v4 v5 M _ kx hw_w1  hv4 (fun u3 u4 u5 M9 hu4 hX => ih u3 u4 u5 M9  hu4 hX) hkx hX
def f_X2_day_J88 (j3 : Int) (j4 : Int) (M : ax_M) : Prop × Int × ax_M := (if j3 ≤ 0 then ax_bd (f_X2_tellAnew M) (fun M20 => ax_bd (f_X2_tell j4 M20) (fun M21 => ax_bd (f_X2_tellMore M21) (fun M22 => (True, (j3, M22))))) else ax_bd (f_X2_keepPast M) (fun M23 => ax_bd (f_X2_tellAnew M23) (fun M24 => ax_bd (f_X2_tell j4 M24) (fun M25 => ax_bd (f_X2_tellMore M25) (fun M26 => (True, (j3, M26)))))))
set_option maxRecDepth 100000 in
set_option maxHeartbeats 4000000 in
theorem w_X2_day_J88 (d : Nat) (j3 : Int) (j4 : Int) (M : ax_M)  (hX : (f_X2_day_J88 j3 j4 M).1) : ax_W ax_LC gX2_day (d + 7) 88 [(0, (2, 2, 0)), (3, (0, 0, j3)), (4, (0, 0, j4))] [] M ((ax_qm (-2147483648) 2147483647) (f_X2_day_J88 j3 j4 M).2) := by
  unfold f_X2_day_J88 at hX ⊢
  refine ax_lump ax_layC ok_kX2 [(88, .iload_n 3, 1, 0, 0, 0)] (pc' := 89) (lc' := [(0, (2, 2, 0)), (3, (0, 0, j3)), (4, (0, 0, j4))]) (st' := [(0, 0, j3)]) (M' := M) (C' := True) (by decide +kernel) rfl trivial ?_
  refine ax_zle_s hX (off := 7) (tgt := 96) (by decide +kernel) (by decide) (fun h19 hX => ?_) (fun h19 hX => ?_)
  · refine ax_lump ax_layC ok_kX2 [(96, .aload_n 0, 1, 0, 0, 0)] (pc' := 97) (lc' := [(0, (2, 2, 0)), (3, (0, 0, j3)), (4, (0, 0, j4))]) (st' := [(2, 2, 0)]) (M' := M) (C' := True) (by decide +kernel) rfl trivial ?_
    refine ax_cVv_s hX (G1 := gX2_tellAnew) (d1 := d + 0) (i := 168) (n := 0) (as := []) (st := []) (c := 2) (a := 0) (by decide +kernel) ax_cls2 calX2_tellAnew (by omega) rfl wt_517 wt_519 ws_47 (Nat.le_of_ble_eq_true rfl) rfl (c_X2_tellAnew d  M) (fun M20 hX => ?_)
    refine ax_lump ax_layC ok_kX2 [(100, .aload_n 0, 1, 0, 0, 0), (101, .iload 4, 2, 0, 0, 0), (103, .i2l, 1, 0, 0, 0)] (pc' := 104) (lc' := [(0, (2, 2, 0)), (3, (0, 0, j3)), (4, (0, 0, j4))]) (st' := [(1, 0, j4), (2, 2, 0)]) (M' := M20) (C' := True) (by decide +kernel) rfl trivial ?_
    refine ax_cVv_s hX (G1 := gX2_tell) (d1 := d + 0) (i := 155) (n := 1) (as := [(1, 0, j4)]) (st := []) (c := 2) (a := 0) (by decide +kernel) ax_cls2 calX2_tell (by omega) rfl wt_521 wt_523 ws_48 (Nat.le_of_ble_eq_true rfl) rfl (c_X2_tell d j4 M20) (fun M21 hX => ?_)
    refine ax_lump ax_layC ok_kX2 [(107, .aload_n 0, 1, 0, 0, 0)] (pc' := 108) (lc' := [(0, (2, 2, 0)), (3, (0, 0, j3)), (4, (0, 0, j4))]) (st' := [(2, 2, 0)]) (M' := M21) (C' := True) (by decide +kernel) rfl trivial ?_
    refine ax_cVv_s hX (G1 := gX2_tellMore) (d1 := d + 1) (i := 159) (n := 0) (as := []) (st := []) (c := 2) (a := 0) (by decide +kernel) ax_cls2 calX2_tellMore (by omega) rfl wt_525 wt_527 ws_49 (Nat.le_of_ble_eq_true rfl) rfl (c_X2_tellMore d  M21) (fun M22 hX => ?_)
    refine ax_lump ax_layC ok_kX2 [(111, .iload_n 3, 1, 0, 0, 0)] (pc' := 112) (lc' := [(0, (2, 2, 0)), (3, (0, 0, j3)), (4, (0, 0, j4))]) (st' := [(0, 0, j3)]) (M' := M22) (C' := True) (by decide +kernel) rfl trivial ?_
    refine ax_rngS (fun hr => ?_)
    exact ax_iret (by decide +kernel) rfl ⟨rfl, rfl, hr.1, hr.2⟩
  · refine ax_lump ax_layC ok_kX2 [(92, .aload_n 0, 1, 0, 0, 0)] (pc' := 93) (lc' := [(0, (2, 2, 0)), (3, (0, 0, j3)), (4, (0, 0, j4))]) (st' := [(2, 2, 0)]) (M' := M) (C' := True) (by decide +kernel) rfl trivial ?_
    refine ax_cVv_s hX (G1 := gX2_keepPast) (d1 := d + 0) (i := 195) (n := 0) (as := []) (st := []) (c := 2) (a := 0) (by decide +kernel) ax_cls2 calX2_keepPast (by omega) rfl wt_513 wt_515 ws_46 (Nat.le_of_ble_eq_true rfl) rfl (c_X2_keepPast d  M) (fun M23 hX => ?_)
    refine ax_lump ax_layC ok_kX2 [(96, .aload_n 0, 1, 0, 0, 0)] (pc' := 97) (lc' := [(0, (2, 2, 0)), (3, (0, 0, j3)), (4, (0, 0, j4))]) (st' := [(2, 2, 0)]) (M' := M23) (C' := True) (by decide +kernel) rfl trivial ?_
    refine ax_cVv_s hX (G1 := gX2_tellAnew) (d1 := d + 0) (i := 168) (n := 0) (as := []) (st := []) (c := 2) (a := 0) (by decide +kernel) ax_cls2 calX2_tellAnew (by omega) rfl wt_517 wt_519 ws_47 (Nat.le_of_ble_eq_true rfl) rfl (c_X2_tellAnew d  M23) (fun M24 hX => ?_)
    refine ax_lump ax_layC ok_kX2 [(100, .aload_n 0, 1, 0, 0, 0), (101, .iload 4, 2, 0, 0, 0), (103, .i2l, 1, 0, 0, 0)] (pc' := 104) (lc' := [(0, (2, 2, 0)), (3, (0, 0, j3)), (4, (0, 0, j4))]) (st' := [(1, 0, j4), (2, 2, 0)]) (M' := M24) (C' := True) (by decide +kernel) rfl trivial ?_
    refine ax_cVv_s hX (G1 := gX2_tell) (d1 := d + 0) (i := 155) (n := 1) (as := [(1, 0, j4)]) (st := []) (c := 2) (a := 0) (by decide +kernel) ax_cls2 calX2_tell (by omega) rfl wt_521 wt_523 ws_48 (Nat.le_of_ble_eq_true rfl) rfl (c_X2_tell d j4 M24) (fun M25 hX => ?_)
    refine ax_lump ax_layC ok_kX2 [(107, .aload_n 0, 1, 0, 0, 0)] (pc' := 108) (lc' := [(0, (2, 2, 0)), (3, (0, 0, j3)), (4, (0, 0, j4))]) (st' := [(2, 2, 0)]) (M' := M25) (C' := True) (by decide +kernel) rfl trivial ?_
    refine ax_cVv_s hX (G1 := gX2_tellMore) (d1 := d + 1) (i := 159) (n := 0) (as := []) (st := []) (c := 2) (a := 0) (by decide +kernel) ax_cls2 calX2_tellMore (by omega) rfl wt_525 wt_527 ws_49 (Nat.le_of_ble_eq_true rfl) rfl (c_X2_tellMore d  M25) (fun M26 hX => ?_)
    refine ax_lump ax_layC ok_kX2 [(111, .iload_n 3, 1, 0, 0, 0)] (pc' := 112) (lc' := [(0, (2, 2, 0)), (3, (0, 0, j3)), (4, (0, 0, j4))]) (st' := [(0, 0, j3)]) (M' := M26) (C' := True) (by decide +kernel) rfl trivial ?_
    refine ax_rngS (fun hr => ?_)
    exact ax_iret (by decide +kernel) rfl ⟨rfl, rfl, hr.1, hr.2⟩
def f_X2_day  (M : ax_M) : Prop × Int × ax_M := ax_bd (M 0 10) (fun y2 => ax_bd (ax_up M 0 10 0) (fun M3 => ax_bd (f_X2_wrongInDay y2 M3) (fun y6 => (if y6 = (-1) then ax_bd (f_X2_begin M3) (fun M8 => f_X2_day_L37 y2 100  0 0 0 M8 (fun z16 z17 M18 => f_X2_day_J88 z16 z17 M18)) else (True, (((-1) - y6), M3))))))
set_option maxRecDepth 100000 in
set_option maxHeartbeats 4000000 in
theorem c_X2_day (d : Nat)  (M : ax_M)  (hX : (f_X2_day  M).1) : ax_Met ax_LC gX2_day (d + 7) [(2, 2, 0)] M ((ax_qm (-2147483648) 2147483647) (f_X2_day  M).2) := by
  refine ax_body (by decide) (fun X => Nat.le_of_ble_eq_true rfl) (fun hok => ?_)
  show ax_W ax_LC gX2_day (d + 7) 0 [(0, (2, 2, 0))] [] M _
  unfold f_X2_day at hX ⊢
  refine ax_fact (i := 0) (c := 2) (f := 10) (hi := 80) (s := 0) (by simp) rfl rfl rfl (fun hf1 => ?_)
  have hf1 : 0 ≤ (M 0 10) ∧ (M 0 10) ≤ 80 := hf1
  refine ax_lump ax_layC ok_kX2 [(0, .aload_n 0, 1, 0, 0, 0), (1, .getfield 51, 3, 2, 10, 0), (4, .istore_n 1, 1, 0, 0, 0)] (pc' := 5) (lc' := [(1, (0, 0, (M 0 10))), (0, (2, 2, 0))]) (st' := []) (M' := M) (C' := True) (by decide +kernel) rfl trivial ?_
  refine ax_bdI_s hX (lo := 0) (hi := 80) (e := (M 0 10)) (fun y2 => [(1, (0, 0, y2)), (0, (2, 2, 0))]) (fun y2 => []) (by omega) (fun y2 h_y2 hX => ?_)
  refine ax_lump ax_layC ok_kX2 [(5, .aload_n 0, 1, 0, 0, 0), (6, .iconst 0, 1, 0, 0, 0), (7, .putfield 51, 3, 2, 10, 0)] (pc' := 10) (lc' := [(1, (0, 0, y2)), (0, (2, 2, 0))]) (st' := []) (M' := (ax_up M 0 10 0)) (C' := (True ∧ (0 ≤ 0 ∧ 0 < ((81 : Nat) : Int)))) (by decide +kernel) rfl ⟨trivial, by omega⟩ ?_
  refine ax_bdMe_s hX (fun M3 hM_M3 hX => ?_)
  have hk_k4 : (M3 0 10) = 0 := by rw [hM_M3]; exact ax_up_s
  refine ax_lump ax_layC ok_kX2 [(10, .aload_n 0, 1, 0, 0, 0), (11, .iload_n 1, 1, 0, 0, 0)] (pc' := 12) (lc' := [(1, (0, 0, y2)), (0, (2, 2, 0))]) (st' := [(0, 0, y2), (2, 2, 0)]) (M' := M3) (C' := True) (by decide +kernel) rfl trivial ?_
  refine ax_cVi (G1 := gX2_wrongInDay) (d1 := d + 1) (i := 210) (n := 1) (as := [(0, 0, y2)]) (st := []) (c := 2) (a := 0) (by decide +kernel) ax_cls2 calX2_wrongInDay (by omega) rfl wt_592 wt_594 ws_54 (Nat.le_of_ble_eq_true rfl) rfl (c_X2_wrongInDay d y2 M3) (fun hc5 => ?_)
  refine ax_lump ax_layC ok_kX2 [(15, .istore_n 2, 1, 0, 0, 0)] (pc' := 16) (lc' := [(2, (0, 0, (f_X2_wrongInDay y2 M3))), (1, (0, 0, y2)), (0, (2, 2, 0))]) (st' := []) (M' := M3) (C' := True) (by decide +kernel) rfl trivial ?_
  refine ax_bdI0_s hX (e := (f_X2_wrongInDay y2 M3)) (fun y6 => [(2, (0, 0, y6)), (1, (0, 0, y2)), (0, (2, 2, 0))]) (fun y6 => []) (fun y6 hX => ?_)
  refine ax_lump ax_layC ok_kX2 [(16, .iload_n 2, 1, 0, 0, 0), (17, .iconst (-1), 1, 0, 0, 0)] (pc' := 18) (lc' := [(2, (0, 0, y6)), (1, (0, 0, y2)), (0, (2, 2, 0))]) (st' := [(0, 0, (-1)), (0, 0, y6)]) (M' := M3) (C' := True) (by decide +kernel) rfl trivial ?_
  refine ax_jeq_s hX (off := 7) (tgt := 25) (by decide +kernel) (by decide) (fun h7 hX => ?_) (fun h7 hX => ?_)
  · refine ax_lump ax_layC ok_kX2 [(25, .aload_n 0, 1, 0, 0, 0)] (pc' := 26) (lc' := [(2, (0, 0, y6)), (1, (0, 0, y2)), (0, (2, 2, 0))]) (st' := [(2, 2, 0)]) (M' := M3) (C' := True) (by decide +kernel) rfl trivial ?_
    refine ax_cVv_s hX (G1 := gX2_begin) (d1 := d + 4) (i := 142) (n := 0) (as := []) (st := []) (c := 2) (a := 0) (by decide +kernel) ax_cls2 calX2_begin (by omega) rfl wt_351 wt_353 ws_10 (Nat.le_of_ble_eq_true rfl) rfl (c_X2_begin d  M3) (fun M8 hX => ?_)
    refine ax_lump ax_layC ok_kX2 [(29, .iconst 0, 1, 0, 0, 0), (30, .istore_n 3, 1, 0, 0, 0), (31, .iconst 0, 1, 0, 0, 0), (32, .istore 4, 2, 0, 0, 0), (34, .iconst 0, 1, 0, 0, 0), (35, .istore 5, 2, 0, 0, 0)] (pc' := 37) (lc' := [(5, (0, 0, 0)), (4, (0, 0, 0)), (3, (0, 0, 0)), (2, (0, 0, y6)), (1, (0, 0, y2)), (0, (2, 2, 0))]) (st' := []) (M' := M8) (C' := True) (by decide +kernel) rfl trivial ?_
    refine ax_pk [5,4,2,1,0] (lc' := [(0, (2, 2, 0)), (1, (0, 0, y2)), (3, (0, 0, 0)), (4, (0, 0, 0)), (5, (0, 0, 0))]) rfl ?_
    refine w_X2_day_L37 d y2 _ (by omega) (fun z16 z17 M18 hx_18 hX => ?_) 100  0 0 0 M8  (by omega) hX
    exact w_X2_day_J88 d z16 z17 M18  hX
  · refine ax_rngL (i := 2) (u := 0) (n := y6) (by simp) (fun hq27 => ?_)
    have hq27 : (-2147483648) ≤ y6 ∧ y6 ≤ 2147483647 := hq27
    refine ax_lump ax_layC ok_kX2 [(21, .iconst (-1), 1, 0, 0, 0), (22, .iload_n 2, 1, 0, 0, 0), (23, .isub, 1, 1, 0, 0)] (pc' := 24) (lc' := [(2, (0, 0, y6)), (1, (0, 0, y2)), (0, (2, 2, 0))]) (st' := [(0, 0, ((-1) - y6))]) (M' := M3) (C' := (True ∧ ax_r32 ((-1) - y6))) (by decide +kernel) rfl ⟨trivial, ⟨by omega, by omega⟩⟩ ?_
    refine ax_rngS (fun hr => ?_)
    exact ax_iret (by decide +kernel) rfl ⟨rfl, rfl, hr.1, hr.2⟩
def f_X2_years (x1 : Int) (x2 : Int) (M : ax_M) : Prop × Int × ax_M := (if x2 < 1 then (True, ((-1), M)) else (if x2 ≤ 60 then ax_bd (f_X2_begin M) (fun M3 => ax_rc (f_X2_tryYears x1 x2 (M3 0 7) M3) (fun M4 => ax_bd (f_X2_tellAnew M4) (fun M5 => ax_bd (f_X2_tell (f_X0_since 13 3 M5) M5) (fun M7 => ax_bd (f_X2_tell (f_X0_since 13 6 M7) M7) (fun M9 => ax_bd (f_X2_tell (f_X0_sumOfLeaves 13 M9) M9) (fun M11 => (True, ((f_X0_since 13 2 M11), M11)))))))) else (True, ((-1), M))))
set_option maxRecDepth 100000 in
set_option maxHeartbeats 4000000 in
theorem c_X2_years (d : Nat) (x1 : Int) (x2 : Int) (M : ax_M)  (hX : (f_X2_years x1 x2 M).1) : ax_Met ax_LC gX2_years (d + 7) [(2, 2, 0), (0, 0, x1), (0, 0, x2)] M ((ax_qm (-2147483648) 2147483647) (f_X2_years x1 x2 M).2) := by
  refine ax_body (by decide) (fun X => Nat.le_of_ble_eq_true rfl) (fun hok => ?_)
  have hr_x1 : (-2147483648) ≤ x1 ∧ x1 ≤ 2147483647 := hok (0, 0, x1) (by simp)
  have hr_x2 : (-2147483648) ≤ x2 ∧ x2 ≤ 2147483647 := hok (0, 0, x2) (by simp)
  show ax_W ax_LC gX2_years (d + 7) 0 [(0, (2, 2, 0)), (1, (0, 0, x1)), (2, (0, 0, x2))] [] M _
  unfold f_X2_years at hX ⊢
  refine ax_lump ax_layC ok_kX2 [(0, .iload_n 2, 1, 0, 0, 0), (1, .iconst 1, 1, 0, 0, 0)] (pc' := 2) (lc' := [(0, (2, 2, 0)), (1, (0, 0, x1)), (2, (0, 0, x2))]) (st' := [(0, 0, 1), (0, 0, x2)]) (M' := M) (C' := True) (by decide +kernel) rfl trivial ?_
  refine ax_jlt_s hX (off := 9) (tgt := 11) (by decide +kernel) (by decide) (fun h1 hX => ?_) (fun h1 hX => ?_)
  · refine ax_lump ax_layC ok_kX2 [(11, .iconst (-1), 1, 0, 0, 0)] (pc' := 12) (lc' := [(0, (2, 2, 0)), (1, (0, 0, x1)), (2, (0, 0, x2))]) (st' := [(0, 0, (-1))]) (M' := M) (C' := True) (by decide +kernel) rfl trivial ?_
    refine ax_rngS (fun hr => ?_)
    exact ax_iret (by decide +kernel) rfl ⟨rfl, rfl, hr.1, hr.2⟩
  · refine ax_lump ax_layC ok_kX2 [(5, .iload_n 2, 1, 0, 0, 0), (6, .bipush 60, 2, 0, 0, 0)] (pc' := 8) (lc' := [(0, (2, 2, 0)), (1, (0, 0, x1)), (2, (0, 0, x2))]) (st' := [(0, 0, 60), (0, 0, x2)]) (M' := M) (C' := True) (by decide +kernel) rfl trivial ?_
    refine ax_jle_s hX (off := 5) (tgt := 13) (by decide +kernel) (by decide) (fun h2 hX => ?_) (fun h2 hX => ?_)
    · refine ax_lump ax_layC ok_kX2 [(13, .aload_n 0, 1, 0, 0, 0)] (pc' := 14) (lc' := [(0, (2, 2, 0)), (1, (0, 0, x1)), (2, (0, 0, x2))]) (st' := [(2, 2, 0)]) (M' := M) (C' := True) (by decide +kernel) rfl trivial ?_
      refine ax_cVv_s hX (G1 := gX2_begin) (d1 := d + 4) (i := 142) (n := 0) (as := []) (st := []) (c := 2) (a := 0) (by decide +kernel) ax_cls2 calX2_begin (by omega) rfl wt_351 wt_353 ws_10 (Nat.le_of_ble_eq_true rfl) rfl (c_X2_begin d  M) (fun M3 hX => ?_)
      refine ax_lump ax_layC ok_kX2 [(17, .aload_n 0, 1, 0, 0, 0), (18, .iload_n 1, 1, 0, 0, 0), (19, .iload_n 2, 1, 0, 0, 0), (20, .aload_n 0, 1, 0, 0, 0), (21, .getfield 40, 3, 2, 7, 0)] (pc' := 24) (lc' := [(0, (2, 2, 0)), (1, (0, 0, x1)), (2, (0, 0, x2))]) (st' := [(2, 1, (M3 0 7)), (0, 0, x2), (0, 0, x1), (2, 2, 0)]) (M' := M3) (C' := True) (by decide +kernel) rfl trivial ?_
      refine ax_cVv_r hX (G1 := gX2_tryYears) (d1 := d + 6) (i := 298) (n := 3) (as := [(0, 0, x1), (0, 0, x2), (2, 1, (M3 0 7))]) (st := []) (c := 2) (a := 0) (by decide +kernel) ax_cls2 calX2_tryYears (by omega) rfl wt_736 wt_738 ws_65 (Nat.le_of_ble_eq_true rfl) rfl (fun hY => c_X2_tryYears d x1 x2 (M3 0 7) M3 (by omega) hY) (fun M4 hX => ?_)
      refine ax_lump ax_layC ok_kX2 [(27, .aload_n 0, 1, 0, 0, 0)] (pc' := 28) (lc' := [(0, (2, 2, 0)), (1, (0, 0, x1)), (2, (0, 0, x2))]) (st' := [(2, 2, 0)]) (M' := M4) (C' := True) (by decide +kernel) rfl trivial ?_
      refine ax_cVv_s hX (G1 := gX2_tellAnew) (d1 := d + 0) (i := 168) (n := 0) (as := []) (st := []) (c := 2) (a := 0) (by decide +kernel) ax_cls2 calX2_tellAnew (by omega) rfl wt_517 wt_519 ws_47 (Nat.le_of_ble_eq_true rfl) rfl (c_X2_tellAnew d  M4) (fun M5 hX => ?_)
      refine ax_lump ax_layC ok_kX2 [(31, .aload_n 0, 1, 0, 0, 0), (32, .aload_n 0, 1, 0, 0, 0), (33, .getfield 16, 3, 2, 1, 0), (36, .iconst 3, 1, 0, 0, 0)] (pc' := 37) (lc' := [(0, (2, 2, 0)), (1, (0, 0, x1)), (2, (0, 0, x2))]) (st' := [(0, 0, 3), (2, 0, 13), (2, 2, 0)]) (M' := M5) (C' := True) (by decide +kernel) rfl trivial ?_
      refine ax_cNi (G1 := gX0_since) (d1 := d + 0) (i := 252) (n := 1) (as := [(0, 0, 3)]) (st := [(2, 2, 0)]) (c := 0) (a := 13) (by decide +kernel) ax_cls0 calX0_since (by omega) rfl wn_529 wt_531 ws_50 (Nat.le_of_ble_eq_true rfl) rfl (c_X0_since d 13 3 M5) (fun hc6 => ?_)
      refine ax_lump ax_layC ok_kX2 [(40, .i2l, 1, 0, 0, 0)] (pc' := 41) (lc' := [(0, (2, 2, 0)), (1, (0, 0, x1)), (2, (0, 0, x2))]) (st' := [(1, 0, (f_X0_since 13 3 M5)), (2, 2, 0)]) (M' := M5) (C' := True) (by decide +kernel) rfl trivial ?_
      refine ax_cVv_s hX (G1 := gX2_tell) (d1 := d + 0) (i := 155) (n := 1) (as := [(1, 0, (f_X0_since 13 3 M5))]) (st := []) (c := 2) (a := 0) (by decide +kernel) ax_cls2 calX2_tell (by omega) rfl wt_521 wt_523 ws_48 (Nat.le_of_ble_eq_true rfl) rfl (c_X2_tell d (f_X0_since 13 3 M5) M5) (fun M7 hX => ?_)
      refine ax_lump ax_layC ok_kX2 [(44, .aload_n 0, 1, 0, 0, 0), (45, .aload_n 0, 1, 0, 0, 0), (46, .getfield 16, 3, 2, 1, 0), (49, .bipush 6, 2, 0, 0, 0)] (pc' := 51) (lc' := [(0, (2, 2, 0)), (1, (0, 0, x1)), (2, (0, 0, x2))]) (st' := [(0, 0, 6), (2, 0, 13), (2, 2, 0)]) (M' := M7) (C' := True) (by decide +kernel) rfl trivial ?_
      refine ax_cNi (G1 := gX0_since) (d1 := d + 0) (i := 252) (n := 1) (as := [(0, 0, 6)]) (st := [(2, 2, 0)]) (c := 0) (a := 13) (by decide +kernel) ax_cls0 calX0_since (by omega) rfl wn_529 wt_531 ws_50 (Nat.le_of_ble_eq_true rfl) rfl (c_X0_since d 13 6 M7) (fun hc8 => ?_)
      refine ax_lump ax_layC ok_kX2 [(54, .i2l, 1, 0, 0, 0)] (pc' := 55) (lc' := [(0, (2, 2, 0)), (1, (0, 0, x1)), (2, (0, 0, x2))]) (st' := [(1, 0, (f_X0_since 13 6 M7)), (2, 2, 0)]) (M' := M7) (C' := True) (by decide +kernel) rfl trivial ?_
      refine ax_cVv_s hX (G1 := gX2_tell) (d1 := d + 0) (i := 155) (n := 1) (as := [(1, 0, (f_X0_since 13 6 M7))]) (st := []) (c := 2) (a := 0) (by decide +kernel) ax_cls2 calX2_tell (by omega) rfl wt_521 wt_523 ws_48 (Nat.le_of_ble_eq_true rfl) rfl (c_X2_tell d (f_X0_since 13 6 M7) M7) (fun M9 hX => ?_)
      refine ax_lump ax_layC ok_kX2 [(58, .aload_n 0, 1, 0, 0, 0), (59, .aload_n 0, 1, 0, 0, 0), (60, .getfield 16, 3, 2, 1, 0)] (pc' := 63) (lc' := [(0, (2, 2, 0)), (1, (0, 0, x1)), (2, (0, 0, x2))]) (st' := [(2, 0, 13), (2, 2, 0)]) (M' := M9) (C' := True) (by decide +kernel) rfl trivial ?_
      refine ax_cNi (G1 := gX0_sumOfLeaves) (d1 := d + 0) (i := 302) (n := 0) (as := []) (st := [(2, 2, 0)]) (c := 0) (a := 13) (by decide +kernel) ax_cls0 calX0_sumOfLeaves (by omega) rfl wn_749 wt_751 ws_67 (Nat.le_of_ble_eq_true rfl) rfl (c_X0_sumOfLeaves d 13 M9) (fun hc10 => ?_)
      refine ax_lump ax_layC ok_kX2 [(66, .i2l, 1, 0, 0, 0)] (pc' := 67) (lc' := [(0, (2, 2, 0)), (1, (0, 0, x1)), (2, (0, 0, x2))]) (st' := [(1, 0, (f_X0_sumOfLeaves 13 M9)), (2, 2, 0)]) (M' := M9) (C' := True) (by decide +kernel) rfl trivial ?_
      refine ax_cVv_s hX (G1 := gX2_tell) (d1 := d + 0) (i := 155) (n := 1) (as := [(1, 0, (f_X0_sumOfLeaves 13 M9))]) (st := []) (c := 2) (a := 0) (by decide +kernel) ax_cls2 calX2_tell (by omega) rfl wt_521 wt_523 ws_48 (Nat.le_of_ble_eq_true rfl) rfl (c_X2_tell d (f_X0_sumOfLeaves 13 M9) M9) (fun M11 hX => ?_)
      refine ax_lump ax_layC ok_kX2 [(70, .aload_n 0, 1, 0, 0, 0), (71, .getfield 16, 3, 2, 1, 0), (74, .iconst 2, 1, 0, 0, 0)] (pc' := 75) (lc' := [(0, (2, 2, 0)), (1, (0, 0, x1)), (2, (0, 0, x2))]) (st' := [(0, 0, 2), (2, 0, 13)]) (M' := M11) (C' := True) (by decide +kernel) rfl trivial ?_
      refine ax_cNi (G1 := gX0_since) (d1 := d + 0) (i := 252) (n := 1) (as := [(0, 0, 2)]) (st := []) (c := 0) (a := 13) (by decide +kernel) ax_cls0 calX0_since (by omega) rfl wn_529 wt_531 ws_50 (Nat.le_of_ble_eq_true rfl) rfl (c_X0_since d 13 2 M11) (fun hc12 => ?_)
      refine ax_rngS (fun hr => ?_)
      exact ax_iret (by decide +kernel) rfl ⟨rfl, rfl, hr.1, hr.2⟩
    · refine ax_lump ax_layC ok_kX2 [(11, .iconst (-1), 1, 0, 0, 0)] (pc' := 12) (lc' := [(0, (2, 2, 0)), (1, (0, 0, x1)), (2, (0, 0, x2))]) (st' := [(0, 0, (-1))]) (M' := M) (C' := True) (by decide +kernel) rfl trivial ?_
      refine ax_rngS (fun hr => ?_)
      exact ax_iret (by decide +kernel) rfl ⟨rfl, rfl, hr.1, hr.2⟩
