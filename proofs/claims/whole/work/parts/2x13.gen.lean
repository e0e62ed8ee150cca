def f_X0_write_J301 (b : Nat) (a3 : Int) (j8 : Int) (M : ax_M) : Prop × Int × ax_M := ax_bd (ax_up M b 14 (if 0 < j8 then j8 else 0)) (fun M30 => ax_bd (f_X0_countOne b 1 M30) (fun M31 => (if (M31 b 13) = 0 then ax_bd (ax_up M31 b 16 0) (fun M34 => (True, (((M34 b 14) / 4), M34))) else ax_bd (f_X0_thingsNow b M31) (fun M37 => ax_rc (f_X1_worth a3 6 (b + 11) M37) (fun y38 => (if y38.1 ≤ 0 then ax_bd (ax_up y38.2 b 16 0) (fun M40 => (True, (((M40 b 14) / 4), M40))) else ax_bd (f_X0_level b y38.2) (fun y42 => (if y42.1 < 0 then ax_bd (ax_up y42.2 b 16 0) (fun M44 => (True, (((M44 b 14) / 4), M44))) else ax_bd (ax_up y42.2 b 16 1) (fun M46 => (True, (((M46 b 14) / 4), M46)))))))))))
set_option maxRecDepth 100000 in
set_option maxHeartbeats 4000000 in
theorem w_X0_write_J301 (d : Nat) (b : Nat) (a3 : Int) (j8 : Int) (M : ax_M) (hw_j8 : (-4) ≤ j8 ∧ j8 ≤ 63) (hX : (f_X0_write_J301 b a3 j8 M).1) : ax_W ax_LC gX0_write (d + 5) 301 [(0, (2, 0, (b : Int))), (3, (2, 1, a3)), (8, (0, 0, j8))] [] M ((ax_qm (-1) 15) (f_X0_write_J301 b a3 j8 M).2) := by
  unfold f_X0_write_J301 at hX ⊢
  refine ax_lump ax_layC ok_kX0 [(301, .aload_n 0, 1, 0, 0, 0), (302, .iconst 0, 1, 0, 0, 0), (303, .iload 8, 2, 0, 0, 0)] (pc' := 305) (lc' := [(0, (2, 0, (b : Int))), (3, (2, 1, a3)), (8, (0, 0, j8))]) (st' := [(0, 0, j8), (0, 0, 0), (2, 0, (b : Int))]) (M' := M) (C' := True) (by decide +kernel) rfl trivial ?_
  refine ax_mmax (i := 139) (by decide +kernel) (by omega) (Nat.le_of_ble_eq_true rfl) wt_473 wt_263 wt_8 wt_264 ?_
  refine ax_lump ax_layC ok_kX0 [(308, .putfield 59, 3, 0, 14, 0)] (pc' := 311) (lc' := [(0, (2, 0, (b : Int))), (3, (2, 1, a3)), (8, (0, 0, j8))]) (st' := []) (M' := (ax_up M b 14 (if 0 < j8 then j8 else 0))) (C' := (True ∧ (0 ≤ (if 0 < j8 then j8 else 0) ∧ (if 0 < j8 then j8 else 0) < ((64 : Nat) : Int)))) (by decide +kernel) rfl ⟨trivial, by omega⟩ ?_
  refine ax_bdMe_s hX (fun M30 hM_M30 hX => ?_)
  refine ax_lump ax_layC ok_kX0 [(311, .aload_n 0, 1, 0, 0, 0), (312, .iconst 1, 1, 0, 0, 0)] (pc' := 313) (lc' := [(0, (2, 0, (b : Int))), (3, (2, 1, a3)), (8, (0, 0, j8))]) (st' := [(0, 0, 1), (2, 0, (b : Int))]) (M' := M30) (C' := True) (by decide +kernel) rfl trivial ?_
  refine ax_cVv_s hX (G1 := gX0_countOne) (d1 := d + 0) (i := 96) (n := 1) (as := [(0, 0, 1)]) (st := []) (c := 0) (a := (b : Int)) (by decide +kernel) ax_cls0 calX0_countOne (by omega) rfl wt_438 wt_440 ws_30 (Nat.le_of_ble_eq_true rfl) rfl (c_X0_countOne d b 1 M30) (fun M31 hX => ?_)
  refine ax_factZ (i := 0) (c := 0) (f := 13) (s := (b : Int)) (by simp) rfl rfl (fun hf32 => ?_)
  have hf32 : 0 ≤ (M31 b 13) ∧ (M31 b 13) ≤ 1 := hf32
  refine ax_lump ax_layC ok_kX0 [(316, .aload_n 0, 1, 0, 0, 0), (317, .aload_n 0, 1, 0, 0, 0), (318, .getfield 55, 3, 0, 13, 0)] (pc' := 321) (lc' := [(0, (2, 0, (b : Int))), (3, (2, 1, a3)), (8, (0, 0, j8))]) (st' := [(0, 0, (M31 b 13)), (2, 0, (b : Int))]) (M' := M31) (C' := True) (by decide +kernel) rfl trivial ?_
  refine ax_zeq_s hX (off := 25) (tgt := 346) (by decide +kernel) (by decide) (fun h33 hX => ?_) (fun h33 hX => ?_)
  · refine ax_lump ax_layC ok_kX0 [(346, .iconst 0, 1, 0, 0, 0), (347, .putfield 65, 3, 0, 16, 0)] (pc' := 350) (lc' := [(0, (2, 0, (b : Int))), (3, (2, 1, a3)), (8, (0, 0, j8))]) (st' := []) (M' := (ax_up M31 b 16 0)) (C' := (True ∧ (0 ≤ 0 ∧ 0 < ((2 : Nat) : Int)))) (by decide +kernel) rfl ⟨trivial, by omega⟩ ?_
    refine ax_bdMe_s hX (fun M34 hM_M34 hX => ?_)
    have hk_k35 : (M34 b 13) = (M31 b 13) := by rw [hM_M34]; exact ax_up_o2 (by decide)
    refine ax_fact (i := 0) (c := 0) (f := 14) (hi := 63) (s := (b : Int)) (by simp) rfl rfl rfl (fun hf36 => ?_)
    have hf36 : 0 ≤ (M34 b 14) ∧ (M34 b 14) ≤ 63 := hf36
    refine ax_lump ax_layC ok_kX0 [(350, .aload_n 0, 1, 0, 0, 0), (351, .getfield 59, 3, 0, 14, 0), (354, .iconst 4, 1, 0, 0, 0), (355, .idiv, 1, 1, 0, 0)] (pc' := 356) (lc' := [(0, (2, 0, (b : Int))), (3, (2, 1, a3)), (8, (0, 0, j8))]) (st' := [(0, 0, ((M34 b 14) / 4))]) (M' := M34) (C' := (True ∧ (0 ≤ (M34 b 14) ∧ 0 < 4))) (by decide +kernel) rfl ⟨trivial, by omega⟩ ?_
    exact ax_iret (by decide +kernel) rfl ⟨rfl, rfl, (show ((-1) : Int) ≤ ((M34 b 14) / 4) from by omega), (show ((M34 b 14) / 4) ≤ (15 : Int) from by omega)⟩
  · refine ax_lump ax_layC ok_kX0 [(324, .aload_n 3, 1, 0, 0, 0), (325, .aload_n 0, 1, 0, 0, 0)] (pc' := 326) (lc' := [(0, (2, 0, (b : Int))), (3, (2, 1, a3)), (8, (0, 0, j8))]) (st' := [(2, 0, (b : Int)), (2, 1, a3), (2, 0, (b : Int))]) (M' := M31) (C' := True) (by decide +kernel) rfl trivial ?_
    refine ax_cVa_s hX (G1 := gX0_thingsNow) (d1 := d + 2) (i := 142) (n := 0) (as := []) (st := [(2, 1, a3), (2, 0, (b : Int))]) (c := 0) (a := (b : Int)) (by decide +kernel) ax_cls0 calX0_thingsNow (by omega) rfl wt_474 wt_476 ws_37 (Nat.le_of_ble_eq_true rfl) rfl (c_X0_thingsNow d b M31) (fun M37 hX => ?_)
    refine ax_cNm_r hX (G1 := gX1_worth) (d1 := d + 1) (i := 146) (n := 1) (as := [(3, 6, ((b : Int) + 11))]) (st := [(2, 0, (b : Int))]) (c := 1) (a := a3) (by decide +kernel) ax_cls1 calX1_worth (by omega) rfl wn_498 wt_500 ws_43 (Nat.le_of_ble_eq_true rfl) rfl (fun hY => c_X1_worth d a3 6 (b + 11) M37 (by omega) hY) (fun y38 h_y38 hX => ?_)
    refine ax_zle_s hX (off := 14) (tgt := 346) (by decide +kernel) (by decide) (fun h39 hX => ?_) (fun h39 hX => ?_)
    · refine ax_lump ax_layC ok_kX0 [(346, .iconst 0, 1, 0, 0, 0), (347, .putfield 65, 3, 0, 16, 0)] (pc' := 350) (lc' := [(0, (2, 0, (b : Int))), (3, (2, 1, a3)), (8, (0, 0, j8))]) (st' := []) (M' := (ax_up y38.2 b 16 0)) (C' := (True ∧ (0 ≤ 0 ∧ 0 < ((2 : Nat) : Int)))) (by decide +kernel) rfl ⟨trivial, by omega⟩ ?_
      refine ax_bdMe_s hX (fun M40 hM_M40 hX => ?_)
      refine ax_fact (i := 0) (c := 0) (f := 14) (hi := 63) (s := (b : Int)) (by simp) rfl rfl rfl (fun hf41 => ?_)
      have hf41 : 0 ≤ (M40 b 14) ∧ (M40 b 14) ≤ 63 := hf41
      refine ax_lump ax_layC ok_kX0 [(350, .aload_n 0, 1, 0, 0, 0), (351, .getfield 59, 3, 0, 14, 0), (354, .iconst 4, 1, 0, 0, 0), (355, .idiv, 1, 1, 0, 0)] (pc' := 356) (lc' := [(0, (2, 0, (b : Int))), (3, (2, 1, a3)), (8, (0, 0, j8))]) (st' := [(0, 0, ((M40 b 14) / 4))]) (M' := M40) (C' := (True ∧ (0 ≤ (M40 b 14) ∧ 0 < 4))) (by decide +kernel) rfl ⟨trivial, by omega⟩ ?_
      exact ax_iret (by decide +kernel) rfl ⟨rfl, rfl, (show ((-1) : Int) ≤ ((M40 b 14) / 4) from by omega), (show ((M40 b 14) / 4) ≤ (15 : Int) from by omega)⟩
    · refine ax_lump ax_layC ok_kX0 [(335, .aload_n 0, 1, 0, 0, 0)] (pc' := 336) (lc' := [(0, (2, 0, (b : Int))), (3, (2, 1, a3)), (8, (0, 0, j8))]) (st' := [(2, 0, (b : Int)), (2, 0, (b : Int))]) (M' := y38.2) (C' := True) (by decide +kernel) rfl trivial ?_
      refine ax_cVm_s hX (G1 := gX0_level) (d1 := d + 2) (i := 150) (n := 0) (as := []) (st := [(2, 0, (b : Int))]) (c := 0) (a := (b : Int)) (by decide +kernel) ax_cls0 calX0_level (by omega) rfl wt_505 wt_507 ws_44 (Nat.le_of_ble_eq_true rfl) rfl (c_X0_level d b y38.2) (fun y42 h_y42 hX => ?_)
      refine ax_zlt_s hX (off := 7) (tgt := 346) (by decide +kernel) (by decide) (fun h43 hX => ?_) (fun h43 hX => ?_)
      · refine ax_lump ax_layC ok_kX0 [(346, .iconst 0, 1, 0, 0, 0), (347, .putfield 65, 3, 0, 16, 0)] (pc' := 350) (lc' := [(0, (2, 0, (b : Int))), (3, (2, 1, a3)), (8, (0, 0, j8))]) (st' := []) (M' := (ax_up y42.2 b 16 0)) (C' := (True ∧ (0 ≤ 0 ∧ 0 < ((2 : Nat) : Int)))) (by decide +kernel) rfl ⟨trivial, by omega⟩ ?_
        refine ax_bdMe_s hX (fun M44 hM_M44 hX => ?_)
        refine ax_fact (i := 0) (c := 0) (f := 14) (hi := 63) (s := (b : Int)) (by simp) rfl rfl rfl (fun hf45 => ?_)
        have hf45 : 0 ≤ (M44 b 14) ∧ (M44 b 14) ≤ 63 := hf45
        refine ax_lump ax_layC ok_kX0 [(350, .aload_n 0, 1, 0, 0, 0), (351, .getfield 59, 3, 0, 14, 0), (354, .iconst 4, 1, 0, 0, 0), (355, .idiv, 1, 1, 0, 0)] (pc' := 356) (lc' := [(0, (2, 0, (b : Int))), (3, (2, 1, a3)), (8, (0, 0, j8))]) (st' := [(0, 0, ((M44 b 14) / 4))]) (M' := M44) (C' := (True ∧ (0 ≤ (M44 b 14) ∧ 0 < 4))) (by decide +kernel) rfl ⟨trivial, by omega⟩ ?_
        exact ax_iret (by decide +kernel) rfl ⟨rfl, rfl, (show ((-1) : Int) ≤ ((M44 b 14) / 4) from by omega), (show ((M44 b 14) / 4) ≤ (15 : Int) from by omega)⟩
      · refine ax_lump ax_layC ok_kX0 [(342, .iconst 1, 1, 0, 0, 0), (343, .goto 4, 3, 347, 0, 0), (347, .putfield 65, 3, 0, 16, 0)] (pc' := 350) (lc' := [(0, (2, 0, (b : Int))), (3, (2, 1, a3)), (8, (0, 0, j8))]) (st' := []) (M' := (ax_up y42.2 b 16 1)) (C' := (True ∧ (0 ≤ 1 ∧ 1 < ((2 : Nat) : Int)))) (by decide +kernel) rfl ⟨trivial, by omega⟩ ?_
        refine ax_bdMe_s hX (fun M46 hM_M46 hX => ?_)
        refine ax_fact (i := 0) (c := 0) (f := 14) (hi := 63) (s := (b : Int)) (by simp) rfl rfl rfl (fun hf47 => ?_)
        have hf47 : 0 ≤ (M46 b 14) ∧ (M46 b 14) ≤ 63 := hf47
        refine ax_lump ax_layC ok_kX0 [(350, .aload_n 0, 1, 0, 0, 0), (351, .getfield 59, 3, 0, 14, 0), (354, .iconst 4, 1, 0, 0, 0), (355, .idiv, 1, 1, 0, 0)] (pc' := 356) (lc' := [(0, (2, 0, (b : Int))), (3, (2, 1, a3)), (8, (0, 0, j8))]) (st' := [(0, 0, ((M46 b 14) / 4))]) (M' := M46) (C' := (True ∧ (0 ≤ (M46 b 14) ∧ 0 < 4))) (by decide +kernel) rfl ⟨trivial, by omega⟩ ?_
        exact ax_iret (by decide +kernel) rfl ⟨rfl, rfl, (show ((-1) : Int) ≤ ((M46 b 14) / 4) from by omega), (show ((M46 b 14) / 4) ≤ (15 : Int) from by omega)⟩
def f_X0_write_J268 (b : Nat) (a3 : Int) (j1 : Int) (j2 : Int) (j5 : Int) (j8 : Int) (M : ax_M) : Prop × Int × ax_M := ax_bd (f_X0_put b j8 j1 j2 (M (b + 9) 0) M) (fun M27 => (if (M27 b 15) ≠ 4 then f_X0_write_J301 b a3 j8 M27 else (if j5 ≠ 3 then f_X0_write_J301 b a3 j8 M27 else ax_bd (f_X0_sealRun b M27) (fun y49 => f_X0_write_J301 b a3 j8 y49.2))))
set_option maxRecDepth 100000 in
set_option maxHeartbeats 4000000 in
theorem w_X0_write_J268 (d : Nat) (b : Nat) (a3 : Int) (j1 : Int) (j2 : Int) (j5 : Int) (j8 : Int) (M : ax_M) (hw_j1 : 0 ≤ j1 ∧ j1 ≤ 23) (hw_j2 : 0 ≤ j2 ∧ j2 ≤ 99) (hw_j5 : 0 ≤ j5 ∧ j5 ≤ 3) (hw_j8 : (-4) ≤ j8 ∧ j8 ≤ 63) (hX : (f_X0_write_J268 b a3 j1 j2 j5 j8 M).1) : ax_W ax_LC gX0_write (d + 5) 268 [(0, (2, 0, (b : Int))), (1, (0, 0, j1)), (2, (0, 0, j2)), (3, (2, 1, a3)), (5, (0, 0, j5)), (8, (0, 0, j8))] [] M ((ax_qm (-1) 15) (f_X0_write_J268 b a3 j1 j2 j5 j8 M).2) := by
  unfold f_X0_write_J268 at hX ⊢
  refine ax_lump ax_layC ok_kX0 [(268, .aload_n 0, 1, 0, 0, 0), (269, .iload 8, 2, 0, 0, 0), (271, .iload_n 1, 1, 0, 0, 0), (272, .iload_n 2, 1, 0, 0, 0), (273, .aload_n 0, 1, 0, 0, 0), (274, .getfield 36, 3, 0, 8, 0), (277, .iconst 0, 1, 0, 0, 0), (278, .iaload, 1, 0, 0, 0)] (pc' := 279) (lc' := [(0, (2, 0, (b : Int))), (1, (0, 0, j1)), (2, (0, 0, j2)), (3, (2, 1, a3)), (5, (0, 0, j5)), (8, (0, 0, j8))]) (st' := [(0, 0, (M (b + 9) 0)), (0, 0, j2), (0, 0, j1), (0, 0, j8), (2, 0, (b : Int))]) (M' := M) (C' := (True ∧ (0 ≤ 0 ∧ 0 < ((7 : Nat) : Int)))) (by decide +kernel) rfl ⟨trivial, by omega⟩ ?_
  refine ax_cVv_s hX (G1 := gX0_put) (d1 := d + 0) (i := 92) (n := 4) (as := [(0, 0, j8), (0, 0, j1), (0, 0, j2), (0, 0, (M (b + 9) 0))]) (st := []) (c := 0) (a := (b : Int)) (by decide +kernel) ax_cls0 calX0_put (by omega) rfl wt_434 wt_436 ws_29 (Nat.le_of_ble_eq_true rfl) rfl (c_X0_put d b j8 j1 j2 (M (b + 9) 0) M) (fun M27 hX => ?_)
  refine ax_fact (i := 0) (c := 0) (f := 15) (hi := 5) (s := (b : Int)) (by simp) rfl rfl rfl (fun hf28 => ?_)
  have hf28 : 0 ≤ (M27 b 15) ∧ (M27 b 15) ≤ 5 := hf28
  refine ax_lump ax_layC ok_kX0 [(282, .aload_n 0, 1, 0, 0, 0), (283, .getfield 62, 3, 0, 15, 0), (286, .iconst 4, 1, 0, 0, 0)] (pc' := 287) (lc' := [(0, (2, 0, (b : Int))), (1, (0, 0, j1)), (2, (0, 0, j2)), (3, (2, 1, a3)), (5, (0, 0, j5)), (8, (0, 0, j8))]) (st' := [(0, 0, 4), (0, 0, (M27 b 15))]) (M' := M27) (C' := True) (by decide +kernel) rfl trivial ?_
  refine ax_jne_s hX (off := 14) (tgt := 301) (by decide +kernel) (by decide) (fun h29 hX => ?_) (fun h29 hX => ?_)
  · refine ax_pk [0,3,5] (lc' := [(0, (2, 0, (b : Int))), (3, (2, 1, a3)), (8, (0, 0, j8))]) rfl ?_
    exact w_X0_write_J301 d b a3 j8 M27 (by omega) hX
  · refine ax_lump ax_layC ok_kX0 [(290, .iload 5, 2, 0, 0, 0), (292, .iconst 3, 1, 0, 0, 0)] (pc' := 293) (lc' := [(0, (2, 0, (b : Int))), (1, (0, 0, j1)), (2, (0, 0, j2)), (3, (2, 1, a3)), (5, (0, 0, j5)), (8, (0, 0, j8))]) (st' := [(0, 0, 3), (0, 0, j5)]) (M' := M27) (C' := True) (by decide +kernel) rfl trivial ?_
    refine ax_jne_s hX (off := 8) (tgt := 301) (by decide +kernel) (by decide) (fun h48 hX => ?_) (fun h48 hX => ?_)
    · refine ax_pk [0,3,5] (lc' := [(0, (2, 0, (b : Int))), (3, (2, 1, a3)), (8, (0, 0, j8))]) rfl ?_
      exact w_X0_write_J301 d b a3 j8 M27 (by omega) hX
    · refine ax_lump ax_layC ok_kX0 [(296, .aload_n 0, 1, 0, 0, 0)] (pc' := 297) (lc' := [(0, (2, 0, (b : Int))), (1, (0, 0, j1)), (2, (0, 0, j2)), (3, (2, 1, a3)), (5, (0, 0, j5)), (8, (0, 0, j8))]) (st' := [(2, 0, (b : Int))]) (M' := M27) (C' := True) (by decide +kernel) rfl trivial ?_
      refine ax_cVm_s hX (G1 := gX0_sealRun) (d1 := d + 4) (i := 120) (n := 0) (as := []) (st := []) (c := 0) (a := (b : Int)) (by decide +kernel) ax_cls0 calX0_sealRun (by omega) rfl wt_398 wt_400 ws_20 (Nat.le_of_ble_eq_true rfl) rfl (c_X0_sealRun d b M27) (fun y49 h_y49 hX => ?_)
      refine ax_lump ax_layC ok_kX0 [(300, .pop, 1, 0, 0, 0)] (pc' := 301) (lc' := [(0, (2, 0, (b : Int))), (1, (0, 0, j1)), (2, (0, 0, j2)), (3, (2, 1, a3)), (5, (0, 0, j5)), (8, (0, 0, j8))]) (st' := []) (M' := y49.2) (C' := True) (by decide +kernel) rfl trivial ?_
      refine ax_pk [0,3,5] (lc' := [(0, (2, 0, (b : Int))), (3, (2, 1, a3)), (8, (0, 0, j8))]) rfl ?_
      exact w_X0_write_J301 d b a3 j8 y49.2 (by omega) hX
def f_X0_write_J252 (b : Nat) (a3 : Int) (j1 : Int) (j2 : Int) (j5 : Int) (j9 : Int) (M : ax_M) : Prop × Int × ax_M := ax_bd (f_X0_take b j9 (f_X0_howMany b j9 M) M) (fun y53 => ax_bd (y53.1 * 4) (fun y54 => f_X0_write_J268 b a3 j1 j2 j5 y54 y53.2))
set_option maxRecDepth 100000 in
set_option maxHeartbeats 4000000 in
theorem w_X0_write_J252 (d : Nat) (b : Nat) (a3 : Int) (j1 : Int) (j2 : Int) (j5 : Int) (j9 : Int) (M : ax_M) (hw_j1 : 0 ≤ j1 ∧ j1 ≤ 23) (hw_j2 : 0 ≤ j2 ∧ j2 ≤ 99) (hw_j5 : 1 ≤ j5 ∧ j5 ≤ 3) (hw_j9 : 3 ≤ j9 ∧ j9 ≤ 4) (hX : (f_X0_write_J252 b a3 j1 j2 j5 j9 M).1) : ax_W ax_LC gX0_write (d + 5) 252 [(0, (2, 0, (b : Int))), (1, (0, 0, j1)), (2, (0, 0, j2)), (3, (2, 1, a3)), (5, (0, 0, j5)), (9, (0, 0, j9))] [] M ((ax_qm (-1) 15) (f_X0_write_J252 b a3 j1 j2 j5 j9 M).2) := by
  unfold f_X0_write_J252 at hX ⊢
  refine ax_lump ax_layC ok_kX0 [(252, .aload_n 0, 1, 0, 0, 0), (253, .iload 9, 2, 0, 0, 0), (255, .aload_n 0, 1, 0, 0, 0), (256, .iload 9, 2, 0, 0, 0)] (pc' := 258) (lc' := [(0, (2, 0, (b : Int))), (1, (0, 0, j1)), (2, (0, 0, j2)), (3, (2, 1, a3)), (5, (0, 0, j5)), (9, (0, 0, j9))]) (st' := [(0, 0, j9), (2, 0, (b : Int)), (0, 0, j9), (2, 0, (b : Int))]) (M' := M) (C' := True) (by decide +kernel) rfl trivial ?_
  refine ax_cVi (G1 := gX0_howMany) (d1 := d + 0) (i := 133) (n := 1) (as := [(0, 0, j9)]) (st := [(0, 0, j9), (2, 0, (b : Int))]) (c := 0) (a := (b : Int)) (by decide +kernel) ax_cls0 calX0_howMany (by omega) rfl wt_455 wt_457 ws_34 (Nat.le_of_ble_eq_true rfl) rfl (c_X0_howMany d b j9 M) (fun hc52 => ?_)
  refine ax_cVm_s hX (G1 := gX0_take) (d1 := d + 1) (i := 113) (n := 2) (as := [(0, 0, j9), (0, 0, (f_X0_howMany b j9 M))]) (st := []) (c := 0) (a := (b : Int)) (by decide +kernel) ax_cls0 calX0_take (by omega) rfl wt_386 wt_388 ws_17 (Nat.le_of_ble_eq_true rfl) rfl (c_X0_take d b j9 (f_X0_howMany b j9 M) M) (fun y53 h_y53 hX => ?_)
  refine ax_lump ax_layC ok_kX0 [(264, .iconst 4, 1, 0, 0, 0), (265, .imul, 1, 1, 0, 0), (266, .istore 8, 2, 0, 0, 0)] (pc' := 268) (lc' := [(8, (0, 0, (y53.1 * 4))), (0, (2, 0, (b : Int))), (1, (0, 0, j1)), (2, (0, 0, j2)), (3, (2, 1, a3)), (5, (0, 0, j5)), (9, (0, 0, j9))]) (st' := []) (M' := y53.2) (C' := (True ∧ ax_r32 (y53.1 * 4))) (by decide +kernel) rfl ⟨trivial, ⟨by omega, by omega⟩⟩ ?_
  refine ax_bdI_s hX (lo := (-4)) (hi := 60) (e := (y53.1 * 4)) (fun y54 => [(8, (0, 0, y54)), (0, (2, 0, (b : Int))), (1, (0, 0, j1)), (2, (0, 0, j2)), (3, (2, 1, a3)), (5, (0, 0, j5)), (9, (0, 0, j9))]) (fun y54 => []) (by omega) (fun y54 h_y54 hX => ?_)
  refine ax_pk [1,2,3,4,5,0] (lc' := [(0, (2, 0, (b : Int))), (1, (0, 0, j1)), (2, (0, 0, j2)), (3, (2, 1, a3)), (5, (0, 0, j5)), (8, (0, 0, y54))]) rfl ?_
  exact w_X0_write_J268 d b a3 j1 j2 j5 y54 y53.2 (by omega) (by omega) (by omega) (by omega) hX
def f_X0_write_J211 (b : Nat) (a3 : Int) (j1 : Int) (j2 : Int) (j5 : Int) (s0 : Int) (M : ax_M) : Prop × Int × ax_M := ax_bd (f_X0_roomInLogs b s0 M) (fun y25 => (if y25 ≠ (-1) then f_X0_write_J268 b a3 j1 j2 j5 y25 M else (if (f_X0_howMany b s0 M) < (M (b + 8) (s0 - 3).toNat) then f_X0_write_J252 b a3 j1 j2 j5 s0 M else ax_bd (f_X0_clearFirst b s0 M) (fun y55 => f_X0_write_J252 b a3 j1 j2 j5 s0 y55.2))))
set_option maxRecDepth 100000 in
set_option maxHeartbeats 4000000 in
theorem w_X0_write_J211 (d : Nat) (b : Nat) (a3 : Int) (j1 : Int) (j2 : Int) (j5 : Int) (s0 : Int) (M : ax_M) (hw_j1 : 0 ≤ j1 ∧ j1 ≤ 23) (hw_j2 : 0 ≤ j2 ∧ j2 ≤ 99) (hw_j5 : 1 ≤ j5 ∧ j5 ≤ 3) (hw_s0 : 3 ≤ s0 ∧ s0 ≤ 4) (hX : (f_X0_write_J211 b a3 j1 j2 j5 s0 M).1) : ax_W ax_LC gX0_write (d + 5) 211 [(0, (2, 0, (b : Int))), (1, (0, 0, j1)), (2, (0, 0, j2)), (3, (2, 1, a3)), (5, (0, 0, j5))] [(0, 0, s0)] M ((ax_qm (-1) 15) (f_X0_write_J211 b a3 j1 j2 j5 s0 M).2) := by
  unfold f_X0_write_J211 at hX ⊢
  refine ax_lump ax_layC ok_kX0 [(211, .istore 9, 2, 0, 0, 0), (213, .aload_n 0, 1, 0, 0, 0), (214, .iload 9, 2, 0, 0, 0)] (pc' := 216) (lc' := [(9, (0, 0, s0)), (0, (2, 0, (b : Int))), (1, (0, 0, j1)), (2, (0, 0, j2)), (3, (2, 1, a3)), (5, (0, 0, j5))]) (st' := [(0, 0, s0), (2, 0, (b : Int))]) (M' := M) (C' := True) (by decide +kernel) rfl trivial ?_
  refine ax_cVi (G1 := gX0_roomInLogs) (d1 := d + 1) (i := 130) (n := 1) (as := [(0, 0, s0)]) (st := []) (c := 0) (a := (b : Int)) (by decide +kernel) ax_cls0 calX0_roomInLogs (by omega) rfl wt_451 wt_453 ws_33 (Nat.le_of_ble_eq_true rfl) rfl (c_X0_roomInLogs d b s0 M) (fun hc24 => ?_)
  refine ax_lump ax_layC ok_kX0 [(219, .istore 8, 2, 0, 0, 0)] (pc' := 221) (lc' := [(8, (0, 0, (f_X0_roomInLogs b s0 M))), (9, (0, 0, s0)), (0, (2, 0, (b : Int))), (1, (0, 0, j1)), (2, (0, 0, j2)), (3, (2, 1, a3)), (5, (0, 0, j5))]) (st' := []) (M' := M) (C' := True) (by decide +kernel) rfl trivial ?_
  refine ax_bdI_s hX (lo := (-1)) (hi := 63) (e := (f_X0_roomInLogs b s0 M)) (fun y25 => [(8, (0, 0, y25)), (9, (0, 0, s0)), (0, (2, 0, (b : Int))), (1, (0, 0, j1)), (2, (0, 0, j2)), (3, (2, 1, a3)), (5, (0, 0, j5))]) (fun y25 => []) (by omega) (fun y25 h_y25 hX => ?_)
  refine ax_lump ax_layC ok_kX0 [(221, .iload 8, 2, 0, 0, 0), (223, .iconst (-1), 1, 0, 0, 0)] (pc' := 224) (lc' := [(8, (0, 0, y25)), (9, (0, 0, s0)), (0, (2, 0, (b : Int))), (1, (0, 0, j1)), (2, (0, 0, j2)), (3, (2, 1, a3)), (5, (0, 0, j5))]) (st' := [(0, 0, (-1)), (0, 0, y25)]) (M' := M) (C' := True) (by decide +kernel) rfl trivial ?_
  refine ax_jne_s hX (off := 44) (tgt := 268) (by decide +kernel) (by decide) (fun h26 hX => ?_) (fun h26 hX => ?_)
  · refine ax_pk [2,3,4,5,6,0] (lc' := [(0, (2, 0, (b : Int))), (1, (0, 0, j1)), (2, (0, 0, j2)), (3, (2, 1, a3)), (5, (0, 0, j5)), (8, (0, 0, y25))]) rfl ?_
    exact w_X0_write_J268 d b a3 j1 j2 j5 y25 M (by omega) (by omega) (by omega) (by omega) hX
  · refine ax_lump ax_layC ok_kX0 [(227, .aload_n 0, 1, 0, 0, 0), (228, .iload 9, 2, 0, 0, 0)] (pc' := 230) (lc' := [(8, (0, 0, y25)), (9, (0, 0, s0)), (0, (2, 0, (b : Int))), (1, (0, 0, j1)), (2, (0, 0, j2)), (3, (2, 1, a3)), (5, (0, 0, j5))]) (st' := [(0, 0, s0), (2, 0, (b : Int))]) (M' := M) (C' := True) (by decide +kernel) rfl trivial ?_
    refine ax_cVi (G1 := gX0_howMany) (d1 := d + 0) (i := 133) (n := 1) (as := [(0, 0, s0)]) (st := []) (c := 0) (a := (b : Int)) (by decide +kernel) ax_cls0 calX0_howMany (by omega) rfl wt_455 wt_457 ws_34 (Nat.le_of_ble_eq_true rfl) rfl (c_X0_howMany d b s0 M) (fun hc50 => ?_)
    refine ax_lump ax_layC ok_kX0 [(233, .aload_n 0, 1, 0, 0, 0), (234, .getfield 33, 3, 0, 7, 0), (237, .iload 9, 2, 0, 0, 0), (239, .iconst 3, 1, 0, 0, 0), (240, .isub, 1, 1, 0, 0), (241, .iaload, 1, 0, 0, 0)] (pc' := 242) (lc' := [(8, (0, 0, y25)), (9, (0, 0, s0)), (0, (2, 0, (b : Int))), (1, (0, 0, j1)), (2, (0, 0, j2)), (3, (2, 1, a3)), (5, (0, 0, j5))]) (st' := [(0, 0, (M (b + 8) (s0 - 3).toNat)), (0, 0, (f_X0_howMany b s0 M))]) (M' := M) (C' := ((True ∧ ax_r32 (s0 - 3)) ∧ (0 ≤ (s0 - 3) ∧ (s0 - 3) < ((3 : Nat) : Int)))) (by decide +kernel) rfl ⟨⟨trivial, ⟨by omega, by omega⟩⟩, by omega⟩ ?_
    refine ax_jlt_s hX (off := 10) (tgt := 252) (by decide +kernel) (by decide) (fun h51 hX => ?_) (fun h51 hX => ?_)
    · refine ax_pk [2,3,4,5,6,1] (lc' := [(0, (2, 0, (b : Int))), (1, (0, 0, j1)), (2, (0, 0, j2)), (3, (2, 1, a3)), (5, (0, 0, j5)), (9, (0, 0, s0))]) rfl ?_
      exact w_X0_write_J252 d b a3 j1 j2 j5 s0 M (by omega) (by omega) (by omega) (by omega) hX
    · refine ax_lump ax_layC ok_kX0 [(245, .aload_n 0, 1, 0, 0, 0), (246, .iload 9, 2, 0, 0, 0)] (pc' := 248) (lc' := [(8, (0, 0, y25)), (9, (0, 0, s0)), (0, (2, 0, (b : Int))), (1, (0, 0, j1)), (2, (0, 0, j2)), (3, (2, 1, a3)), (5, (0, 0, j5))]) (st' := [(0, 0, s0), (2, 0, (b : Int))]) (M' := M) (C' := True) (by decide +kernel) rfl trivial ?_
      refine ax_cVm_s hX (G1 := gX0_clearFirst) (d1 := d + 4) (i := 136) (n := 1) (as := [(0, 0, s0)]) (st := []) (c := 0) (a := (b : Int)) (by decide +kernel) ax_cls0 calX0_clearFirst (by omega) rfl wt_459 wt_461 ws_35 (Nat.le_of_ble_eq_true rfl) rfl (c_X0_clearFirst d b s0 M) (fun y55 h_y55 hX => ?_)
      refine ax_lump ax_layC ok_kX0 [(251, .pop, 1, 0, 0, 0)] (pc' := 252) (lc' := [(8, (0, 0, y25)), (9, (0, 0, s0)), (0, (2, 0, (b : Int))), (1, (0, 0, j1)), (2, (0, 0, j2)), (3, (2, 1, a3)), (5, (0, 0, j5))]) (st' := []) (M' := y55.2) (C' := True) (by decide +kernel) rfl trivial ?_
      refine ax_pk [2,3,4,5,6,1] (lc' := [(0, (2, 0, (b : Int))), (1, (0, 0, j1)), (2, (0, 0, j2)), (3, (2, 1, a3)), (5, (0, 0, j5)), (9, (0, 0, s0))]) rfl ?_
      exact w_X0_write_J252 d b a3 j1 j2 j5 s0 y55.2 (by omega) (by omega) (by omega) (by omega) hX
def f_X0_write_J193 (b : Nat) (a3 : Int) (j1 : Int) (j2 : Int) (j5 : Int) (M : ax_M) : Prop × Int × ax_M := ax_bd (ax_up M b 15 5) (fun M21 => (if (f_X0_isHot b j1 M21) = 0 then f_X0_write_J211 b a3 j1 j2 j5 3 M21 else f_X0_write_J211 b a3 j1 j2 j5 4 M21))
set_option maxRecDepth 100000 in
set_option maxHeartbeats 4000000 in
theorem w_X0_write_J193 (d : Nat) (b : Nat) (a3 : Int) (j1 : Int) (j2 : Int) (j5 : Int) (M : ax_M) (hw_j1 : 0 ≤ j1 ∧ j1 ≤ 23) (hw_j2 : 0 ≤ j2 ∧ j2 ≤ 99) (hw_j5 : 1 ≤ j5 ∧ j5 ≤ 3) (hX : (f_X0_write_J193 b a3 j1 j2 j5 M).1) : ax_W ax_LC gX0_write (d + 5) 193 [(0, (2, 0, (b : Int))), (1, (0, 0, j1)), (2, (0, 0, j2)), (3, (2, 1, a3)), (5, (0, 0, j5))] [] M ((ax_qm (-1) 15) (f_X0_write_J193 b a3 j1 j2 j5 M).2) := by
  unfold f_X0_write_J193 at hX ⊢
  refine ax_lump ax_layC ok_kX0 [(193, .aload_n 0, 1, 0, 0, 0), (194, .iconst 5, 1, 0, 0, 0), (195, .putfield 62, 3, 0, 15, 0)] (pc' := 198) (lc' := [(0, (2, 0, (b : Int))), (1, (0, 0, j1)), (2, (0, 0, j2)), (3, (2, 1, a3)), (5, (0, 0, j5))]) (st' := []) (M' := (ax_up M b 15 5)) (C' := (True ∧ (0 ≤ 5 ∧ 5 < ((6 : Nat) : Int)))) (by decide +kernel) rfl ⟨trivial, by omega⟩ ?_
  refine ax_bdMe_s hX (fun M21 hM_M21 hX => ?_)
  refine ax_lump ax_layC ok_kX0 [(198, .aload_n 0, 1, 0, 0, 0), (199, .iload_n 1, 1, 0, 0, 0)] (pc' := 200) (lc' := [(0, (2, 0, (b : Int))), (1, (0, 0, j1)), (2, (0, 0, j2)), (3, (2, 1, a3)), (5, (0, 0, j5))]) (st' := [(0, 0, j1), (2, 0, (b : Int))]) (M' := M21) (C' := True) (by decide +kernel) rfl trivial ?_
  refine ax_cVi (G1 := gX0_isHot) (d1 := d + 0) (i := 127) (n := 1) (as := [(0, 0, j1)]) (st := []) (c := 0) (a := (b : Int)) (by decide +kernel) ax_cls0 calX0_isHot (by omega) rfl wt_447 wt_449 ws_32 (Nat.le_of_ble_eq_true rfl) rfl (c_X0_isHot d b j1 M21) (fun hc22 => ?_)
  refine ax_zeq_s hX (off := 7) (tgt := 210) (by decide +kernel) (by decide) (fun h23 hX => ?_) (fun h23 hX => ?_)
  · refine ax_lump ax_layC ok_kX0 [(210, .iconst 3, 1, 0, 0, 0)] (pc' := 211) (lc' := [(0, (2, 0, (b : Int))), (1, (0, 0, j1)), (2, (0, 0, j2)), (3, (2, 1, a3)), (5, (0, 0, j5))]) (st' := [(0, 0, 3)]) (M' := M21) (C' := True) (by decide +kernel) rfl trivial ?_
    exact w_X0_write_J211 d b a3 j1 j2 j5 3 M21 (by omega) (by omega) (by omega) (by omega) hX
  · refine ax_lump ax_layC ok_kX0 [(206, .iconst 4, 1, 0, 0, 0), (207, .goto 4, 3, 211, 0, 0)] (pc' := 211) (lc' := [(0, (2, 0, (b : Int))), (1, (0, 0, j1)), (2, (0, 0, j2)), (3, (2, 1, a3)), (5, (0, 0, j5))]) (st' := [(0, 0, 4)]) (M' := M21) (C' := True) (by decide +kernel) rfl trivial ?_
    exact w_X0_write_J211 d b a3 j1 j2 j5 4 M21 (by omega) (by omega) (by omega) (by omega) hX
def f_X0_write_J95 (b : Nat) (a3 : Int) (j1 : Int) (j2 : Int) (j4 : Int) (j5 : Int) (j6 : Int) (M : ax_M) : Prop × Int × ax_M := ax_bd (f_X0_owned b 2 j4 M) (fun y15 => ax_bd ((j6 * 4) + j5) (fun y16 => (if (f_X0_isEmptyAt b y16 M) = 0 then (if j5 ≠ 0 then (if y15 = (-1) then f_X0_write_J193 b a3 j1 j2 j5 M else (if (f_X0_filled b y15 M) ≠ j5 then f_X0_write_J193 b a3 j1 j2 j5 M else ax_bd (ax_up M b 15 4) (fun M58 => ax_bd ((y15 * 4) + j5) (fun y59 => f_X0_write_J268 b a3 j1 j2 j5 y59 M58)))) else ax_bd (ax_up M b 15 3) (fun M60 => ax_bd (f_X0_sealRun b M60) (fun y61 => ax_bd (f_X0_take b 2 j4 y61.2) (fun y62 => ax_bd (y62.1 * 4) (fun y63 => f_X0_write_J268 b a3 j1 j2 j5 y63 y62.2))))) else ax_bd (ax_up M b 15 2) (fun M64 => f_X0_write_J268 b a3 j1 j2 j5 y16 M64))))
set_option maxRecDepth 100000 in
set_option maxHeartbeats 4000000 in
theorem w_X0_write_J95 (d : Nat) (b : Nat) (a3 : Int) (j1 : Int) (j2 : Int) (j4 : Int) (j5 : Int) (j6 : Int) (M : ax_M) (hw_j1 : 0 ≤ j1 ∧ j1 ≤ 23) (hw_j2 : 0 ≤ j2 ∧ j2 ≤ 99) (hw_j4 : 0 ≤ j4 ∧ j4 ≤ 5) (hw_j5 : 0 ≤ j5 ∧ j5 ≤ 3) (hw_j6 : (-1) ≤ j6 ∧ j6 ≤ 15) (hX : (f_X0_write_J95 b a3 j1 j2 j4 j5 j6 M).1) : ax_W ax_LC gX0_write (d + 5) 95 [(0, (2, 0, (b : Int))), (1, (0, 0, j1)), (2, (0, 0, j2)), (3, (2, 1, a3)), (4, (0, 0, j4)), (5, (0, 0, j5)), (6, (0, 0, j6))] [] M ((ax_qm (-1) 15) (f_X0_write_J95 b a3 j1 j2 j4 j5 j6 M).2) := by
  unfold f_X0_write_J95 at hX ⊢
  refine ax_lump ax_layC ok_kX0 [(95, .aload_n 0, 1, 0, 0, 0), (96, .iconst 2, 1, 0, 0, 0), (97, .iload 4, 2, 0, 0, 0)] (pc' := 99) (lc' := [(0, (2, 0, (b : Int))), (1, (0, 0, j1)), (2, (0, 0, j2)), (3, (2, 1, a3)), (4, (0, 0, j4)), (5, (0, 0, j5)), (6, (0, 0, j6))]) (st' := [(0, 0, j4), (0, 0, 2), (2, 0, (b : Int))]) (M' := M) (C' := True) (by decide +kernel) rfl trivial ?_
  refine ax_cVi (G1 := gX0_owned) (d1 := d + 0) (i := 110) (n := 2) (as := [(0, 0, 2), (0, 0, j4)]) (st := []) (c := 0) (a := (b : Int)) (by decide +kernel) ax_cls0 calX0_owned (by omega) rfl wt_382 wt_384 ws_16 (Nat.le_of_ble_eq_true rfl) rfl (c_X0_owned d b 2 j4 M) (fun hc14 => ?_)
  refine ax_lump ax_layC ok_kX0 [(102, .istore 7, 2, 0, 0, 0)] (pc' := 104) (lc' := [(7, (0, 0, (f_X0_owned b 2 j4 M))), (0, (2, 0, (b : Int))), (1, (0, 0, j1)), (2, (0, 0, j2)), (3, (2, 1, a3)), (4, (0, 0, j4)), (5, (0, 0, j5)), (6, (0, 0, j6))]) (st' := []) (M' := M) (C' := True) (by decide +kernel) rfl trivial ?_
  refine ax_bdI_s hX (lo := (-1)) (hi := 15) (e := (f_X0_owned b 2 j4 M)) (fun y15 => [(7, (0, 0, y15)), (0, (2, 0, (b : Int))), (1, (0, 0, j1)), (2, (0, 0, j2)), (3, (2, 1, a3)), (4, (0, 0, j4)), (5, (0, 0, j5)), (6, (0, 0, j6))]) (fun y15 => []) (by omega) (fun y15 h_y15 hX => ?_)
  refine ax_lump ax_layC ok_kX0 [(104, .iload 6, 2, 0, 0, 0), (106, .iconst 4, 1, 0, 0, 0), (107, .imul, 1, 1, 0, 0), (108, .iload 5, 2, 0, 0, 0), (110, .iadd, 1, 1, 0, 0), (111, .istore 8, 2, 0, 0, 0)] (pc' := 113) (lc' := [(8, (0, 0, ((j6 * 4) + j5))), (7, (0, 0, y15)), (0, (2, 0, (b : Int))), (1, (0, 0, j1)), (2, (0, 0, j2)), (3, (2, 1, a3)), (4, (0, 0, j4)), (5, (0, 0, j5)), (6, (0, 0, j6))]) (st' := []) (M' := M) (C' := ((True ∧ ax_r32 (j6 * 4)) ∧ ax_r32 ((j6 * 4) + j5))) (by decide +kernel) rfl ⟨⟨trivial, ⟨by omega, by omega⟩⟩, ⟨by omega, by omega⟩⟩ ?_
  refine ax_bdI_s hX (lo := (-4)) (hi := 63) (e := ((j6 * 4) + j5)) (fun y16 => [(8, (0, 0, y16)), (7, (0, 0, y15)), (0, (2, 0, (b : Int))), (1, (0, 0, j1)), (2, (0, 0, j2)), (3, (2, 1, a3)), (4, (0, 0, j4)), (5, (0, 0, j5)), (6, (0, 0, j6))]) (fun y16 => []) (by omega) (fun y16 h_y16 hX => ?_)
  refine ax_lump ax_layC ok_kX0 [(113, .aload_n 0, 1, 0, 0, 0), (114, .iload 8, 2, 0, 0, 0)] (pc' := 116) (lc' := [(8, (0, 0, y16)), (7, (0, 0, y15)), (0, (2, 0, (b : Int))), (1, (0, 0, j1)), (2, (0, 0, j2)), (3, (2, 1, a3)), (4, (0, 0, j4)), (5, (0, 0, j5)), (6, (0, 0, j6))]) (st' := [(0, 0, y16), (2, 0, (b : Int))]) (M' := M) (C' := True) (by decide +kernel) rfl trivial ?_
  refine ax_cVi (G1 := gX0_isEmptyAt) (d1 := d + 0) (i := 116) (n := 1) (as := [(0, 0, y16)]) (st := []) (c := 0) (a := (b : Int)) (by decide +kernel) ax_cls0 calX0_isEmptyAt (by omega) rfl wt_394 wt_396 ws_19 (Nat.le_of_ble_eq_true rfl) rfl (c_X0_isEmptyAt d b y16 M) (fun hc17 => ?_)
  refine ax_zeq_s hX (off := 11) (tgt := 130) (by decide +kernel) (by decide) (fun h18 hX => ?_) (fun h18 hX => ?_)
  · refine ax_lump ax_layC ok_kX0 [(130, .iload 5, 2, 0, 0, 0)] (pc' := 132) (lc' := [(8, (0, 0, y16)), (7, (0, 0, y15)), (0, (2, 0, (b : Int))), (1, (0, 0, j1)), (2, (0, 0, j2)), (3, (2, 1, a3)), (4, (0, 0, j4)), (5, (0, 0, j5)), (6, (0, 0, j6))]) (st' := [(0, 0, j5)]) (M' := M) (C' := True) (by decide +kernel) rfl trivial ?_
    refine ax_zne_s hX (off := 27) (tgt := 159) (by decide +kernel) (by decide) (fun h19 hX => ?_) (fun h19 hX => ?_)
    · refine ax_lump ax_layC ok_kX0 [(159, .iload 7, 2, 0, 0, 0), (161, .iconst (-1), 1, 0, 0, 0)] (pc' := 162) (lc' := [(8, (0, 0, y16)), (7, (0, 0, y15)), (0, (2, 0, (b : Int))), (1, (0, 0, j1)), (2, (0, 0, j2)), (3, (2, 1, a3)), (4, (0, 0, j4)), (5, (0, 0, j5)), (6, (0, 0, j6))]) (st' := [(0, 0, (-1)), (0, 0, y15)]) (M' := M) (C' := True) (by decide +kernel) rfl trivial ?_
      refine ax_jeq_s hX (off := 31) (tgt := 193) (by decide +kernel) (by decide) (fun h20 hX => ?_) (fun h20 hX => ?_)
      · refine ax_pk [2,3,4,5,7] (lc' := [(0, (2, 0, (b : Int))), (1, (0, 0, j1)), (2, (0, 0, j2)), (3, (2, 1, a3)), (5, (0, 0, j5))]) rfl ?_
        exact w_X0_write_J193 d b a3 j1 j2 j5 M (by omega) (by omega) (by omega) hX
      · refine ax_lump ax_layC ok_kX0 [(165, .aload_n 0, 1, 0, 0, 0), (166, .iload 7, 2, 0, 0, 0)] (pc' := 168) (lc' := [(8, (0, 0, y16)), (7, (0, 0, y15)), (0, (2, 0, (b : Int))), (1, (0, 0, j1)), (2, (0, 0, j2)), (3, (2, 1, a3)), (4, (0, 0, j4)), (5, (0, 0, j5)), (6, (0, 0, j6))]) (st' := [(0, 0, y15), (2, 0, (b : Int))]) (M' := M) (C' := True) (by decide +kernel) rfl trivial ?_
        refine ax_cVi (G1 := gX0_filled) (d1 := d + 0) (i := 123) (n := 1) (as := [(0, 0, y15)]) (st := []) (c := 0) (a := (b : Int)) (by decide +kernel) ax_cls0 calX0_filled (by omega) rfl wt_406 wt_408 ws_22 (Nat.le_of_ble_eq_true rfl) rfl (c_X0_filled d b y15 M) (fun hc56 => ?_)
        refine ax_lump ax_layC ok_kX0 [(171, .iload 5, 2, 0, 0, 0)] (pc' := 173) (lc' := [(8, (0, 0, y16)), (7, (0, 0, y15)), (0, (2, 0, (b : Int))), (1, (0, 0, j1)), (2, (0, 0, j2)), (3, (2, 1, a3)), (4, (0, 0, j4)), (5, (0, 0, j5)), (6, (0, 0, j6))]) (st' := [(0, 0, j5), (0, 0, (f_X0_filled b y15 M))]) (M' := M) (C' := True) (by decide +kernel) rfl trivial ?_
        refine ax_jne_s hX (off := 20) (tgt := 193) (by decide +kernel) (by decide) (fun h57 hX => ?_) (fun h57 hX => ?_)
        · refine ax_pk [2,3,4,5,7] (lc' := [(0, (2, 0, (b : Int))), (1, (0, 0, j1)), (2, (0, 0, j2)), (3, (2, 1, a3)), (5, (0, 0, j5))]) rfl ?_
          exact w_X0_write_J193 d b a3 j1 j2 j5 M (by omega) (by omega) (by omega) hX
        · refine ax_lump ax_layC ok_kX0 [(176, .aload_n 0, 1, 0, 0, 0), (177, .iconst 4, 1, 0, 0, 0), (178, .putfield 62, 3, 0, 15, 0)] (pc' := 181) (lc' := [(8, (0, 0, y16)), (7, (0, 0, y15)), (0, (2, 0, (b : Int))), (1, (0, 0, j1)), (2, (0, 0, j2)), (3, (2, 1, a3)), (4, (0, 0, j4)), (5, (0, 0, j5)), (6, (0, 0, j6))]) (st' := []) (M' := (ax_up M b 15 4)) (C' := (True ∧ (0 ≤ 4 ∧ 4 < ((6 : Nat) : Int)))) (by decide +kernel) rfl ⟨trivial, by omega⟩ ?_
          refine ax_bdMe_s hX (fun M58 hM_M58 hX => ?_)
          refine ax_lump ax_layC ok_kX0 [(181, .iload 7, 2, 0, 0, 0), (183, .iconst 4, 1, 0, 0, 0), (184, .imul, 1, 1, 0, 0), (185, .iload 5, 2, 0, 0, 0), (187, .iadd, 1, 1, 0, 0), (188, .istore 8, 2, 0, 0, 0)] (pc' := 190) (lc' := [(8, (0, 0, ((y15 * 4) + j5))), (7, (0, 0, y15)), (0, (2, 0, (b : Int))), (1, (0, 0, j1)), (2, (0, 0, j2)), (3, (2, 1, a3)), (4, (0, 0, j4)), (5, (0, 0, j5)), (6, (0, 0, j6))]) (st' := []) (M' := M58) (C' := ((True ∧ ax_r32 (y15 * 4)) ∧ ax_r32 ((y15 * 4) + j5))) (by decide +kernel) rfl ⟨⟨trivial, ⟨by omega, by omega⟩⟩, ⟨by omega, by omega⟩⟩ ?_
          refine ax_bdI_s hX (lo := 1) (hi := 63) (e := ((y15 * 4) + j5)) (fun y59 => [(8, (0, 0, y59)), (7, (0, 0, y15)), (0, (2, 0, (b : Int))), (1, (0, 0, j1)), (2, (0, 0, j2)), (3, (2, 1, a3)), (4, (0, 0, j4)), (5, (0, 0, j5)), (6, (0, 0, j6))]) (fun y59 => []) (by omega) (fun y59 h_y59 hX => ?_)
          refine ax_lump ax_layC ok_kX0 [(190, .goto 78, 3, 268, 0, 0)] (pc' := 268) (lc' := [(8, (0, 0, y59)), (7, (0, 0, y15)), (0, (2, 0, (b : Int))), (1, (0, 0, j1)), (2, (0, 0, j2)), (3, (2, 1, a3)), (4, (0, 0, j4)), (5, (0, 0, j5)), (6, (0, 0, j6))]) (st' := []) (M' := M58) (C' := True) (by decide +kernel) rfl trivial ?_
          refine ax_pk [2,3,4,5,7,0] (lc' := [(0, (2, 0, (b : Int))), (1, (0, 0, j1)), (2, (0, 0, j2)), (3, (2, 1, a3)), (5, (0, 0, j5)), (8, (0, 0, y59))]) rfl ?_
          exact w_X0_write_J268 d b a3 j1 j2 j5 y59 M58 (by omega) (by omega) (by omega) (by omega) hX
    · refine ax_lump ax_layC ok_kX0 [(135, .aload_n 0, 1, 0, 0, 0), (136, .iconst 3, 1, 0, 0, 0), (137, .putfield 62, 3, 0, 15, 0)] (pc' := 140) (lc' := [(8, (0, 0, y16)), (7, (0, 0, y15)), (0, (2, 0, (b : Int))), (1, (0, 0, j1)), (2, (0, 0, j2)), (3, (2, 1, a3)), (4, (0, 0, j4)), (5, (0, 0, j5)), (6, (0, 0, j6))]) (st' := []) (M' := (ax_up M b 15 3)) (C' := (True ∧ (0 ≤ 3 ∧ 3 < ((6 : Nat) : Int)))) (by decide +kernel) rfl ⟨trivial, by omega⟩ ?_
      refine ax_bdMe_s hX (fun M60 hM_M60 hX => ?_)
      refine ax_lump ax_layC ok_kX0 [(140, .aload_n 0, 1, 0, 0, 0)] (pc' := 141) (lc' := [(8, (0, 0, y16)), (7, (0, 0, y15)), (0, (2, 0, (b : Int))), (1, (0, 0, j1)), (2, (0, 0, j2)), (3, (2, 1, a3)), (4, (0, 0, j4)), (5, (0, 0, j5)), (6, (0, 0, j6))]) (st' := [(2, 0, (b : Int))]) (M' := M60) (C' := True) (by decide +kernel) rfl trivial ?_
      refine ax_cVm_s hX (G1 := gX0_sealRun) (d1 := d + 4) (i := 120) (n := 0) (as := []) (st := []) (c := 0) (a := (b : Int)) (by decide +kernel) ax_cls0 calX0_sealRun (by omega) rfl wt_398 wt_400 ws_20 (Nat.le_of_ble_eq_true rfl) rfl (c_X0_sealRun d b M60) (fun y61 h_y61 hX => ?_)
      refine ax_lump ax_layC ok_kX0 [(144, .pop, 1, 0, 0, 0), (145, .aload_n 0, 1, 0, 0, 0), (146, .iconst 2, 1, 0, 0, 0), (147, .iload 4, 2, 0, 0, 0)] (pc' := 149) (lc' := [(8, (0, 0, y16)), (7, (0, 0, y15)), (0, (2, 0, (b : Int))), (1, (0, 0, j1)), (2, (0, 0, j2)), (3, (2, 1, a3)), (4, (0, 0, j4)), (5, (0, 0, j5)), (6, (0, 0, j6))]) (st' := [(0, 0, j4), (0, 0, 2), (2, 0, (b : Int))]) (M' := y61.2) (C' := True) (by decide +kernel) rfl trivial ?_
      refine ax_cVm_s hX (G1 := gX0_take) (d1 := d + 1) (i := 113) (n := 2) (as := [(0, 0, 2), (0, 0, j4)]) (st := []) (c := 0) (a := (b : Int)) (by decide +kernel) ax_cls0 calX0_take (by omega) rfl wt_386 wt_388 ws_17 (Nat.le_of_ble_eq_true rfl) rfl (c_X0_take d b 2 j4 y61.2) (fun y62 h_y62 hX => ?_)
      refine ax_lump ax_layC ok_kX0 [(152, .iconst 4, 1, 0, 0, 0), (153, .imul, 1, 1, 0, 0), (154, .istore 8, 2, 0, 0, 0)] (pc' := 156) (lc' := [(8, (0, 0, (y62.1 * 4))), (7, (0, 0, y15)), (0, (2, 0, (b : Int))), (1, (0, 0, j1)), (2, (0, 0, j2)), (3, (2, 1, a3)), (4, (0, 0, j4)), (5, (0, 0, j5)), (6, (0, 0, j6))]) (st' := []) (M' := y62.2) (C' := (True ∧ ax_r32 (y62.1 * 4))) (by decide +kernel) rfl ⟨trivial, ⟨by omega, by omega⟩⟩ ?_
      refine ax_bdI_s hX (lo := (-4)) (hi := 60) (e := (y62.1 * 4)) (fun y63 => [(8, (0, 0, y63)), (7, (0, 0, y15)), (0, (2, 0, (b : Int))), (1, (0, 0, j1)), (2, (0, 0, j2)), (3, (2, 1, a3)), (4, (0, 0, j4)), (5, (0, 0, j5)), (6, (0, 0, j6))]) (fun y63 => []) (by omega) (fun y63 h_y63 hX => ?_)
      refine ax_lump ax_layC ok_kX0 [(156, .goto 112, 3, 268, 0, 0)] (pc' := 268) (lc' := [(8, (0, 0, y63)), (7, (0, 0, y15)), (0, (2, 0, (b : Int))), (1, (0, 0, j1)), (2, (0, 0, j2)), (3, (2, 1, a3)), (4, (0, 0, j4)), (5, (0, 0, j5)), (6, (0, 0, j6))]) (st' := []) (M' := y62.2) (C' := True) (by decide +kernel) rfl trivial ?_
      refine ax_pk [2,3,4,5,7,0] (lc' := [(0, (2, 0, (b : Int))), (1, (0, 0, j1)), (2, (0, 0, j2)), (3, (2, 1, a3)), (5, (0, 0, j5)), (8, (0, 0, y63))]) rfl ?_
      exact w_X0_write_J268 d b a3 j1 j2 j5 y63 y62.2 (by omega) (by omega) (by omega) (by omega) hX
  · refine ax_lump ax_layC ok_kX0 [(122, .aload_n 0, 1, 0, 0, 0), (123, .iconst 2, 1, 0, 0, 0), (124, .putfield 62, 3, 0, 15, 0)] (pc' := 127) (lc' := [(8, (0, 0, y16)), (7, (0, 0, y15)), (0, (2, 0, (b : Int))), (1, (0, 0, j1)), (2, (0, 0, j2)), (3, (2, 1, a3)), (4, (0, 0, j4)), (5, (0, 0, j5)), (6, (0, 0, j6))]) (st' := []) (M' := (ax_up M b 15 2)) (C' := (True ∧ (0 ≤ 2 ∧ 2 < ((6 : Nat) : Int)))) (by decide +kernel) rfl ⟨trivial, by omega⟩ ?_
    refine ax_bdMe_s hX (fun M64 hM_M64 hX => ?_)
    refine ax_lump ax_layC ok_kX0 [(127, .goto 141, 3, 268, 0, 0)] (pc' := 268) (lc' := [(8, (0, 0, y16)), (7, (0, 0, y15)), (0, (2, 0, (b : Int))), (1, (0, 0, j1)), (2, (0, 0, j2)), (3, (2, 1, a3)), (4, (0, 0, j4)), (5, (0, 0, j5)), (6, (0, 0, j6))]) (st' := []) (M' := M64) (C' := True) (by decide +kernel) rfl trivial ?_
    refine ax_pk [2,3,4,5,7,0] (lc' := [(0, (2, 0, (b : Int))), (1, (0, 0, j1)), (2, (0, 0, j2)), (3, (2, 1, a3)), (5, (0, 0, j5)), (8, (0, 0, y16))]) rfl ?_
    exact w_X0_write_J268 d b a3 j1 j2 j5 y16 M64 (by omega) (by omega) (by omega) (by omega) hX
def f_X0_write (b : Nat) (x1 : Int) (x2 : Int) (a3 : Int) (M : ax_M) : Prop × Int × ax_M := (if x1 < 0 then (True, ((-1), M)) else (if 24 ≤ x1 then (True, ((-1), M)) else (if x2 < 0 then (True, ((-1), M)) else (if x2 < 100 then ax_bd (ax_up M b 11 0) (fun M5 => ax_bd (ax_up M5 b 13 0) (fun M6 => ax_bd (ax_up M6 (b + 9) 0 (ax_wr ((M6 (b + 9) 0) + 1))) (fun M7 => ax_bd (ax_up M7 (b + 7) x1.toNat (if 99 < (ax_wr ((M7 (b + 7) x1.toNat) + 1)) then 99 else (ax_wr ((M7 (b + 7) x1.toNat) + 1)))) (fun M8 => ax_bd (x1 / 4) (fun y9 => ax_bd (x1 % 4) (fun y10 => ax_bd (f_X0_owned b 1 y9 M8) (fun y12 => (if y12 ≠ (-1) then f_X0_write_J95 b a3 x1 x2 y9 y10 y12 M8 else ax_bd (f_X0_take b 1 y9 M8) (fun y65 => f_X0_write_J95 b a3 x1 x2 y9 y10 y65.1 y65.2))))))))) else (True, ((-1), M))))))
set_option maxRecDepth 100000 in
set_option maxHeartbeats 4000000 in
theorem c_X0_write (d : Nat) (b : Nat) (x1 : Int) (x2 : Int) (a3 : Int) (M : ax_M)  (hX : (f_X0_write b x1 x2 a3 M).1) : ax_Met ax_LC gX0_write (d + 5) [(2, 0, (b : Int)), (0, 0, x1), (0, 0, x2), (2, 1, a3)] M ((ax_qm (-1) 15) (f_X0_write b x1 x2 a3 M).2) := by
  refine ax_body (by decide) (fun X => Nat.le_of_ble_eq_true rfl) (fun hok => ?_)
  have hr_x1 : (-2147483648) ≤ x1 ∧ x1 ≤ 2147483647 := hok (0, 0, x1) (by simp)
  have hr_x2 : (-2147483648) ≤ x2 ∧ x2 ≤ 2147483647 := hok (0, 0, x2) (by simp)
  show ax_W ax_LC gX0_write (d + 5) 0 [(0, (2, 0, (b : Int))), (1, (0, 0, x1)), (2, (0, 0, x2)), (3, (2, 1, a3))] [] M _
  unfold f_X0_write at hX ⊢
  refine ax_lump ax_layC ok_kX0 [(0, .iload_n 1, 1, 0, 0, 0)] (pc' := 1) (lc' := [(0, (2, 0, (b : Int))), (1, (0, 0, x1)), (2, (0, 0, x2)), (3, (2, 1, a3))]) (st' := [(0, 0, x1)]) (M' := M) (C' := True) (by decide +kernel) rfl trivial ?_
  refine ax_zlt_s hX (off := 19) (tgt := 20) (by decide +kernel) (by decide) (fun h1 hX => ?_) (fun h1 hX => ?_)
  · refine ax_lump ax_layC ok_kX0 [(20, .iconst (-1), 1, 0, 0, 0)] (pc' := 21) (lc' := [(0, (2, 0, (b : Int))), (1, (0, 0, x1)), (2, (0, 0, x2)), (3, (2, 1, a3))]) (st' := [(0, 0, (-1))]) (M' := M) (C' := True) (by decide +kernel) rfl trivial ?_
    exact ax_iret (by decide +kernel) rfl ⟨rfl, rfl, (show ((-1) : Int) ≤ (-1) from by omega), (show (-1) ≤ (15 : Int) from by omega)⟩
  · refine ax_lump ax_layC ok_kX0 [(4, .iload_n 1, 1, 0, 0, 0), (5, .bipush 24, 2, 0, 0, 0)] (pc' := 7) (lc' := [(0, (2, 0, (b : Int))), (1, (0, 0, x1)), (2, (0, 0, x2)), (3, (2, 1, a3))]) (st' := [(0, 0, 24), (0, 0, x1)]) (M' := M) (C' := True) (by decide +kernel) rfl trivial ?_
    refine ax_jge_s hX (off := 13) (tgt := 20) (by decide +kernel) (by decide) (fun h2 hX => ?_) (fun h2 hX => ?_)
    · refine ax_lump ax_layC ok_kX0 [(20, .iconst (-1), 1, 0, 0, 0)] (pc' := 21) (lc' := [(0, (2, 0, (b : Int))), (1, (0, 0, x1)), (2, (0, 0, x2)), (3, (2, 1, a3))]) (st' := [(0, 0, (-1))]) (M' := M) (C' := True) (by decide +kernel) rfl trivial ?_
      exact ax_iret (by decide +kernel) rfl ⟨rfl, rfl, (show ((-1) : Int) ≤ (-1) from by omega), (show (-1) ≤ (15 : Int) from by omega)⟩
    · refine ax_lump ax_layC ok_kX0 [(10, .iload_n 2, 1, 0, 0, 0)] (pc' := 11) (lc' := [(0, (2, 0, (b : Int))), (1, (0, 0, x1)), (2, (0, 0, x2)), (3, (2, 1, a3))]) (st' := [(0, 0, x2)]) (M' := M) (C' := True) (by decide +kernel) rfl trivial ?_
      refine ax_zlt_s hX (off := 9) (tgt := 20) (by decide +kernel) (by decide) (fun h3 hX => ?_) (fun h3 hX => ?_)
      · refine ax_lump ax_layC ok_kX0 [(20, .iconst (-1), 1, 0, 0, 0)] (pc' := 21) (lc' := [(0, (2, 0, (b : Int))), (1, (0, 0, x1)), (2, (0, 0, x2)), (3, (2, 1, a3))]) (st' := [(0, 0, (-1))]) (M' := M) (C' := True) (by decide +kernel) rfl trivial ?_
        exact ax_iret (by decide +kernel) rfl ⟨rfl, rfl, (show ((-1) : Int) ≤ (-1) from by omega), (show (-1) ≤ (15 : Int) from by omega)⟩
      · refine ax_lump ax_layC ok_kX0 [(14, .iload_n 2, 1, 0, 0, 0), (15, .bipush 100, 2, 0, 0, 0)] (pc' := 17) (lc' := [(0, (2, 0, (b : Int))), (1, (0, 0, x1)), (2, (0, 0, x2)), (3, (2, 1, a3))]) (st' := [(0, 0, 100), (0, 0, x2)]) (M' := M) (C' := True) (by decide +kernel) rfl trivial ?_
        refine ax_jlt_s hX (off := 5) (tgt := 22) (by decide +kernel) (by decide) (fun h4 hX => ?_) (fun h4 hX => ?_)
        · refine ax_lump ax_layC ok_kX0 [(22, .aload_n 0, 1, 0, 0, 0), (23, .iconst 0, 1, 0, 0, 0), (24, .putfield 47, 3, 0, 11, 0)] (pc' := 27) (lc' := [(0, (2, 0, (b : Int))), (1, (0, 0, x1)), (2, (0, 0, x2)), (3, (2, 1, a3))]) (st' := []) (M' := (ax_up M b 11 0)) (C' := True) (by decide +kernel) rfl trivial ?_
          refine ax_bdMe_s hX (fun M5 hM_M5 hX => ?_)
          refine ax_lump ax_layC ok_kX0 [(27, .aload_n 0, 1, 0, 0, 0), (28, .iconst 0, 1, 0, 0, 0), (29, .putfield 55, 3, 0, 13, 0)] (pc' := 32) (lc' := [(0, (2, 0, (b : Int))), (1, (0, 0, x1)), (2, (0, 0, x2)), (3, (2, 1, a3))]) (st' := []) (M' := (ax_up M5 b 13 0)) (C' := (True ∧ (0 ≤ 0 ∧ 0 ≤ 1))) (by decide +kernel) rfl ⟨trivial, by omega⟩ ?_
          refine ax_bdMe_s hX (fun M6 hM_M6 hX => ?_)
          refine ax_lump ax_layC ok_kX0 [(32, .aload_n 0, 1, 0, 0, 0), (33, .getfield 36, 3, 0, 8, 0), (36, .iconst 0, 1, 0, 0, 0), (37, .dup2, 1, 0, 0, 0), (38, .iaload, 1, 0, 0, 0), (39, .iconst 1, 1, 0, 0, 0), (40, .iadd, 1, 0, 0, 0), (41, .iastore, 1, 0, 0, 0)] (pc' := 42) (lc' := [(0, (2, 0, (b : Int))), (1, (0, 0, x1)), (2, (0, 0, x2)), (3, (2, 1, a3))]) (st' := []) (M' := (ax_up M6 (b + 9) 0 (ax_wr ((M6 (b + 9) 0) + 1)))) (C' := ((True ∧ (0 ≤ 0 ∧ 0 < ((7 : Nat) : Int))) ∧ (0 ≤ 0 ∧ 0 < ((7 : Nat) : Int)))) (by decide +kernel) rfl ⟨⟨trivial, by omega⟩, by omega⟩ ?_
          refine ax_bdMe_s hX (fun M7 hM_M7 hX => ?_)
          refine ax_lump ax_layC ok_kX0 [(42, .aload_n 0, 1, 0, 0, 0), (43, .getfield 30, 3, 0, 6, 0), (46, .iload_n 1, 1, 0, 0, 0), (47, .aload_n 0, 1, 0, 0, 0), (48, .getfield 30, 3, 0, 6, 0), (51, .iload_n 1, 1, 0, 0, 0), (52, .iaload, 1, 0, 0, 0), (53, .iconst 1, 1, 0, 0, 0), (54, .iadd, 1, 0, 0, 0), (55, .bipush 99, 2, 0, 0, 0)] (pc' := 57) (lc' := [(0, (2, 0, (b : Int))), (1, (0, 0, x1)), (2, (0, 0, x2)), (3, (2, 1, a3))]) (st' := [(0, 0, 99), (0, 0, (ax_wr ((M7 (b + 7) x1.toNat) + 1))), (0, 0, x1), (3, 24, ((b : Int) + 7))]) (M' := M7) (C' := (True ∧ (0 ≤ x1 ∧ x1 < ((24 : Nat) : Int)))) (by decide +kernel) rfl ⟨trivial, by omega⟩ ?_
          refine ax_mmin (i := 100) (by decide +kernel) (by omega) (Nat.le_of_ble_eq_true rfl) wt_381 wt_266 wt_8 wt_267 ?_
          refine ax_lump ax_layC ok_kX0 [(60, .iastore, 1, 0, 0, 0)] (pc' := 61) (lc' := [(0, (2, 0, (b : Int))), (1, (0, 0, x1)), (2, (0, 0, x2)), (3, (2, 1, a3))]) (st' := []) (M' := (ax_up M7 (b + 7) x1.toNat (if 99 < (ax_wr ((M7 (b + 7) x1.toNat) + 1)) then 99 else (ax_wr ((M7 (b + 7) x1.toNat) + 1))))) (C' := (True ∧ (0 ≤ x1 ∧ x1 < ((24 : Nat) : Int)))) (by decide +kernel) rfl ⟨trivial, by omega⟩ ?_
          refine ax_bdMe_s hX (fun M8 hM_M8 hX => ?_)
          refine ax_lump ax_layC ok_kX0 [(61, .iload_n 1, 1, 0, 0, 0), (62, .iconst 4, 1, 0, 0, 0), (63, .idiv, 1, 1, 0, 0), (64, .istore 4, 2, 0, 0, 0)] (pc' := 66) (lc' := [(4, (0, 0, (x1 / 4))), (0, (2, 0, (b : Int))), (1, (0, 0, x1)), (2, (0, 0, x2)), (3, (2, 1, a3))]) (st' := []) (M' := M8) (C' := (True ∧ (0 ≤ x1 ∧ 0 < 4))) (by decide +kernel) rfl ⟨trivial, by omega⟩ ?_
          refine ax_bdI_s hX (lo := 0) (hi := 5) (e := (x1 / 4)) (fun y9 => [(4, (0, 0, y9)), (0, (2, 0, (b : Int))), (1, (0, 0, x1)), (2, (0, 0, x2)), (3, (2, 1, a3))]) (fun y9 => []) (by omega) (fun y9 h_y9 hX => ?_)
          refine ax_lump ax_layC ok_kX0 [(66, .iload_n 1, 1, 0, 0, 0), (67, .iconst 4, 1, 0, 0, 0), (68, .irem, 1, 1, 0, 0), (69, .istore 5, 2, 0, 0, 0)] (pc' := 71) (lc' := [(5, (0, 0, (x1 % 4))), (4, (0, 0, y9)), (0, (2, 0, (b : Int))), (1, (0, 0, x1)), (2, (0, 0, x2)), (3, (2, 1, a3))]) (st' := []) (M' := M8) (C' := (True ∧ (0 ≤ x1 ∧ 0 < 4))) (by decide +kernel) rfl ⟨trivial, by omega⟩ ?_
          refine ax_bdI_s hX (lo := 0) (hi := 3) (e := (x1 % 4)) (fun y10 => [(5, (0, 0, y10)), (4, (0, 0, y9)), (0, (2, 0, (b : Int))), (1, (0, 0, x1)), (2, (0, 0, x2)), (3, (2, 1, a3))]) (fun y10 => []) (by omega) (fun y10 h_y10 hX => ?_)
          refine ax_lump ax_layC ok_kX0 [(71, .aload_n 0, 1, 0, 0, 0), (72, .iconst 1, 1, 0, 0, 0), (73, .iload 4, 2, 0, 0, 0)] (pc' := 75) (lc' := [(5, (0, 0, y10)), (4, (0, 0, y9)), (0, (2, 0, (b : Int))), (1, (0, 0, x1)), (2, (0, 0, x2)), (3, (2, 1, a3))]) (st' := [(0, 0, y9), (0, 0, 1), (2, 0, (b : Int))]) (M' := M8) (C' := True) (by decide +kernel) rfl trivial ?_
          refine ax_cVi (G1 := gX0_owned) (d1 := d + 0) (i := 110) (n := 2) (as := [(0, 0, 1), (0, 0, y9)]) (st := []) (c := 0) (a := (b : Int)) (by decide +kernel) ax_cls0 calX0_owned (by omega) rfl wt_382 wt_384 ws_16 (Nat.le_of_ble_eq_true rfl) rfl (c_X0_owned d b 1 y9 M8) (fun hc11 => ?_)
          refine ax_lump ax_layC ok_kX0 [(78, .istore 6, 2, 0, 0, 0)] (pc' := 80) (lc' := [(6, (0, 0, (f_X0_owned b 1 y9 M8))), (5, (0, 0, y10)), (4, (0, 0, y9)), (0, (2, 0, (b : Int))), (1, (0, 0, x1)), (2, (0, 0, x2)), (3, (2, 1, a3))]) (st' := []) (M' := M8) (C' := True) (by decide +kernel) rfl trivial ?_
          refine ax_bdI_s hX (lo := (-1)) (hi := 15) (e := (f_X0_owned b 1 y9 M8)) (fun y12 => [(6, (0, 0, y12)), (5, (0, 0, y10)), (4, (0, 0, y9)), (0, (2, 0, (b : Int))), (1, (0, 0, x1)), (2, (0, 0, x2)), (3, (2, 1, a3))]) (fun y12 => []) (by omega) (fun y12 h_y12 hX => ?_)
          refine ax_lump ax_layC ok_kX0 [(80, .iload 6, 2, 0, 0, 0), (82, .iconst (-1), 1, 0, 0, 0)] (pc' := 83) (lc' := [(6, (0, 0, y12)), (5, (0, 0, y10)), (4, (0, 0, y9)), (0, (2, 0, (b : Int))), (1, (0, 0, x1)), (2, (0, 0, x2)), (3, (2, 1, a3))]) (st' := [(0, 0, (-1)), (0, 0, y12)]) (M' := M8) (C' := True) (by decide +kernel) rfl trivial ?_
          refine ax_jne_s hX (off := 12) (tgt := 95) (by decide +kernel) (by decide) (fun h13 hX => ?_) (fun h13 hX => ?_)
          · refine ax_pk [3,4,5,6,2,1,0] (lc' := [(0, (2, 0, (b : Int))), (1, (0, 0, x1)), (2, (0, 0, x2)), (3, (2, 1, a3)), (4, (0, 0, y9)), (5, (0, 0, y10)), (6, (0, 0, y12))]) rfl ?_
            exact w_X0_write_J95 d b a3 x1 x2 y9 y10 y12 M8 (by omega) (by omega) (by omega) (by omega) (by omega) hX
          · refine ax_lump ax_layC ok_kX0 [(86, .aload_n 0, 1, 0, 0, 0), (87, .iconst 1, 1, 0, 0, 0), (88, .iload 4, 2, 0, 0, 0)] (pc' := 90) (lc' := [(6, (0, 0, y12)), (5, (0, 0, y10)), (4, (0, 0, y9)), (0, (2, 0, (b : Int))), (1, (0, 0, x1)), (2, (0, 0, x2)), (3, (2, 1, a3))]) (st' := [(0, 0, y9), (0, 0, 1), (2, 0, (b : Int))]) (M' := M8) (C' := True) (by decide +kernel) rfl trivial ?_
            refine ax_cVm_s hX (G1 := gX0_take) (d1 := d + 1) (i := 113) (n := 2) (as := [(0, 0, 1), (0, 0, y9)]) (st := []) (c := 0) (a := (b : Int)) (by decide +kernel) ax_cls0 calX0_take (by omega) rfl wt_386 wt_388 ws_17 (Nat.le_of_ble_eq_true rfl) rfl (c_X0_take d b 1 y9 M8) (fun y65 h_y65 hX => ?_)
            refine ax_lump ax_layC ok_kX0 [(93, .istore 6, 2, 0, 0, 0)] (pc' := 95) (lc' := [(6, (0, 0, y65.1)), (5, (0, 0, y10)), (4, (0, 0, y9)), (0, (2, 0, (b : Int))), (1, (0, 0, x1)), (2, (0, 0, x2)), (3, (2, 1, a3))]) (st' := []) (M' := y65.2) (C' := True) (by decide +kernel) rfl trivial ?_
            refine ax_pk [3,4,5,6,2,1,0] (lc' := [(0, (2, 0, (b : Int))), (1, (0, 0, x1)), (2, (0, 0, x2)), (3, (2, 1, a3)), (4, (0, 0, y9)), (5, (0, 0, y10)), (6, (0, 0, y65.1))]) rfl ?_
            exact w_X0_write_J95 d b a3 x1 x2 y9 y10 y65.1 y65.2 (by omega) (by omega) (by omega) (by omega) (by omega) hX
        · refine ax_lump ax_layC ok_kX0 [(20, .iconst (-1), 1, 0, 0, 0)] (pc' := 21) (lc' := [(0, (2, 0, (b : Int))), (1, (0, 0, x1)), (2, (0, 0, x2)), (3, (2, 1, a3))]) (st' := [(0, 0, (-1))]) (M' := M) (C' := True) (by decide +kernel) rfl trivial ?_
          exact ax_iret (by decide +kernel) rfl ⟨rfl, rfl, (show ((-1) : Int) ≤ (-1) from by omega), (show (-1) ≤ (15 : Int) from by omega)⟩
def f_X2_writes (x1 : Int) (x2 : Int) (M : ax_M) : Prop × Int × ax_M := ax_bd (f_X2_begin M) (fun M1 => ax_rc (f_X0_write 1 x1 x2 (M1 0 7) M1) (fun y2 => ax_bd (f_X2_settle y2.1 y2.2) (fun y3 => (if y3.1 = 0 then (True, (y2.1, y3.2)) else ax_bd (f_X2_tell (ax_rem (y3.2 1 14) 4) y3.2) (fun M5 => ax_bd (f_X2_tellMore M5) (fun M6 => (True, (y2.1, M6))))))))
set_option maxRecDepth 100000 in
set_option maxHeartbeats 4000000 in
theorem c_X2_writes (d : Nat) (x1 : Int) (x2 : Int) (M : ax_M)  (hX : (f_X2_writes x1 x2 M).1) : ax_Met ax_LC gX2_writes (d + 6) [(2, 2, 0), (0, 0, x1), (0, 0, x2)] M ((ax_qm (-1) 15) (f_X2_writes x1 x2 M).2) := by
  refine ax_body (by decide) (fun X => Nat.le_of_ble_eq_true rfl) (fun hok => ?_)
  have hr_x1 : (-2147483648) ≤ x1 ∧ x1 ≤ 2147483647 := hok (0, 0, x1) (by simp)
  have hr_x2 : (-2147483648) ≤ x2 ∧ x2 ≤ 2147483647 := hok (0, 0, x2) (by simp)
  show ax_W ax_LC gX2_writes (d + 6) 0 [(0, (2, 2, 0)), (1, (0, 0, x1)), (2, (0, 0, x2))] [] M _
  unfold f_X2_writes at hX ⊢
  refine ax_lump ax_layC ok_kX2 [(0, .aload_n 0, 1, 0, 0, 0)] (pc' := 1) (lc' := [(0, (2, 2, 0)), (1, (0, 0, x1)), (2, (0, 0, x2))]) (st' := [(2, 2, 0)]) (M' := M) (C' := True) (by decide +kernel) rfl trivial ?_
  refine ax_cVv_s hX (G1 := gX2_begin) (d1 := d + 4) (i := 142) (n := 0) (as := []) (st := []) (c := 2) (a := 0) (by decide +kernel) ax_cls2 calX2_begin (by omega) rfl wt_351 wt_353 ws_10 (Nat.le_of_ble_eq_true rfl) rfl (c_X2_begin d  M) (fun M1 hX => ?_)
  refine ax_lump ax_layC ok_kX2 [(4, .aload_n 0, 1, 0, 0, 0), (5, .getfield 12, 3, 2, 0, 0), (8, .iload_n 1, 1, 0, 0, 0), (9, .iload_n 2, 1, 0, 0, 0), (10, .aload_n 0, 1, 0, 0, 0), (11, .getfield 40, 3, 2, 7, 0)] (pc' := 14) (lc' := [(0, (2, 2, 0)), (1, (0, 0, x1)), (2, (0, 0, x2))]) (st' := [(2, 1, (M1 0 7)), (0, 0, x2), (0, 0, x1), (2, 0, 1)]) (M' := M1) (C' := True) (by decide +kernel) rfl trivial ?_
  refine ax_cNm_r hX (G1 := gX0_write) (d1 := d + 5) (i := 145) (n := 3) (as := [(0, 0, x1), (0, 0, x2), (2, 1, (M1 0 7))]) (st := []) (c := 0) (a := 1) (by decide +kernel) ax_cls0 calX0_write (by omega) rfl wn_377 wt_379 ws_15 (Nat.le_of_ble_eq_true rfl) rfl (fun hY => c_X0_write d 1 x1 x2 (M1 0 7) M1 hY) (fun y2 h_y2 hX => ?_)
  refine ax_lump ax_layC ok_kX2 [(17, .istore_n 3, 1, 0, 0, 0), (18, .aload_n 0, 1, 0, 0, 0), (19, .iload_n 3, 1, 0, 0, 0)] (pc' := 20) (lc' := [(3, (0, 0, y2.1)), (0, (2, 2, 0)), (1, (0, 0, x1)), (2, (0, 0, x2))]) (st' := [(0, 0, y2.1), (2, 2, 0)]) (M' := y2.2) (C' := True) (by decide +kernel) rfl trivial ?_
  refine ax_cVm_s hX (G1 := gX2_settle) (d1 := d + 1) (i := 149) (n := 1) (as := [(0, 0, y2.1)]) (st := []) (c := 2) (a := 0) (by decide +kernel) ax_cls2 calX2_settle (by omega) rfl wt_509 wt_511 ws_45 (Nat.le_of_ble_eq_true rfl) rfl (c_X2_settle d y2.1 y2.2) (fun y3 h_y3 hX => ?_)
  refine ax_zeq_s hX (off := 21) (tgt := 44) (by decide +kernel) (by decide) (fun h4 hX => ?_) (fun h4 hX => ?_)
  · refine ax_lump ax_layC ok_kX2 [(44, .iload_n 3, 1, 0, 0, 0)] (pc' := 45) (lc' := [(3, (0, 0, y2.1)), (0, (2, 2, 0)), (1, (0, 0, x1)), (2, (0, 0, x2))]) (st' := [(0, 0, y2.1)]) (M' := y3.2) (C' := True) (by decide +kernel) rfl trivial ?_
    exact ax_iret (by decide +kernel) rfl ⟨rfl, rfl, (show ((-1) : Int) ≤ y2.1 from by omega), (show y2.1 ≤ (15 : Int) from by omega)⟩
  · refine ax_lump ax_layC ok_kX2 [(26, .aload_n 0, 1, 0, 0, 0), (27, .aload_n 0, 1, 0, 0, 0), (28, .getfield 12, 3, 2, 0, 0), (31, .getfield 152, 3, 0, 14, 0), (34, .iconst 4, 1, 0, 0, 0), (35, .irem, 1, 0, 0, 0), (36, .i2l, 1, 0, 0, 0)] (pc' := 37) (lc' := [(3, (0, 0, y2.1)), (0, (2, 2, 0)), (1, (0, 0, x1)), (2, (0, 0, x2))]) (st' := [(1, 0, (ax_rem (y3.2 1 14) 4)), (2, 2, 0)]) (M' := y3.2) (C' := (True ∧ 4 ≠ 0)) (by decide +kernel) rfl ⟨trivial, by omega⟩ ?_
    refine ax_cVv_s hX (G1 := gX2_tell) (d1 := d + 0) (i := 155) (n := 1) (as := [(1, 0, (ax_rem (y3.2 1 14) 4))]) (st := []) (c := 2) (a := 0) (by decide +kernel) ax_cls2 calX2_tell (by omega) rfl wt_521 wt_523 ws_48 (Nat.le_of_ble_eq_true rfl) rfl (c_X2_tell d (ax_rem (y3.2 1 14) 4) y3.2) (fun M5 hX => ?_)
    refine ax_lump ax_layC ok_kX2 [(40, .aload_n 0, 1, 0, 0, 0)] (pc' := 41) (lc' := [(3, (0, 0, y2.1)), (0, (2, 2, 0)), (1, (0, 0, x1)), (2, (0, 0, x2))]) (st' := [(2, 2, 0)]) (M' := M5) (C' := True) (by decide +kernel) rfl trivial ?_
    refine ax_cVv_s hX (G1 := gX2_tellMore) (d1 := d + 1) (i := 159) (n := 0) (as := []) (st := []) (c := 2) (a := 0) (by decide +kernel) ax_cls2 calX2_tellMore (by omega) rfl wt_525 wt_527 ws_49 (Nat.le_of_ble_eq_true rfl) rfl (c_X2_tellMore d  M5) (fun M6 hX => ?_)
    refine ax_lump ax_layC ok_kX2 [(44, .iload_n 3, 1, 0, 0, 0)] (pc' := 45) (lc' := [(3, (0, 0, y2.1)), (0, (2, 2, 0)), (1, (0, 0, x1)), (2, (0, 0, x2))]) (st' := [(0, 0, y2.1)]) (M' := M6) (C' := True) (by decide +kernel) rfl trivial ?_
    exact ax_iret (by decide +kernel) rfl ⟨rfl, rfl, (show ((-1) : Int) ≤ y2.1 from by omega), (show y2.1 ≤ (15 : Int) from by omega)⟩
def f_X2_costs (x1 : Int) (M : ax_M) : Prop × Int × ax_M := (if (f_X2_isPage x1 M) ≠ 0 then ax_bd (f_X2_begin M) (fun M3 => ax_bd (f_X2_beginTrial M3) (fun M4 => ax_rc (f_X0_write 13 x1 0 (M4 0 7) M4) (fun y5 => ax_bd (f_X2_tellAnew y5.2) (fun M6 => ax_bd (f_X2_tell (f_X0_since 13 3 M6) M6) (fun M8 => ax_bd (f_X2_tell (M8 13 15) M8) (fun M9 => ax_bd (f_X2_tell (M9 13 16) M9) (fun M10 => (True, ((f_X0_since 13 2 M10), M10))))))))) else (True, ((-1), M)))
set_option maxRecDepth 100000 in
set_option maxHeartbeats 4000000 in
theorem c_X2_costs (d : Nat) (x1 : Int) (M : ax_M)  (hX : (f_X2_costs x1 M).1) : ax_Met ax_LC gX2_costs (d + 6) [(2, 2, 0), (0, 0, x1)] M ((ax_qm (-2147483648) 2147483647) (f_X2_costs x1 M).2) := by
  refine ax_body (by decide) (fun X => Nat.le_of_ble_eq_true rfl) (fun hok => ?_)
  have hr_x1 : (-2147483648) ≤ x1 ∧ x1 ≤ 2147483647 := hok (0, 0, x1) (by simp)
  show ax_W ax_LC gX2_costs (d + 6) 0 [(0, (2, 2, 0)), (1, (0, 0, x1))] [] M _
  unfold f_X2_costs at hX ⊢
  refine ax_lump ax_layC ok_kX2 [(0, .iload_n 1, 1, 0, 0, 0)] (pc' := 1) (lc' := [(0, (2, 2, 0)), (1, (0, 0, x1))]) (st' := [(0, 0, x1)]) (M' := M) (C' := True) (by decide +kernel) rfl trivial ?_
  refine ax_cSi (G1 := gX2_isPage) (d1 := d + 0) (i := 162) (n := 1) (as := [(0, 0, x1)]) (st := []) (by decide +kernel) calX2_isPage (by omega) rfl wt_537 wt_538 (Nat.le_of_ble_eq_true rfl) rfl (c_X2_isPage d x1 M) (fun hc1 => ?_)
  refine ax_zne_s hX (off := 5) (tgt := 9) (by decide +kernel) (by decide) (fun h2 hX => ?_) (fun h2 hX => ?_)
  · have hgh2 := g_X2_isPage h2
    refine ax_lump ax_layC ok_kX2 [(9, .aload_n 0, 1, 0, 0, 0)] (pc' := 10) (lc' := [(0, (2, 2, 0)), (1, (0, 0, x1))]) (st' := [(2, 2, 0)]) (M' := M) (C' := True) (by decide +kernel) rfl trivial ?_
    refine ax_cVv_s hX (G1 := gX2_begin) (d1 := d + 4) (i := 142) (n := 0) (as := []) (st := []) (c := 2) (a := 0) (by decide +kernel) ax_cls2 calX2_begin (by omega) rfl wt_351 wt_353 ws_10 (Nat.le_of_ble_eq_true rfl) rfl (c_X2_begin d  M) (fun M3 hX => ?_)
    refine ax_lump ax_layC ok_kX2 [(13, .aload_n 0, 1, 0, 0, 0)] (pc' := 14) (lc' := [(0, (2, 2, 0)), (1, (0, 0, x1))]) (st' := [(2, 2, 0)]) (M' := M3) (C' := True) (by decide +kernel) rfl trivial ?_
    refine ax_cVv_s hX (G1 := gX2_beginTrial) (d1 := d + 4) (i := 249) (n := 0) (as := []) (st := []) (c := 2) (a := 0) (by decide +kernel) ax_cls2 calX2_beginTrial (by omega) rfl wt_654 wt_656 ws_59 (Nat.le_of_ble_eq_true rfl) rfl (c_X2_beginTrial d  M3) (fun M4 hX => ?_)
    refine ax_lump ax_layC ok_kX2 [(17, .aload_n 0, 1, 0, 0, 0), (18, .getfield 16, 3, 2, 1, 0), (21, .iload_n 1, 1, 0, 0, 0), (22, .iconst 0, 1, 0, 0, 0), (23, .aload_n 0, 1, 0, 0, 0), (24, .getfield 40, 3, 2, 7, 0)] (pc' := 27) (lc' := [(0, (2, 2, 0)), (1, (0, 0, x1))]) (st' := [(2, 1, (M4 0 7)), (0, 0, 0), (0, 0, x1), (2, 0, 13)]) (M' := M4) (C' := True) (by decide +kernel) rfl trivial ?_
    refine ax_cNm_r hX (G1 := gX0_write) (d1 := d + 5) (i := 145) (n := 3) (as := [(0, 0, x1), (0, 0, 0), (2, 1, (M4 0 7))]) (st := []) (c := 0) (a := 13) (by decide +kernel) ax_cls0 calX0_write (by omega) rfl wn_377 wt_379 ws_15 (Nat.le_of_ble_eq_true rfl) rfl (fun hY => c_X0_write d 13 x1 0 (M4 0 7) M4 hY) (fun y5 h_y5 hX => ?_)
    refine ax_lump ax_layC ok_kX2 [(30, .pop, 1, 0, 0, 0), (31, .aload_n 0, 1, 0, 0, 0)] (pc' := 32) (lc' := [(0, (2, 2, 0)), (1, (0, 0, x1))]) (st' := [(2, 2, 0)]) (M' := y5.2) (C' := True) (by decide +kernel) rfl trivial ?_
    refine ax_cVv_s hX (G1 := gX2_tellAnew) (d1 := d + 0) (i := 168) (n := 0) (as := []) (st := []) (c := 2) (a := 0) (by decide +kernel) ax_cls2 calX2_tellAnew (by omega) rfl wt_517 wt_519 ws_47 (Nat.le_of_ble_eq_true rfl) rfl (c_X2_tellAnew d  y5.2) (fun M6 hX => ?_)
    refine ax_lump ax_layC ok_kX2 [(35, .aload_n 0, 1, 0, 0, 0), (36, .aload_n 0, 1, 0, 0, 0), (37, .getfield 16, 3, 2, 1, 0), (40, .iconst 3, 1, 0, 0, 0)] (pc' := 41) (lc' := [(0, (2, 2, 0)), (1, (0, 0, x1))]) (st' := [(0, 0, 3), (2, 0, 13), (2, 2, 0)]) (M' := M6) (C' := True) (by decide +kernel) rfl trivial ?_
    refine ax_cNi (G1 := gX0_since) (d1 := d + 0) (i := 252) (n := 1) (as := [(0, 0, 3)]) (st := [(2, 2, 0)]) (c := 0) (a := 13) (by decide +kernel) ax_cls0 calX0_since (by omega) rfl wn_529 wt_531 ws_50 (Nat.le_of_ble_eq_true rfl) rfl (c_X0_since d 13 3 M6) (fun hc7 => ?_)
    refine ax_lump ax_layC ok_kX2 [(44, .i2l, 1, 0, 0, 0)] (pc' := 45) (lc' := [(0, (2, 2, 0)), (1, (0, 0, x1))]) (st' := [(1, 0, (f_X0_since 13 3 M6)), (2, 2, 0)]) (M' := M6) (C' := True) (by decide +kernel) rfl trivial ?_
    refine ax_cVv_s hX (G1 := gX2_tell) (d1 := d + 0) (i := 155) (n := 1) (as := [(1, 0, (f_X0_since 13 3 M6))]) (st := []) (c := 2) (a := 0) (by decide +kernel) ax_cls2 calX2_tell (by omega) rfl wt_521 wt_523 ws_48 (Nat.le_of_ble_eq_true rfl) rfl (c_X2_tell d (f_X0_since 13 3 M6) M6) (fun M8 hX => ?_)
    refine ax_lump ax_layC ok_kX2 [(48, .aload_n 0, 1, 0, 0, 0), (49, .aload_n 0, 1, 0, 0, 0), (50, .getfield 16, 3, 2, 1, 0), (53, .getfield 264, 3, 0, 15, 0), (56, .i2l, 1, 0, 0, 0)] (pc' := 57) (lc' := [(0, (2, 2, 0)), (1, (0, 0, x1))]) (st' := [(1, 0, (M8 13 15)), (2, 2, 0)]) (M' := M8) (C' := True) (by decide +kernel) rfl trivial ?_
    refine ax_cVv_s hX (G1 := gX2_tell) (d1 := d + 0) (i := 155) (n := 1) (as := [(1, 0, (M8 13 15))]) (st := []) (c := 2) (a := 0) (by decide +kernel) ax_cls2 calX2_tell (by omega) rfl wt_521 wt_523 ws_48 (Nat.le_of_ble_eq_true rfl) rfl (c_X2_tell d (M8 13 15) M8) (fun M9 hX => ?_)
    refine ax_lump ax_layC ok_kX2 [(60, .aload_n 0, 1, 0, 0, 0), (61, .aload_n 0, 1, 0, 0, 0), (62, .getfield 16, 3, 2, 1, 0), (65, .getfield 267, 3, 0, 16, 0), (68, .i2l, 1, 0, 0, 0)] (pc' := 69) (lc' := [(0, (2, 2, 0)), (1, (0, 0, x1))]) (st' := [(1, 0, (M9 13 16)), (2, 2, 0)]) (M' := M9) (C' := True) (by decide +kernel) rfl trivial ?_
    refine ax_cVv_s hX (G1 := gX2_tell) (d1 := d + 0) (i := 155) (n := 1) (as := [(1, 0, (M9 13 16))]) (st := []) (c := 2) (a := 0) (by decide +kernel) ax_cls2 calX2_tell (by omega) rfl wt_521 wt_523 ws_48 (Nat.le_of_ble_eq_true rfl) rfl (c_X2_tell d (M9 13 16) M9) (fun M10 hX => ?_)
    refine ax_lump ax_layC ok_kX2 [(72, .aload_n 0, 1, 0, 0, 0), (73, .getfield 16, 3, 2, 1, 0), (76, .iconst 2, 1, 0, 0, 0)] (pc' := 77) (lc' := [(0, (2, 2, 0)), (1, (0, 0, x1))]) (st' := [(0, 0, 2), (2, 0, 13)]) (M' := M10) (C' := True) (by decide +kernel) rfl trivial ?_
    refine ax_cNi (G1 := gX0_since) (d1 := d + 0) (i := 252) (n := 1) (as := [(0, 0, 2)]) (st := []) (c := 0) (a := 13) (by decide +kernel) ax_cls0 calX0_since (by omega) rfl wn_529 wt_531 ws_50 (Nat.le_of_ble_eq_true rfl) rfl (c_X0_since d 13 2 M10) (fun hc11 => ?_)
    refine ax_rngS (fun hr => ?_)
    exact ax_iret (by decide +kernel) rfl ⟨rfl, rfl, hr.1, hr.2⟩
  · refine ax_lump ax_layC ok_kX2 [(7, .iconst (-1), 1, 0, 0, 0)] (pc' := 8) (lc' := [(0, (2, 2, 0)), (1, (0, 0, x1))]) (st' := [(0, 0, (-1))]) (M' := M) (C' := True) (by decide +kernel) rfl trivial ?_
    refine ax_rngS (fun hr => ?_)
    exact ax_iret (by decide +kernel) rfl ⟨rfl, rfl, hr.1, hr.2⟩
def f_X2_worst_B13  (i : Nat) (v1 : Int) (v2 : Int) (v3 : Int) (M : ax_M) (kc : Int → Int → Int → ax_M → Prop × Int × ax_M) (kx : Int → Int → Int → ax_M → Prop × Int × ax_M) : Prop × Int × ax_M := ax_bd (f_X2_beginTrial M) (fun M2 => ax_rc (f_X0_write 13 (i : Int) 0 (M2 0 7) M2) (fun y3 => ax_bd (f_X0_since 13 2 y3.2) (fun y5 => ax_bd (f_X0_since 13 3 y3.2) (fun y7 => (if v2 < y5 then kc (i : Int) y5 y7 y3.2 else (if y5 ≠ v2 then kc v1 v2 v3 y3.2 else (if y7 ≤ v3 then kc v1 v2 v3 y3.2 else kc (i : Int) y5 y7 y3.2)))))))
def f_X2_worst_L13  : Nat → Nat → Int → Int → Int → ax_M → (Int → Int → Int → ax_M → Prop × Int × ax_M) → Prop × Int × ax_M
  | 0, i, v1, v2, v3, M, kx => kx v1 v2 v3 M
  | n + 1, i, v1, v2, v3, M, kx => f_X2_worst_B13  i v1 v2 v3 M (fun u1 u2 u3 M9 => f_X2_worst_L13  n (i + 1) u1 u2 u3 M9 kx) kx
set_option maxRecDepth 100000 in
set_option maxHeartbeats 4000000 in
theorem wb_X2_worst_B13 (d : Nat)  (i : Nat) (v1 : Int) (v2 : Int) (v3 : Int) (M : ax_M) (kc : Int → Int → Int → ax_M → Prop × Int × ax_M) (kx : Int → Int → Int → ax_M → Prop × Int × ax_M)  (hi : 0 ≤ i ∧ i < 24) (hv1 : 0 ≤ v1 ∧ v1 ≤ 23) (hkc : ∀ (u1 : Int) (u2 : Int) (u3 : Int) (M9 : ax_M), 0 ≤ u1 ∧ u1 ≤ 23 → (kc u1 u2 u3 M9).1 → ax_W ax_LC gX2_worst (d + 6) 13 [(0, (2, 2, 0)), (1, (0, 0, u1)), (2, (0, 0, u2)), (3, (0, 0, u3)), (4, (0, 0, ((i : Int) + 1)))] [] M9 ((ax_qm 0 23) (kc u1 u2 u3 M9).2)) (hkx : ∀ (x1 : Int) (x2 : Int) (x3 : Int) (M9 : ax_M), ((0 ≤ x1 ∧ x1 ≤ 23)) → (kx x1 x2 x3 M9).1 → ax_W ax_LC gX2_worst (d + 6) 92 [(0, (2, 2, 0)), (1, (0, 0, x1)), (2, (0, 0, x2)), (3, (0, 0, x3))] [] M9 ((ax_qm 0 23) (kx x1 x2 x3 M9).2)) (hX : (f_X2_worst_B13  i v1 v2 v3 M kc kx).1) : ax_W ax_LC gX2_worst (d + 6) 20 [(0, (2, 2, 0)), (1, (0, 0, v1)), (2, (0, 0, v2)), (3, (0, 0, v3)), (4, (0, 0, (i : Int)))] [] M ((ax_qm 0 23) (f_X2_worst_B13  i v1 v2 v3 M kc kx).2) := by
  unfold f_X2_worst_B13 at hX ⊢
  refine ax_lump ax_layC ok_kX2 [(20, .aload_n 0, 1, 0, 0, 0)] (pc' := 21) (lc' := [(0, (2, 2, 0)), (1, (0, 0, v1)), (2, (0, 0, v2)), (3, (0, 0, v3)), (4, (0, 0, (i : Int)))]) (st' := [(2, 2, 0)]) (M' := M) (C' := True) (by decide +kernel) rfl trivial ?_
  refine ax_cVv_s hX (G1 := gX2_beginTrial) (d1 := d + 4) (i := 249) (n := 0) (as := []) (st := []) (c := 2) (a := 0) (by decide +kernel) ax_cls2 calX2_beginTrial (by omega) rfl wt_654 wt_656 ws_59 (Nat.le_of_ble_eq_true rfl) rfl (c_X2_beginTrial d  M) (fun M2 hX => ?_)
  refine ax_lump ax_layC ok_kX2 [(24, .aload_n 0, 1, 0, 0, 0), (25, .getfield 16, 3, 2, 1, 0), (28, .iload 4, 2, 0, 0, 0), (30, .iconst 0, 1, 0, 0, 0), (31, .aload_n 0, 1, 0, 0, 0), (32, .getfield 40, 3, 2, 7, 0)] (pc' := 35) (lc' := [(0, (2, 2, 0)), (1, (0, 0, v1)), (2, (0, 0, v2)), (3, (0, 0, v3)), (4, (0, 0, (i : Int)))]) (st' := [(2, 1, (M2 0 7)), (0, 0, 0), (0, 0, (i : Int)), (2, 0, 13)]) (M' := M2) (C' := True) (by decide +kernel) rfl trivial ?_
  refine ax_cNm_r hX (G1 := gX0_write) (d1 := d + 5) (i := 145) (n := 3) (as := [(0, 0, (i : Int)), (0, 0, 0), (2, 1, (M2 0 7))]) (st := []) (c := 0) (a := 13) (by decide +kernel) ax_cls0 calX0_write (by omega) rfl wn_377 wt_379 ws_15 (Nat.le_of_ble_eq_true rfl) rfl (fun hY => c_X0_write d 13 (i : Int) 0 (M2 0 7) M2 hY) (fun y3 h_y3 hX => ?_)
  refine ax_lump ax_layC ok_kX2 [(38, .pop, 1, 0, 0, 0), (39, .aload_n 0, 1, 0, 0, 0), (40, .getfield 16, 3, 2, 1, 0), (43, .iconst 2, 1, 0, 0, 0)] (pc' := 44) (lc' := [(0, (2, 2, 0)), (1, (0, 0, v1)), (2, (0, 0, v2)), (3, (0, 0, v3)), (4, (0, 0, (i : Int)))]) (st' := [(0, 0, 2), (2, 0, 13)]) (M' := y3.2) (C' := True) (by decide +kernel) rfl trivial ?_
  refine ax_cNi (G1 := gX0_since) (d1 := d + 0) (i := 252) (n := 1) (as := [(0, 0, 2)]) (st := []) (c := 0) (a := 13) (by decide +kernel) ax_cls0 calX0_since (by omega) rfl wn_529 wt_531 ws_50 (Nat.le_of_ble_eq_true rfl) rfl (c_X0_since d 13 2 y3.2) (fun hc4 => ?_)
  refine ax_lump ax_layC ok_kX2 [(47, .istore 5, 2, 0, 0, 0)] (pc' := 49) (lc' := [(5, (0, 0, (f_X0_since 13 2 y3.2))), (0, (2, 2, 0)), (1, (0, 0, v1)), (2, (0, 0, v2)), (3, (0, 0, v3)), (4, (0, 0, (i : Int)))]) (st' := []) (M' := y3.2) (C' := True) (by decide +kernel) rfl trivial ?_
  refine ax_bdI0_s hX (e := (f_X0_since 13 2 y3.2)) (fun y5 => [(5, (0, 0, y5)), (0, (2, 2, 0)), (1, (0, 0, v1)), (2, (0, 0, v2)), (3, (0, 0, v3)), (4, (0, 0, (i : Int)))]) (fun y5 => []) (fun y5 hX => ?_)
  refine ax_lump ax_layC ok_kX2 [(49, .aload_n 0, 1, 0, 0, 0), (50, .getfield 16, 3, 2, 1, 0), (53, .iconst 3, 1, 0, 0, 0)] (pc' := 54) (lc' := [(5, (0, 0, y5)), (0, (2, 2, 0)), (1, (0, 0, v1)), (2, (0, 0, v2)), (3, (0, 0, v3)), (4, (0, 0, (i : Int)))]) (st' := [(0, 0, 3), (2, 0, 13)]) (M' := y3.2) (C' := True) (by decide +kernel) rfl trivial ?_
  refine ax_cNi (G1 := gX0_since) (d1 := d + 0) (i := 252) (n := 1) (as := [(0, 0, 3)]) (st := []) (c := 0) (a := 13) (by decide +kernel) ax_cls0 calX0_since (by omega) rfl wn_529 wt_531 ws_50 (Nat.le_of_ble_eq_true rfl) rfl (c_X0_since d 13 3 y3.2) (fun hc6 => ?_)
  refine ax_lump ax_layC ok_kX2 [(57, .istore 6, 2, 0, 0, 0)] (pc' := 59) (lc' := [(6, (0, 0, (f_X0_since 13 3 y3.2))), (5, (0, 0, y5)), (0, (2, 2, 0)), (1, (0, 0, v1)), (2, (0, 0, v2)), (3, (0, 0, v3)), (4, (0, 0, (i : Int)))]) (st' := []) (M' := y3.2) (C' := True) (by decide +kernel) rfl trivial ?_
  refine ax_bdI0_s hX (e := (f_X0_since 13 3 y3.2)) (fun y7 => [(6, (0, 0, y7)), (5, (0, 0, y5)), (0, (2, 2, 0)), (1, (0, 0, v1)), (2, (0, 0, v2)), (3, (0, 0, v3)), (4, (0, 0, (i : Int)))]) (fun y7 => []) (fun y7 hX => ?_)
  refine ax_lump ax_layC ok_kX2 [(59, .iload 5, 2, 0, 0, 0), (61, .iload_n 2, 1, 0, 0, 0)] (pc' := 62) (lc' := [(6, (0, 0, y7)), (5, (0, 0, y5)), (0, (2, 2, 0)), (1, (0, 0, v1)), (2, (0, 0, v2)), (3, (0, 0, v3)), (4, (0, 0, (i : Int)))]) (st' := [(0, 0, v2), (0, 0, y5)]) (M' := y3.2) (C' := True) (by decide +kernel) rfl trivial ?_
  refine ax_jgt_s hX (off := 15) (tgt := 77) (by decide +kernel) (by decide) (fun h8 hX => ?_) (fun h8 hX => ?_)
  · refine ax_lump ax_layC ok_kX2 [(77, .iload 4, 2, 0, 0, 0), (79, .istore_n 1, 1, 0, 0, 0), (80, .iload 5, 2, 0, 0, 0), (82, .istore_n 2, 1, 0, 0, 0), (83, .iload 6, 2, 0, 0, 0), (85, .istore_n 3, 1, 0, 0, 0), (86, .iinc 4 1, 3, 1, 0, 0), (89, .goto (-76), 3, 13, 0, 0)] (pc' := 13) (lc' := [(4, (0, 0, ((i : Int) + 1))), (3, (0, 0, y7)), (2, (0, 0, y5)), (1, (0, 0, (i : Int))), (6, (0, 0, y7)), (5, (0, 0, y5)), (0, (2, 2, 0))]) (st' := []) (M' := y3.2) (C' := (True ∧ ax_r32 ((i : Int) + 1))) (by decide +kernel) rfl ⟨trivial, ⟨by omega, by omega⟩⟩ ?_
    refine ax_pk [6,3,2,1,0] (lc' := [(0, (2, 2, 0)), (1, (0, 0, (i : Int))), (2, (0, 0, y5)), (3, (0, 0, y7)), (4, (0, 0, ((i : Int) + 1)))]) rfl ?_
    exact hkc (i : Int) y5 y7 y3.2 (by omega) hX
  · refine ax_lump ax_layC ok_kX2 [(65, .iload 5, 2, 0, 0, 0), (67, .iload_n 2, 1, 0, 0, 0)] (pc' := 68) (lc' := [(6, (0, 0, y7)), (5, (0, 0, y5)), (0, (2, 2, 0)), (1, (0, 0, v1)), (2, (0, 0, v2)), (3, (0, 0, v3)), (4, (0, 0, (i : Int)))]) (st' := [(0, 0, v2), (0, 0, y5)]) (M' := y3.2) (C' := True) (by decide +kernel) rfl trivial ?_
    refine ax_jne_s hX (off := 18) (tgt := 86) (by decide +kernel) (by decide) (fun h9 hX => ?_) (fun h9 hX => ?_)
    · refine ax_lump ax_layC ok_kX2 [(86, .iinc 4 1, 3, 1, 0, 0), (89, .goto (-76), 3, 13, 0, 0)] (pc' := 13) (lc' := [(4, (0, 0, ((i : Int) + 1))), (6, (0, 0, y7)), (5, (0, 0, y5)), (0, (2, 2, 0)), (1, (0, 0, v1)), (2, (0, 0, v2)), (3, (0, 0, v3))]) (st' := []) (M' := y3.2) (C' := (True ∧ ax_r32 ((i : Int) + 1))) (by decide +kernel) rfl ⟨trivial, ⟨by omega, by omega⟩⟩ ?_
      refine ax_pk [3,4,5,6,0] (lc' := [(0, (2, 2, 0)), (1, (0, 0, v1)), (2, (0, 0, v2)), (3, (0, 0, v3)), (4, (0, 0, ((i : Int) + 1)))]) rfl ?_
      exact hkc v1 v2 v3 y3.2 (by omega) hX
    · refine ax_lump ax_layC ok_kX2 [(71, .iload 6, 2, 0, 0, 0), (73, .iload_n 3, 1, 0, 0, 0)] (pc' := 74) (lc' := [(6, (0, 0, y7)), (5, (0, 0, y5)), (0, (2, 2, 0)), (1, (0, 0, v1)), (2, (0, 0, v2)), (3, (0, 0, v3)), (4, (0, 0, (i : Int)))]) (st' := [(0, 0, v3), (0, 0, y7)]) (M' := y3.2) (C' := True) (by decide +kernel) rfl trivial ?_
      refine ax_jle_s hX (off := 12) (tgt := 86) (by decide +kernel) (by decide) (fun h10 hX => ?_) (fun h10 hX => ?_)
      · refine ax_lump ax_layC ok_kX2 [(86, .iinc 4 1, 3, 1, 0, 0), (89, .goto (-76), 3, 13, 0, 0)] (pc' := 13) (lc' := [(4, (0, 0, ((i : Int) + 1))), (6, (0, 0, y7)), (5, (0, 0, y5)), (0, (2, 2, 0)), (1, (0, 0, v1)), (2, (0, 0, v2)), (3, (0, 0, v3))]) (st' := []) (M' := y3.2) (C' := (True ∧ ax_r32 ((i : Int) + 1))) (by decide +kernel) rfl ⟨trivial, ⟨by omega, by omega⟩⟩ ?_
        refine ax_pk [3,4,5,6,0] (lc' := [(0, (2, 2, 0)), (1, (0, 0, v1)), (2, (0, 0, v2)), (3, (0, 0, v3)), (4, (0, 0, ((i : Int) + 1)))]) rfl ?_
        exact hkc v1 v2 v3 y3.2 (by omega) hX
      · refine ax_lump ax_layC ok_kX2 [(77, .iload 4, 2, 0, 0, 0), (79, .istore_n 1, 1, 0, 0, 0), (80, .iload 5, 2, 0, 0, 0), (82, .istore_n 2, 1, 0, 0, 0), (83, .iload 6, 2, 0, 0, 0), (85, .istore_n 3, 1, 0, 0, 0), (86, .iinc 4 1, 3, 1, 0, 0), (89, .goto (-76), 3, 13, 0, 0)] (pc' := 13) (lc' := [(4, (0, 0, ((i : Int) + 1))), (3, (0, 0, y7)), (2, (0, 0, y5)), (1, (0, 0, (i : Int))), (6, (0, 0, y7)), (5, (0, 0, y5)), (0, (2, 2, 0))]) (st' := []) (M' := y3.2) (C' := (True ∧ ax_r32 ((i : Int) + 1))) (by decide +kernel) rfl ⟨trivial, ⟨by omega, by omega⟩⟩ ?_
        refine ax_pk [6,3,2,1,0] (lc' := [(0, (2, 2, 0)), (1, (0, 0, (i : Int))), (2, (0, 0, y5)), (3, (0, 0, y7)), (4, (0, 0, ((i : Int) + 1)))]) rfl ?_
        exact hkc (i : Int) y5 y7 y3.2 (by omega) hX
set_option maxRecDepth 100000 in
set_option maxHeartbeats 4000000 in
theorem w_X2_worst_L13 (d : Nat)  (kx : Int → Int → Int → ax_M → Prop × Int × ax_M)  (hkx : ∀ (x1 : Int) (x2 : Int) (x3 : Int) (M9 : ax_M), ((0 ≤ x1 ∧ x1 ≤ 23)) → (kx x1 x2 x3 M9).1 → ax_W ax_LC gX2_worst (d + 6) 92 [(0, (2, 2, 0)), (1, (0, 0, x1)), (2, (0, 0, x2)), (3, (0, 0, x3))] [] M9 ((ax_qm 0 23) (kx x1 x2 x3 M9).2)) : ∀ (n : Nat) (i : Nat) (v1 : Int) (v2 : Int) (v3 : Int) (M : ax_M), 0 ≤ i ∧ i + n = 24 → 0 ≤ v1 ∧ v1 ≤ 23 → (f_X2_worst_L13  n i v1 v2 v3 M kx).1 → ax_W ax_LC gX2_worst (d + 6) 13 [(0, (2, 2, 0)), (1, (0, 0, v1)), (2, (0, 0, v2)), (3, (0, 0, v3)), (4, (0, 0, (i : Int)))] [] M ((ax_qm 0 23) (f_X2_worst_L13  n i v1 v2 v3 M kx).2) := by
  intro n
  induction n with
  | zero =>
    intro i v1 v2 v3 M hin hv1 hX
    refine ax_lump ax_layC ok_kX2 [(13, .iload 4, 2, 0, 0, 0), (15, .bipush 24, 2, 0, 0, 0)] (pc' := 17) (lc' := [(0, (2, 2, 0)), (1, (0, 0, v1)), (2, (0, 0, v2)), (3, (0, 0, v3)), (4, (0, 0, (i : Int)))]) (st' := [(0, 0, 24), (0, 0, (i : Int))]) (M' := M) (C' := True) (by decide +kernel) rfl trivial ?_
    refine ax_icmp_ge (off := 75) (tgt := 92) (by decide +kernel) (by decide) (fun h => ?_) (fun h => ?_)
    · refine ax_pk [0,1,2,3] (lc' := [(0, (2, 2, 0)), (1, (0, 0, v1)), (2, (0, 0, v2)), (3, (0, 0, v3))]) rfl ?_
      exact hkx v1 v2 v3 M (by omega) hX
    · exfalso; omega
  | succ n ih =>
    intro i v1 v2 v3 M hin hv1 hX
    refine ax_lump ax_layC ok_kX2 [(13, .iload 4, 2, 0, 0, 0), (15, .bipush 24, 2, 0, 0, 0)] (pc' := 17) (lc' := [(0, (2, 2, 0)), (1, (0, 0, v1)), (2, (0, 0, v2)), (3, (0, 0, v3)), (4, (0, 0, (i : Int)))]) (st' := [(0, 0, 24), (0, 0, (i : Int))]) (M' := M) (C' := True) (by decide +kernel) rfl trivial ?_
    refine ax_icmp_ge (off := 75) (tgt := 92) (by decide +kernel) (by decide) (fun h => ?_) (fun h => ?_)
    · exfalso; omega
    · exact wb_X2_worst_B13 d  i v1 v2 v3 M _ kx  (by omega) hv1 (fun u1 u2 u3 M9 hu1 hX => ih (i + 1) u1 u2 u3 M9 (by omega) hu1 hX) hkx hX
def f_X2_worst  (M : ax_M) : Prop × Int × ax_M := ax_bd (f_X2_begin M) (fun M1 => f_X2_worst_L13  24 0 0 (-1) (-1) M1 (fun z11 z12 z13 M14 => ax_bd (f_X2_tellAnew M14) (fun M15 => ax_bd (f_X2_tell z12 M15) (fun M16 => ax_bd (f_X2_tell z13 M16) (fun M17 => (True, (z11, M17)))))))
set_option maxRecDepth 100000 in
set_option maxHeartbeats 4000000 in
theorem c_X2_worst (d : Nat)  (M : ax_M)  (hX : (f_X2_worst  M).1) : ax_Met ax_LC gX2_worst (d + 6) [(2, 2, 0)] M ((ax_qm 0 23) (f_X2_worst  M).2) := by
  refine ax_body (by decide) (fun X => Nat.le_of_ble_eq_true rfl) (fun hok => ?_)
  show ax_W ax_LC gX2_worst (d + 6) 0 [(0, (2, 2, 0))] [] M _
  unfold f_X2_worst at hX ⊢
  refine ax_lump ax_layC ok_kX2 [(0, .iconst 0, 1, 0, 0, 0), (1, .istore_n 1, 1, 0, 0, 0), (2, .iconst (-1), 1, 0, 0, 0), (3, .istore_n 2, 1, 0, 0, 0), (4, .iconst (-1), 1, 0, 0, 0), (5, .istore_n 3, 1, 0, 0, 0), (6, .aload_n 0, 1, 0, 0, 0)] (pc' := 7) (lc' := [(3, (0, 0, (-1))), (2, (0, 0, (-1))), (1, (0, 0, 0)), (0, (2, 2, 0))]) (st' := [(2, 2, 0)]) (M' := M) (C' := True) (by decide +kernel) rfl trivial ?_
  refine ax_cVv_s hX (G1 := gX2_begin) (d1 := d + 4) (i := 142) (n := 0) (as := []) (st := []) (c := 2) (a := 0) (by decide +kernel) ax_cls2 calX2_begin (by omega) rfl wt_351 wt_353 ws_10 (Nat.le_of_ble_eq_true rfl) rfl (c_X2_begin d  M) (fun M1 hX => ?_)
  refine ax_lump ax_layC ok_kX2 [(10, .iconst 0, 1, 0, 0, 0), (11, .istore 4, 2, 0, 0, 0)] (pc' := 13) (lc' := [(4, (0, 0, 0)), (3, (0, 0, (-1))), (2, (0, 0, (-1))), (1, (0, 0, 0)), (0, (2, 2, 0))]) (st' := []) (M' := M1) (C' := True) (by decide +kernel) rfl trivial ?_
  refine ax_pk [4,3,2,1,0] (lc' := [(0, (2, 2, 0)), (1, (0, 0, 0)), (2, (0, 0, (-1))), (3, (0, 0, (-1))), (4, (0, 0, 0))]) rfl ?_
  refine w_X2_worst_L13 d  _  (fun z11 z12 z13 M14 hx_14 hX => ?_) 24 0 0 (-1) (-1) M1 (by omega) (by omega) hX
  refine ax_lump ax_layC ok_kX2 [(92, .aload_n 0, 1, 0, 0, 0)] (pc' := 93) (lc' := [(0, (2, 2, 0)), (1, (0, 0, z11)), (2, (0, 0, z12)), (3, (0, 0, z13))]) (st' := [(2, 2, 0)]) (M' := M14) (C' := True) (by decide +kernel) rfl trivial ?_
  refine ax_cVv_s hX (G1 := gX2_tellAnew) (d1 := d + 0) (i := 168) (n := 0) (as := []) (st := []) (c := 2) (a := 0) (by decide +kernel) ax_cls2 calX2_tellAnew (by omega) rfl wt_517 wt_519 ws_47 (Nat.le_of_ble_eq_true rfl) rfl (c_X2_tellAnew d  M14) (fun M15 hX => ?_)
  refine ax_lump ax_layC ok_kX2 [(96, .aload_n 0, 1, 0, 0, 0), (97, .iload_n 2, 1, 0, 0, 0), (98, .i2l, 1, 0, 0, 0)] (pc' := 99) (lc' := [(0, (2, 2, 0)), (1, (0, 0, z11)), (2, (0, 0, z12)), (3, (0, 0, z13))]) (st' := [(1, 0, z12), (2, 2, 0)]) (M' := M15) (C' := True) (by decide +kernel) rfl trivial ?_
  refine ax_cVv_s hX (G1 := gX2_tell) (d1 := d + 0) (i := 155) (n := 1) (as := [(1, 0, z12)]) (st := []) (c := 2) (a := 0) (by decide +kernel) ax_cls2 calX2_tell (by omega) rfl wt_521 wt_523 ws_48 (Nat.le_of_ble_eq_true rfl) rfl (c_X2_tell d z12 M15) (fun M16 hX => ?_)
  refine ax_lump ax_layC ok_kX2 [(102, .aload_n 0, 1, 0, 0, 0), (103, .iload_n 3, 1, 0, 0, 0), (104, .i2l, 1, 0, 0, 0)] (pc' := 105) (lc' := [(0, (2, 2, 0)), (1, (0, 0, z11)), (2, (0, 0, z12)), (3, (0, 0, z13))]) (st' := [(1, 0, z13), (2, 2, 0)]) (M' := M16) (C' := True) (by decide +kernel) rfl trivial ?_
  refine ax_cVv_s hX (G1 := gX2_tell) (d1 := d + 0) (i := 155) (n := 1) (as := [(1, 0, z13)]) (st := []) (c := 2) (a := 0) (by decide +kernel) ax_cls2 calX2_tell (by omega) rfl wt_521 wt_523 ws_48 (Nat.le_of_ble_eq_true rfl) rfl (c_X2_tell d z13 M16) (fun M17 hX => ?_)
  refine ax_lump ax_layC ok_kX2 [(108, .iload_n 1, 1, 0, 0, 0)] (pc' := 109) (lc' := [(0, (2, 2, 0)), (1, (0, 0, z11)), (2, (0, 0, z12)), (3, (0, 0, z13))]) (st' := [(0, 0, z11)]) (M' := M17) (C' := True) (by decide +kernel) rfl trivial ?_
  exact ax_iret (by decide +kernel) rfl ⟨rfl, rfl, (show (0 : Int) ≤ z11 from by omega), (show z11 ≤ (23 : Int) from by omega)⟩
def f_X2_burst_B30 (w1 : Int) (w2 : Int) (i : Int)  (M : ax_M) (kc : ax_M → Prop × Int × ax_M) (kx : ax_M → Prop × Int × ax_M) : Prop × Int × ax_M := ax_rc (f_X0_write 13 ((w1 + i) % 24) 0 (M 0 7) M) (fun y7 => kc y7.2)
def f_X2_burst_L30 (w1 : Int) (w2 : Int) : Nat → Int → ax_M → (ax_M → Prop × Int × ax_M) → Prop × Int × ax_M
  | 0, i, M, kx => kx M
  | n + 1, i, M, kx => f_X2_burst_B30 w1 w2 i  M (fun M9 => f_X2_burst_L30 w1 w2 n (i + 1) M9 kx) kx
set_option maxRecDepth 100000 in
set_option maxHeartbeats 4000000 in
theorem wb_X2_burst_B30 (d : Nat) (w1 : Int) (w2 : Int) (i : Int)  (M : ax_M) (kc : ax_M → Prop × Int × ax_M) (kx : ax_M → Prop × Int × ax_M) (hw_w1 : 0 ≤ w1 ∧ w1 ≤ 23) (hw_w2 : 1 ≤ w2 ∧ w2 ≤ 24) (hi : 0 ≤ i ∧ i < w2)  (hkc : ∀ (M9 : ax_M), (kc M9).1 → ax_W ax_LC gX2_burst (d + 6) 30 [(0, (2, 2, 0)), (1, (0, 0, w1)), (2, (0, 0, w2)), (3, (0, 0, (i + 1)))] [] M9 ((ax_qm (-2147483648) 2147483647) (kc M9).2)) (hkx : ∀ (M9 : ax_M), (True) → (kx M9).1 → ax_W ax_LC gX2_burst (d + 6) 60 [(0, (2, 2, 0))] [] M9 ((ax_qm (-2147483648) 2147483647) (kx M9).2)) (hX : (f_X2_burst_B30 w1 w2 i  M kc kx).1) : ax_W ax_LC gX2_burst (d + 6) 35 [(0, (2, 2, 0)), (1, (0, 0, w1)), (2, (0, 0, w2)), (3, (0, 0, i))] [] M ((ax_qm (-2147483648) 2147483647) (f_X2_burst_B30 w1 w2 i  M kc kx).2) := by
  unfold f_X2_burst_B30 at hX ⊢
  refine ax_lump ax_layC ok_kX2 [(35, .aload_n 0, 1, 0, 0, 0), (36, .getfield 16, 3, 2, 1, 0), (39, .iload_n 1, 1, 0, 0, 0), (40, .iload_n 3, 1, 0, 0, 0), (41, .iadd, 1, 1, 0, 0), (42, .bipush 24, 2, 0, 0, 0), (44, .irem, 1, 1, 0, 0), (45, .iconst 0, 1, 0, 0, 0), (46, .aload_n 0, 1, 0, 0, 0), (47, .getfield 40, 3, 2, 7, 0)] (pc' := 50) (lc' := [(0, (2, 2, 0)), (1, (0, 0, w1)), (2, (0, 0, w2)), (3, (0, 0, i))]) (st' := [(2, 1, (M 0 7)), (0, 0, 0), (0, 0, ((w1 + i) % 24)), (2, 0, 13)]) (M' := M) (C' := ((True ∧ ax_r32 (w1 + i)) ∧ (0 ≤ (w1 + i) ∧ 0 < 24))) (by decide +kernel) rfl ⟨⟨trivial, ⟨by omega, by omega⟩⟩, by omega⟩ ?_
  refine ax_cNm_r hX (G1 := gX0_write) (d1 := d + 5) (i := 145) (n := 3) (as := [(0, 0, ((w1 + i) % 24)), (0, 0, 0), (2, 1, (M 0 7))]) (st := []) (c := 0) (a := 13) (by decide +kernel) ax_cls0 calX0_write (by omega) rfl wn_377 wt_379 ws_15 (Nat.le_of_ble_eq_true rfl) rfl (fun hY => c_X0_write d 13 ((w1 + i) % 24) 0 (M 0 7) M hY) (fun y7 h_y7 hX => ?_)
  refine ax_lump ax_layC ok_kX2 [(53, .pop, 1, 0, 0, 0), (54, .iinc 3 1, 3, 1, 0, 0), (57, .goto (-27), 3, 30, 0, 0)] (pc' := 30) (lc' := [(3, (0, 0, (i + 1))), (0, (2, 2, 0)), (1, (0, 0, w1)), (2, (0, 0, w2))]) (st' := []) (M' := y7.2) (C' := (True ∧ ax_r32 (i + 1))) (by decide +kernel) rfl ⟨trivial, ⟨by omega, by omega⟩⟩ ?_
  refine ax_pk [1,2,3,0] (lc' := [(0, (2, 2, 0)), (1, (0, 0, w1)), (2, (0, 0, w2)), (3, (0, 0, (i + 1)))]) rfl ?_
  exact hkc y7.2  hX
set_option maxRecDepth 100000 in
set_option maxHeartbeats 4000000 in
theorem w_X2_burst_L30 (d : Nat) (w1 : Int) (w2 : Int) (kx : ax_M → Prop × Int × ax_M) (hw_w1 : 0 ≤ w1 ∧ w1 ≤ 23) (hw_w2 : 1 ≤ w2 ∧ w2 ≤ 24) (hkx : ∀ (M9 : ax_M), (True) → (kx M9).1 → ax_W ax_LC gX2_burst (d + 6) 60 [(0, (2, 2, 0))] [] M9 ((ax_qm (-2147483648) 2147483647) (kx M9).2)) : ∀ (n : Nat) (i : Int) (M : ax_M), 0 ≤ i ∧ n = (w2 - i).toNat → (f_X2_burst_L30 w1 w2 n i  M kx).1 → ax_W ax_LC gX2_burst (d + 6) 30 [(0, (2, 2, 0)), (1, (0, 0, w1)), (2, (0, 0, w2)), (3, (0, 0, i))] [] M ((ax_qm (-2147483648) 2147483647) (f_X2_burst_L30 w1 w2 n i  M kx).2) := by
  intro n
  induction n with
  | zero =>
    intro i M hin hX
    refine ax_lump ax_layC ok_kX2 [(30, .iload_n 3, 1, 0, 0, 0), (31, .iload_n 2, 1, 0, 0, 0)] (pc' := 32) (lc' := [(0, (2, 2, 0)), (1, (0, 0, w1)), (2, (0, 0, w2)), (3, (0, 0, i))]) (st' := [(0, 0, w2), (0, 0, i)]) (M' := M) (C' := True) (by decide +kernel) rfl trivial ?_
    refine ax_icmp_ge (off := 28) (tgt := 60) (by decide +kernel) (by decide) (fun h => ?_) (fun h => ?_)
    · refine ax_pk [0] (lc' := [(0, (2, 2, 0))]) rfl ?_
      exact hkx M trivial hX
    · exfalso; omega
  | succ n ih =>
    intro i M hin hX
    refine ax_lump ax_layC ok_kX2 [(30, .iload_n 3, 1, 0, 0, 0), (31, .iload_n 2, 1, 0, 0, 0)] (pc' := 32) (lc' := [(0, (2, 2, 0)), (1, (0, 0, w1)), (2, (0, 0, w2)), (3, (0, 0, i))]) (st' := [(0, 0, w2), (0, 0, i)]) (M' := M) (C' := True) (by decide +kernel) rfl trivial ?_
    refine ax_icmp_ge (off := 28) (tgt := 60) (by decide +kernel) (by decide) (fun h => ?_) (fun h => ?_)
    · exfalso; omega
    · exact wb_X2_burst_B30 d w1 w2 i  M _ kx hw_w1 hw_w2 (by omega)  (fun M9 hX => ih (i + 1)  M9 (by omega)  hX) hkx hX
def f_X2_burst_B66  (i : Nat)  (M : ax_M) (kc : ax_M → Prop × Int × ax_M) (kx : ax_M → Prop × Int × ax_M) : Prop × Int × ax_M := ax_bd (f_X2_tell (f_X0_since 13 (i : Int) M) M) (fun M11 => kc M11)
def f_X2_burst_L66  : Nat → Nat → ax_M → (ax_M → Prop × Int × ax_M) → Prop × Int × ax_M
  | 0, i, M, kx => kx M
  | n + 1, i, M, kx => f_X2_burst_B66  i  M (fun M9 => f_X2_burst_L66  n (i + 1) M9 kx) kx
set_option maxRecDepth 100000 in
set_option maxHeartbeats 4000000 in
theorem wb_X2_burst_B66 (d : Nat)  (i : Nat)  (M : ax_M) (kc : ax_M → Prop × Int × ax_M) (kx : ax_M → Prop × Int × ax_M)  (hi : 3 ≤ i ∧ i < 7)  (hkc : ∀ (M9 : ax_M), (kc M9).1 → ax_W ax_LC gX2_burst (d + 6) 66 [(0, (2, 2, 0)), (3, (0, 0, ((i : Int) + 1)))] [] M9 ((ax_qm (-2147483648) 2147483647) (kc M9).2)) (hkx : ∀ (M9 : ax_M), (True) → (kx M9).1 → ax_W ax_LC gX2_burst (d + 6) 91 [(0, (2, 2, 0))] [] M9 ((ax_qm (-2147483648) 2147483647) (kx M9).2)) (hX : (f_X2_burst_B66  i  M kc kx).1) : ax_W ax_LC gX2_burst (d + 6) 72 [(0, (2, 2, 0)), (3, (0, 0, (i : Int)))] [] M ((ax_qm (-2147483648) 2147483647) (f_X2_burst_B66  i  M kc kx).2) := by
  unfold f_X2_burst_B66 at hX ⊢
  refine ax_lump ax_layC ok_kX2 [(72, .aload_n 0, 1, 0, 0, 0), (73, .aload_n 0, 1, 0, 0, 0), (74, .getfield 16, 3, 2, 1, 0), (77, .iload_n 3, 1, 0, 0, 0)] (pc' := 78) (lc' := [(0, (2, 2, 0)), (3, (0, 0, (i : Int)))]) (st' := [(0, 0, (i : Int)), (2, 0, 13), (2, 2, 0)]) (M' := M) (C' := True) (by decide +kernel) rfl trivial ?_
  refine ax_cNi (G1 := gX0_since) (d1 := d + 0) (i := 252) (n := 1) (as := [(0, 0, (i : Int))]) (st := [(2, 2, 0)]) (c := 0) (a := 13) (by decide +kernel) ax_cls0 calX0_since (by omega) rfl wn_529 wt_531 ws_50 (Nat.le_of_ble_eq_true rfl) rfl (c_X0_since d 13 (i : Int) M) (fun hc10 => ?_)
  refine ax_lump ax_layC ok_kX2 [(81, .i2l, 1, 0, 0, 0)] (pc' := 82) (lc' := [(0, (2, 2, 0)), (3, (0, 0, (i : Int)))]) (st' := [(1, 0, (f_X0_since 13 (i : Int) M)), (2, 2, 0)]) (M' := M) (C' := True) (by decide +kernel) rfl trivial ?_
  refine ax_cVv_s hX (G1 := gX2_tell) (d1 := d + 0) (i := 155) (n := 1) (as := [(1, 0, (f_X0_since 13 (i : Int) M))]) (st := []) (c := 2) (a := 0) (by decide +kernel) ax_cls2 calX2_tell (by omega) rfl wt_521 wt_523 ws_48 (Nat.le_of_ble_eq_true rfl) rfl (c_X2_tell d (f_X0_since 13 (i : Int) M) M) (fun M11 hX => ?_)
  refine ax_lump ax_layC ok_kX2 [(85, .iinc 3 1, 3, 1, 0, 0), (88, .goto (-22), 3, 66, 0, 0)] (pc' := 66) (lc' := [(3, (0, 0, ((i : Int) + 1))), (0, (2, 2, 0))]) (st' := []) (M' := M11) (C' := (True ∧ ax_r32 ((i : Int) + 1))) (by decide +kernel) rfl ⟨trivial, ⟨by omega, by omega⟩⟩ ?_
  refine ax_pk [1,0] (lc' := [(0, (2, 2, 0)), (3, (0, 0, ((i : Int) + 1)))]) rfl ?_
  exact hkc M11  hX
set_option maxRecDepth 100000 in
set_option maxHeartbeats 4000000 in
theorem w_X2_burst_L66 (d : Nat)  (kx : ax_M → Prop × Int × ax_M)  (hkx : ∀ (M9 : ax_M), (True) → (kx M9).1 → ax_W ax_LC gX2_burst (d + 6) 91 [(0, (2, 2, 0))] [] M9 ((ax_qm (-2147483648) 2147483647) (kx M9).2)) : ∀ (n : Nat) (i : Nat) (M : ax_M), 3 ≤ i ∧ i + n = 7 → (f_X2_burst_L66  n i  M kx).1 → ax_W ax_LC gX2_burst (d + 6) 66 [(0, (2, 2, 0)), (3, (0, 0, (i : Int)))] [] M ((ax_qm (-2147483648) 2147483647) (f_X2_burst_L66  n i  M kx).2) := by
  intro n
  induction n with
  | zero =>
    intro i M hin hX
    refine ax_lump ax_layC ok_kX2 [(66, .iload_n 3, 1, 0, 0, 0), (67, .bipush 6, 2, 0, 0, 0)] (pc' := 69) (lc' := [(0, (2, 2, 0)), (3, (0, 0, (i : Int)))]) (st' := [(0, 0, 6), (0, 0, (i : Int))]) (M' := M) (C' := True) (by decide +kernel) rfl trivial ?_
    refine ax_icmp_gt (off := 22) (tgt := 91) (by decide +kernel) (by decide) (fun h => ?_) (fun h => ?_)
    · refine ax_pk [0] (lc' := [(0, (2, 2, 0))]) rfl ?_
      exact hkx M trivial hX
    · exfalso; omega
  | succ n ih =>
    intro i M hin hX
    refine ax_lump ax_layC ok_kX2 [(66, .iload_n 3, 1, 0, 0, 0), (67, .bipush 6, 2, 0, 0, 0)] (pc' := 69) (lc' := [(0, (2, 2, 0)), (3, (0, 0, (i : Int)))]) (st' := [(0, 0, 6), (0, 0, (i : Int))]) (M' := M) (C' := True) (by decide +kernel) rfl trivial ?_
    refine ax_icmp_gt (off := 22) (tgt := 91) (by decide +kernel) (by decide) (fun h => ?_) (fun h => ?_)
    · exfalso; omega
    · exact wb_X2_burst_B66 d  i  M _ kx  (by omega)  (fun M9 hX => ih (i + 1)  M9 (by omega)  hX) hkx hX
def f_X2_burst (x1 : Int) (x2 : Int) (M : ax_M) : Prop × Int × ax_M := (if (f_X2_isPage x1 M) = 0 then (True, ((-1), M)) else (if x2 < 1 then (True, ((-1), M)) else (if x2 ≤ 24 then ax_bd (f_X2_begin M) (fun M5 => ax_bd (f_X2_beginTrial M5) (fun M6 => f_X2_burst_L30 x1 x2 (x2 - 0).toNat 0  M6 (fun M8 => ax_bd (f_X2_tellAnew M8) (fun M9 => f_X2_burst_L66  4 3  M9 (fun M12 => (True, ((f_X0_since 13 2 M12), M12))))))) else (True, ((-1), M)))))
set_option maxRecDepth 100000 in
set_option maxHeartbeats 4000000 in
theorem c_X2_burst (d : Nat) (x1 : Int) (x2 : Int) (M : ax_M)  (hX : (f_X2_burst x1 x2 M).1) : ax_Met ax_LC gX2_burst (d + 6) [(2, 2, 0), (0, 0, x1), (0, 0, x2)] M ((ax_qm (-2147483648) 2147483647) (f_X2_burst x1 x2 M).2) := by
  refine ax_body (by decide) (fun X => Nat.le_of_ble_eq_true rfl) (fun hok => ?_)
  have hr_x1 : (-2147483648) ≤ x1 ∧ x1 ≤ 2147483647 := hok (0, 0, x1) (by simp)
  have hr_x2 : (-2147483648) ≤ x2 ∧ x2 ≤ 2147483647 := hok (0, 0, x2) (by simp)
  show ax_W ax_LC gX2_burst (d + 6) 0 [(0, (2, 2, 0)), (1, (0, 0, x1)), (2, (0, 0, x2))] [] M _
  unfold f_X2_burst at hX ⊢
  refine ax_lump ax_layC ok_kX2 [(0, .iload_n 1, 1, 0, 0, 0)] (pc' := 1) (lc' := [(0, (2, 2, 0)), (1, (0, 0, x1)), (2, (0, 0, x2))]) (st' := [(0, 0, x1)]) (M' := M) (C' := True) (by decide +kernel) rfl trivial ?_
  refine ax_cSi (G1 := gX2_isPage) (d1 := d + 0) (i := 162) (n := 1) (as := [(0, 0, x1)]) (st := []) (by decide +kernel) calX2_isPage (by omega) rfl wt_537 wt_538 (Nat.le_of_ble_eq_true rfl) rfl (c_X2_isPage d x1 M) (fun hc1 => ?_)
  refine ax_zeq_s hX (off := 14) (tgt := 18) (by decide +kernel) (by decide) (fun h2 hX => ?_) (fun h2 hX => ?_)
  · refine ax_lump ax_layC ok_kX2 [(18, .iconst (-1), 1, 0, 0, 0)] (pc' := 19) (lc' := [(0, (2, 2, 0)), (1, (0, 0, x1)), (2, (0, 0, x2))]) (st' := [(0, 0, (-1))]) (M' := M) (C' := True) (by decide +kernel) rfl trivial ?_
    refine ax_rngS (fun hr => ?_)
    exact ax_iret (by decide +kernel) rfl ⟨rfl, rfl, hr.1, hr.2⟩
  · have hgh2 := g_X2_isPage h2
    refine ax_lump ax_layC ok_kX2 [(7, .iload_n 2, 1, 0, 0, 0), (8, .iconst 1, 1, 0, 0, 0)] (pc' := 9) (lc' := [(0, (2, 2, 0)), (1, (0, 0, x1)), (2, (0, 0, x2))]) (st' := [(0, 0, 1), (0, 0, x2)]) (M' := M) (C' := True) (by decide +kernel) rfl trivial ?_
    refine ax_jlt_s hX (off := 9) (tgt := 18) (by decide +kernel) (by decide) (fun h3 hX => ?_) (fun h3 hX => ?_)
    · refine ax_lump ax_layC ok_kX2 [(18, .iconst (-1), 1, 0, 0, 0)] (pc' := 19) (lc' := [(0, (2, 2, 0)), (1, (0, 0, x1)), (2, (0, 0, x2))]) (st' := [(0, 0, (-1))]) (M' := M) (C' := True) (by decide +kernel) rfl trivial ?_
      refine ax_rngS (fun hr => ?_)
      exact ax_iret (by decide +kernel) rfl ⟨rfl, rfl, hr.1, hr.2⟩
    · refine ax_lump ax_layC ok_kX2 [(12, .iload_n 2, 1, 0, 0, 0), (13, .bipush 24, 2, 0, 0, 0)] (pc' := 15) (lc' := [(0, (2, 2, 0)), (1, (0, 0, x1)), (2, (0, 0, x2))]) (st' := [(0, 0, 24), (0, 0, x2)]) (M' := M) (C' := True) (by decide +kernel) rfl trivial ?_
      refine ax_jle_s hX (off := 5) (tgt := 20) (by decide +kernel) (by decide) (fun h4 hX => ?_) (fun h4 hX => ?_)
      · refine ax_lump ax_layC ok_kX2 [(20, .aload_n 0, 1, 0, 0, 0)] (pc' := 21) (lc' := [(0, (2, 2, 0)), (1, (0, 0, x1)), (2, (0, 0, x2))]) (st' := [(2, 2, 0)]) (M' := M) (C' := True) (by decide +kernel) rfl trivial ?_
        refine ax_cVv_s hX (G1 := gX2_begin) (d1 := d + 4) (i := 142) (n := 0) (as := []) (st := []) (c := 2) (a := 0) (by decide +kernel) ax_cls2 calX2_begin (by omega) rfl wt_351 wt_353 ws_10 (Nat.le_of_ble_eq_true rfl) rfl (c_X2_begin d  M) (fun M5 hX => ?_)
        refine ax_lump ax_layC ok_kX2 [(24, .aload_n 0, 1, 0, 0, 0)] (pc' := 25) (lc' := [(0, (2, 2, 0)), (1, (0, 0, x1)), (2, (0, 0, x2))]) (st' := [(2, 2, 0)]) (M' := M5) (C' := True) (by decide +kernel) rfl trivial ?_
        refine ax_cVv_s hX (G1 := gX2_beginTrial) (d1 := d + 4) (i := 249) (n := 0) (as := []) (st := []) (c := 2) (a := 0) (by decide +kernel) ax_cls2 calX2_beginTrial (by omega) rfl wt_654 wt_656 ws_59 (Nat.le_of_ble_eq_true rfl) rfl (c_X2_beginTrial d  M5) (fun M6 hX => ?_)
        refine ax_lump ax_layC ok_kX2 [(28, .iconst 0, 1, 0, 0, 0), (29, .istore_n 3, 1, 0, 0, 0)] (pc' := 30) (lc' := [(3, (0, 0, 0)), (0, (2, 2, 0)), (1, (0, 0, x1)), (2, (0, 0, x2))]) (st' := []) (M' := M6) (C' := True) (by decide +kernel) rfl trivial ?_
        refine ax_pk [1,2,3,0] (lc' := [(0, (2, 2, 0)), (1, (0, 0, x1)), (2, (0, 0, x2)), (3, (0, 0, 0))]) rfl ?_
        refine w_X2_burst_L30 d x1 x2 _ (by omega) (by omega) (fun M8 hx_8 hX => ?_) (x2 - 0).toNat 0  M6 (by omega)  hX
        refine ax_lump ax_layC ok_kX2 [(60, .aload_n 0, 1, 0, 0, 0)] (pc' := 61) (lc' := [(0, (2, 2, 0))]) (st' := [(2, 2, 0)]) (M' := M8) (C' := True) (by decide +kernel) rfl trivial ?_
        refine ax_cVv_s hX (G1 := gX2_tellAnew) (d1 := d + 0) (i := 168) (n := 0) (as := []) (st := []) (c := 2) (a := 0) (by decide +kernel) ax_cls2 calX2_tellAnew (by omega) rfl wt_517 wt_519 ws_47 (Nat.le_of_ble_eq_true rfl) rfl (c_X2_tellAnew d  M8) (fun M9 hX => ?_)
        refine ax_lump ax_layC ok_kX2 [(64, .iconst 3, 1, 0, 0, 0), (65, .istore_n 3, 1, 0, 0, 0)] (pc' := 66) (lc' := [(3, (0, 0, 3)), (0, (2, 2, 0))]) (st' := []) (M' := M9) (C' := True) (by decide +kernel) rfl trivial ?_
        refine ax_pk [1,0] (lc' := [(0, (2, 2, 0)), (3, (0, 0, 3))]) rfl ?_
        refine w_X2_burst_L66 d  _  (fun M12 hx_12 hX => ?_) 4 3  M9 (by omega)  hX
        refine ax_lump ax_layC ok_kX2 [(91, .aload_n 0, 1, 0, 0, 0), (92, .getfield 16, 3, 2, 1, 0), (95, .iconst 2, 1, 0, 0, 0)] (pc' := 96) (lc' := [(0, (2, 2, 0))]) (st' := [(0, 0, 2), (2, 0, 13)]) (M' := M12) (C' := True) (by decide +kernel) rfl trivial ?_
        refine ax_cNi (G1 := gX0_since) (d1 := d + 0) (i := 252) (n := 1) (as := [(0, 0, 2)]) (st := []) (c := 0) (a := 13) (by decide +kernel) ax_cls0 calX0_since (by omega) rfl wn_529 wt_531 ws_50 (Nat.le_of_ble_eq_true rfl) rfl (c_X0_since d 13 2 M12) (fun hc13 => ?_)
        refine ax_rngS (fun hr => ?_)
        exact ax_iret (by decide +kernel) rfl ⟨rfl, rfl, hr.1, hr.2⟩
      · refine ax_lump ax_layC ok_kX2 [(18, .iconst (-1), 1, 0, 0, 0)] (pc' := 19) (lc' := [(0, (2, 2, 0)), (1, (0, 0, x1)), (2, (0, 0, x2))]) (st' := [(0, 0, (-1))]) (M' := M) (C' := True) (by decide +kernel) rfl trivial ?_
        refine ax_rngS (fun hr => ?_)
        exact ax_iret (by decide +kernel) rfl ⟨rfl, rfl, hr.1, hr.2⟩
def f_X2_lasts_B41 (w1 : Int) (w2 : Int) (v3 : Int) (v4 : Int) (M : ax_M) (kc : Int → Int → ax_M → Prop × Int × ax_M) (kx : Int → Int → ax_M → Prop × Int × ax_M) : Prop × Int × ax_M := (if v4 ≠ (-1) then kx v3 v4 M else (if 99 ≤ v3 then kx v3 v4 M else ax_rc (f_X0_write 13 w1 0 (M 0 7) M) (fun y11 => ax_bd (f_X0_wornTo 13 w2 y11.2) (fun y14 => kc (v3 + 1) y14 y11.2))))
def f_X2_lasts_L41 (w1 : Int) (w2 : Int) : Nat → Int → Int → ax_M → (Int → Int → ax_M → Prop × Int × ax_M) → Prop × Int × ax_M
  | 0, _, _, _, _ => (False, (0, fun _ _ => 0))
  | n + 1, v3, v4, M, kx => f_X2_lasts_B41 w1 w2 v3 v4 M (fun u3 u4 M9 => f_X2_lasts_L41 w1 w2 n  u3 u4 M9 kx) kx
set_option maxRecDepth 100000 in
set_option maxHeartbeats 4000000 in
theorem wb_X2_lasts_B41 (d : Nat) (w1 : Int) (w2 : Int) (v3 : Int) (v4 : Int) (M : ax_M) (kc : Int → Int → ax_M → Prop × Int × ax_M) (kx : Int → Int → ax_M → Prop × Int × ax_M) (hw_w1 : 0 ≤ w1 ∧ w1 ≤ 23) (hw_w2 : 1 ≤ w2 ∧ w2 ≤ 999)  (hv4 : (-1) ≤ v4 ∧ v4 ≤ 15) (hkc : ∀ (u3 : Int) (u4 : Int) (M9 : ax_M), (-1) ≤ u4 ∧ u4 ≤ 15 → (kc u3 u4 M9).1 → ax_W ax_LC gX2_lasts (d + 6) 41 [(0, (2, 2, 0)), (1, (0, 0, w1)), (2, (0, 0, w2)), (3, (0, 0, u3)), (4, (0, 0, u4))] [] M9 ((ax_qm (-2147483648) 2147483647) (kc u3 u4 M9).2)) (hkx : ∀ (x3 : Int) (x4 : Int) (M9 : ax_M), (((-1) ≤ x4 ∧ x4 ≤ 15)) → (kx x3 x4 M9).1 → ax_W ax_LC gX2_lasts (d + 6) 83 [(0, (2, 2, 0)), (3, (0, 0, x3)), (4, (0, 0, x4))] [] M9 ((ax_qm (-2147483648) 2147483647) (kx x3 x4 M9).2)) (hX : (f_X2_lasts_B41 w1 w2 v3 v4 M kc kx).1) : ax_W ax_LC gX2_lasts (d + 6) 41 [(0, (2, 2, 0)), (1, (0, 0, w1)), (2, (0, 0, w2)), (3, (0, 0, v3)), (4, (0, 0, v4))] [] M ((ax_qm (-2147483648) 2147483647) (f_X2_lasts_B41 w1 w2 v3 v4 M kc kx).2) := by
  unfold f_X2_lasts_B41 at hX ⊢
  refine ax_lump ax_layC ok_kX2 [(41, .iload 4, 2, 0, 0, 0), (43, .iconst (-1), 1, 0, 0, 0)] (pc' := 44) (lc' := [(0, (2, 2, 0)), (1, (0, 0, w1)), (2, (0, 0, w2)), (3, (0, 0, v3)), (4, (0, 0, v4))]) (st' := [(0, 0, (-1)), (0, 0, v4)]) (M' := M) (C' := True) (by decide +kernel) rfl trivial ?_
  refine ax_jne_s hX (off := 39) (tgt := 83) (by decide +kernel) (by decide) (fun h9 hX => ?_) (fun h9 hX => ?_)
  · refine ax_pk [0,3,4] (lc' := [(0, (2, 2, 0)), (3, (0, 0, v3)), (4, (0, 0, v4))]) rfl ?_
    exact hkx v3 v4 M (by omega) hX
  · refine ax_lump ax_layC ok_kX2 [(47, .iload_n 3, 1, 0, 0, 0), (48, .bipush 99, 2, 0, 0, 0)] (pc' := 50) (lc' := [(0, (2, 2, 0)), (1, (0, 0, w1)), (2, (0, 0, w2)), (3, (0, 0, v3)), (4, (0, 0, v4))]) (st' := [(0, 0, 99), (0, 0, v3)]) (M' := M) (C' := True) (by decide +kernel) rfl trivial ?_
    refine ax_jge_s hX (off := 33) (tgt := 83) (by decide +kernel) (by decide) (fun h10 hX => ?_) (fun h10 hX => ?_)
    · refine ax_pk [0,3,4] (lc' := [(0, (2, 2, 0)), (3, (0, 0, v3)), (4, (0, 0, v4))]) rfl ?_
      exact hkx v3 v4 M (by omega) hX
    · refine ax_lump ax_layC ok_kX2 [(53, .aload_n 0, 1, 0, 0, 0), (54, .getfield 16, 3, 2, 1, 0), (57, .iload_n 1, 1, 0, 0, 0), (58, .iconst 0, 1, 0, 0, 0), (59, .aload_n 0, 1, 0, 0, 0), (60, .getfield 40, 3, 2, 7, 0)] (pc' := 63) (lc' := [(0, (2, 2, 0)), (1, (0, 0, w1)), (2, (0, 0, w2)), (3, (0, 0, v3)), (4, (0, 0, v4))]) (st' := [(2, 1, (M 0 7)), (0, 0, 0), (0, 0, w1), (2, 0, 13)]) (M' := M) (C' := True) (by decide +kernel) rfl trivial ?_
      refine ax_cNm_r hX (G1 := gX0_write) (d1 := d + 5) (i := 145) (n := 3) (as := [(0, 0, w1), (0, 0, 0), (2, 1, (M 0 7))]) (st := []) (c := 0) (a := 13) (by decide +kernel) ax_cls0 calX0_write (by omega) rfl wn_377 wt_379 ws_15 (Nat.le_of_ble_eq_true rfl) rfl (fun hY => c_X0_write d 13 w1 0 (M 0 7) M hY) (fun y11 h_y11 hX => ?_)
      refine ax_rngL (i := 3) (u := 0) (n := v3) (by simp) (fun hq12 => ?_)
      have hq12 : (-2147483648) ≤ v3 ∧ v3 ≤ 2147483647 := hq12
      refine ax_lump ax_layC ok_kX2 [(66, .pop, 1, 0, 0, 0), (67, .iinc 3 1, 3, 1, 0, 0), (70, .aload_n 0, 1, 0, 0, 0), (71, .getfield 16, 3, 2, 1, 0), (74, .iload_n 2, 1, 0, 0, 0)] (pc' := 75) (lc' := [(3, (0, 0, (v3 + 1))), (0, (2, 2, 0)), (1, (0, 0, w1)), (2, (0, 0, w2)), (4, (0, 0, v4))]) (st' := [(0, 0, w2), (2, 0, 13)]) (M' := y11.2) (C' := (True ∧ ax_r32 (v3 + 1))) (by decide +kernel) rfl ⟨trivial, ⟨by omega, by omega⟩⟩ ?_
      refine ax_cNi (G1 := gX0_wornTo) (d1 := d + 0) (i := 270) (n := 1) (as := [(0, 0, w2)]) (st := []) (c := 0) (a := 13) (by decide +kernel) ax_cls0 calX0_wornTo (by omega) rfl wn_681 wt_683 ws_60 (Nat.le_of_ble_eq_true rfl) rfl (c_X0_wornTo d 13 w2 y11.2) (fun hc13 => ?_)
      refine ax_lump ax_layC ok_kX2 [(78, .istore 4, 2, 0, 0, 0)] (pc' := 80) (lc' := [(4, (0, 0, (f_X0_wornTo 13 w2 y11.2))), (3, (0, 0, (v3 + 1))), (0, (2, 2, 0)), (1, (0, 0, w1)), (2, (0, 0, w2))]) (st' := []) (M' := y11.2) (C' := True) (by decide +kernel) rfl trivial ?_
      refine ax_bdI_s hX (lo := (-1)) (hi := 15) (e := (f_X0_wornTo 13 w2 y11.2)) (fun y14 => [(4, (0, 0, y14)), (3, (0, 0, (v3 + 1))), (0, (2, 2, 0)), (1, (0, 0, w1)), (2, (0, 0, w2))]) (fun y14 => []) (by omega) (fun y14 h_y14 hX => ?_)
      refine ax_lump ax_layC ok_kX2 [(80, .goto (-39), 3, 41, 0, 0)] (pc' := 41) (lc' := [(4, (0, 0, y14)), (3, (0, 0, (v3 + 1))), (0, (2, 2, 0)), (1, (0, 0, w1)), (2, (0, 0, w2))]) (st' := []) (M' := y11.2) (C' := True) (by decide +kernel) rfl trivial ?_
      refine ax_pk [2,3,4,1,0] (lc' := [(0, (2, 2, 0)), (1, (0, 0, w1)), (2, (0, 0, w2)), (3, (0, 0, (v3 + 1))), (4, (0, 0, y14))]) rfl ?_
      exact hkc (v3 + 1) y14 y11.2 (by omega) hX
set_option maxRecDepth 100000 in
set_option maxHeartbeats 4000000 in
theorem w_X2_lasts_L41 (d : Nat) (w1 : Int) (w2 : Int) (kx : Int → Int → ax_M → Prop × Int × ax_M) (hw_w1 : 0 ≤ w1 ∧ w1 ≤ 23) (hw_w2 : 1 ≤ w2 ∧ w2 ≤ 999) (hkx : ∀ (x3 : Int) (x4 : Int) (M9 : ax_M), (((-1) ≤ x4 ∧ x4 ≤ 15)) → (kx x3 x4 M9).1 → ax_W ax_LC gX2_lasts (d + 6) 83 [(0, (2, 2, 0)), (3, (0, 0, x3)), (4, (0, 0, x4))] [] M9 ((ax_qm (-2147483648) 2147483647) (kx x3 x4 M9).2)) : ∀ (n : Nat) (v3 : Int) (v4 : Int) (M : ax_M), (-1) ≤ v4 ∧ v4 ≤ 15 → (f_X2_lasts_L41 w1 w2 n v3 v4 M kx).1 → ax_W ax_LC gX2_lasts (d + 6) 41 [(0, (2, 2, 0)), (1, (0, 0, w1)), (2, (0, 0, w2)), (3, (0, 0, v3)), (4, (0, 0, v4))] [] M ((ax_qm (-2147483648) 2147483647) (f_X2_lasts_L41 w1 w2 n v3 v4 M kx).2) := by
  intro n
  induction n with
  | zero =>
    intro v3 v4 M hv4 hX
    exact False.elim hX
  | succ n ih =>
    intro v3 v4 M hv4 hX
    exact wb_X2_lasts_B41 d w1 w2 v3 v4 M _ kx hw_w1 hw_w2  hv4 (fun u3 u4 M9 hu4 hX => ih u3 u4 M9  hu4 hX) hkx hX
def f_X2_lasts (x1 : Int) (x2 : Int) (M : ax_M) : Prop × Int × ax_M := (if (f_X2_isPage x1 M) = 0 then (True, ((-1), M)) else (if x2 < 1 then (True, ((-1), M)) else (if x2 ≤ 999 then ax_bd (f_X2_begin M) (fun M5 => ax_bd (f_X2_beginTrial M5) (fun M6 => ax_bd (f_X0_wornTo 13 x2 M6) (fun y8 => f_X2_lasts_L41 x1 x2 100  0 y8 M6 (fun z15 z16 M17 => (if z16 ≠ (-1) then ax_bd (f_X2_tellAnew M17) (fun M19 => ax_bd (f_X2_tell z16 M19) (fun M20 => ax_bd (f_X2_tell (f_X0_since 13 2 M20) M20) (fun M22 => (True, (z15, M22))))) else (True, ((-2), M17))))))) else (True, ((-1), M)))))
set_option maxRecDepth 100000 in
set_option maxHeartbeats 4000000 in
theorem c_X2_lasts (d : Nat) (x1 : Int) (x2 : Int) (M : ax_M)  (hX : (f_X2_lasts x1 x2 M).1) : ax_Met ax_LC gX2_lasts (d + 6) [(2, 2, 0), (0, 0, x1), (0, 0, x2)] M ((ax_qm (-2147483648) 2147483647) (f_X2_lasts x1 x2 M).2) := by
  refine ax_body (by decide) (fun X => Nat.le_of_ble_eq_true rfl) (fun hok => ?_)
  have hr_x1 : (-2147483648) ≤ x1 ∧ x1 ≤ 2147483647 := hok (0, 0, x1) (by simp)
  have hr_x2 : (-2147483648) ≤ x2 ∧ x2 ≤ 2147483647 := hok (0, 0, x2) (by simp)
  show ax_W ax_LC gX2_lasts (d + 6) 0 [(0, (2, 2, 0)), (1, (0, 0, x1)), (2, (0, 0, x2))] [] M _
  unfold f_X2_lasts at hX ⊢
  refine ax_lump ax_layC ok_kX2 [(0, .iload_n 1, 1, 0, 0, 0)] (pc' := 1) (lc' := [(0, (2, 2, 0)), (1, (0, 0, x1)), (2, (0, 0, x2))]) (st' := [(0, 0, x1)]) (M' := M) (C' := True) (by decide +kernel) rfl trivial ?_
  refine ax_cSi (G1 := gX2_isPage) (d1 := d + 0) (i := 162) (n := 1) (as := [(0, 0, x1)]) (st := []) (by decide +kernel) calX2_isPage (by omega) rfl wt_537 wt_538 (Nat.le_of_ble_eq_true rfl) rfl (c_X2_isPage d x1 M) (fun hc1 => ?_)
  refine ax_zeq_s hX (off := 15) (tgt := 19) (by decide +kernel) (by decide) (fun h2 hX => ?_) (fun h2 hX => ?_)
  · refine ax_lump ax_layC ok_kX2 [(19, .iconst (-1), 1, 0, 0, 0)] (pc' := 20) (lc' := [(0, (2, 2, 0)), (1, (0, 0, x1)), (2, (0, 0, x2))]) (st' := [(0, 0, (-1))]) (M' := M) (C' := True) (by decide +kernel) rfl trivial ?_
    refine ax_rngS (fun hr => ?_)
    exact ax_iret (by decide +kernel) rfl ⟨rfl, rfl, hr.1, hr.2⟩
  · have hgh2 := g_X2_isPage h2
    refine ax_lump ax_layC ok_kX2 [(7, .iload_n 2, 1, 0, 0, 0), (8, .iconst 1, 1, 0, 0, 0)] (pc' := 9) (lc' := [(0, (2, 2, 0)), (1, (0, 0, x1)), (2, (0, 0, x2))]) (st' := [(0, 0, 1), (0, 0, x2)]) (M' := M) (C' := True) (by decide +kernel) rfl trivial ?_
    refine ax_jlt_s hX (off := 10) (tgt := 19) (by decide +kernel) (by decide) (fun h3 hX => ?_) (fun h3 hX => ?_)
    · refine ax_lump ax_layC ok_kX2 [(19, .iconst (-1), 1, 0, 0, 0)] (pc' := 20) (lc' := [(0, (2, 2, 0)), (1, (0, 0, x1)), (2, (0, 0, x2))]) (st' := [(0, 0, (-1))]) (M' := M) (C' := True) (by decide +kernel) rfl trivial ?_
      refine ax_rngS (fun hr => ?_)
      exact ax_iret (by decide +kernel) rfl ⟨rfl, rfl, hr.1, hr.2⟩
    · refine ax_lump ax_layC ok_kX2 [(12, .iload_n 2, 1, 0, 0, 0), (13, .sipush 999, 3, 0, 0, 0)] (pc' := 16) (lc' := [(0, (2, 2, 0)), (1, (0, 0, x1)), (2, (0, 0, x2))]) (st' := [(0, 0, 999), (0, 0, x2)]) (M' := M) (C' := True) (by decide +kernel) rfl trivial ?_
      refine ax_jle_s hX (off := 5) (tgt := 21) (by decide +kernel) (by decide) (fun h4 hX => ?_) (fun h4 hX => ?_)
      · refine ax_lump ax_layC ok_kX2 [(21, .aload_n 0, 1, 0, 0, 0)] (pc' := 22) (lc' := [(0, (2, 2, 0)), (1, (0, 0, x1)), (2, (0, 0, x2))]) (st' := [(2, 2, 0)]) (M' := M) (C' := True) (by decide +kernel) rfl trivial ?_
        refine ax_cVv_s hX (G1 := gX2_begin) (d1 := d + 4) (i := 142) (n := 0) (as := []) (st := []) (c := 2) (a := 0) (by decide +kernel) ax_cls2 calX2_begin (by omega) rfl wt_351 wt_353 ws_10 (Nat.le_of_ble_eq_true rfl) rfl (c_X2_begin d  M) (fun M5 hX => ?_)
        refine ax_lump ax_layC ok_kX2 [(25, .aload_n 0, 1, 0, 0, 0)] (pc' := 26) (lc' := [(0, (2, 2, 0)), (1, (0, 0, x1)), (2, (0, 0, x2))]) (st' := [(2, 2, 0)]) (M' := M5) (C' := True) (by decide +kernel) rfl trivial ?_
        refine ax_cVv_s hX (G1 := gX2_beginTrial) (d1 := d + 4) (i := 249) (n := 0) (as := []) (st := []) (c := 2) (a := 0) (by decide +kernel) ax_cls2 calX2_beginTrial (by omega) rfl wt_654 wt_656 ws_59 (Nat.le_of_ble_eq_true rfl) rfl (c_X2_beginTrial d  M5) (fun M6 hX => ?_)
        refine ax_lump ax_layC ok_kX2 [(29, .iconst 0, 1, 0, 0, 0), (30, .istore_n 3, 1, 0, 0, 0), (31, .aload_n 0, 1, 0, 0, 0), (32, .getfield 16, 3, 2, 1, 0), (35, .iload_n 2, 1, 0, 0, 0)] (pc' := 36) (lc' := [(3, (0, 0, 0)), (0, (2, 2, 0)), (1, (0, 0, x1)), (2, (0, 0, x2))]) (st' := [(0, 0, x2), (2, 0, 13)]) (M' := M6) (C' := True) (by decide +kernel) rfl trivial ?_
        refine ax_cNi (G1 := gX0_wornTo) (d1 := d + 0) (i := 270) (n := 1) (as := [(0, 0, x2)]) (st := []) (c := 0) (a := 13) (by decide +kernel) ax_cls0 calX0_wornTo (by omega) rfl wn_681 wt_683 ws_60 (Nat.le_of_ble_eq_true rfl) rfl (c_X0_wornTo d 13 x2 M6) (fun hc7 => ?_)
        refine ax_lump ax_layC ok_kX2 [(39, .istore 4, 2, 0, 0, 0)] (pc' := 41) (lc' := [(4, (0, 0, (f_X0_wornTo 13 x2 M6))), (3, (0, 0, 0)), (0, (2, 2, 0)), (1, (0, 0, x1)), (2, (0, 0, x2))]) (st' := []) (M' := M6) (C' := True) (by decide +kernel) rfl trivial ?_
        refine ax_bdI_s hX (lo := (-1)) (hi := 15) (e := (f_X0_wornTo 13 x2 M6)) (fun y8 => [(4, (0, 0, y8)), (3, (0, 0, 0)), (0, (2, 2, 0)), (1, (0, 0, x1)), (2, (0, 0, x2))]) (fun y8 => []) (by omega) (fun y8 h_y8 hX => ?_)
        refine ax_pk [2,3,4,1,0] (lc' := [(0, (2, 2, 0)), (1, (0, 0, x1)), (2, (0, 0, x2)), (3, (0, 0, 0)), (4, (0, 0, y8))]) rfl ?_
        refine w_X2_lasts_L41 d x1 x2 _ (by omega) (by omega) (fun z15 z16 M17 hx_17 hX => ?_) 100  0 y8 M6  (by omega) hX
        refine ax_lump ax_layC ok_kX2 [(83, .iload 4, 2, 0, 0, 0), (85, .iconst (-1), 1, 0, 0, 0)] (pc' := 86) (lc' := [(0, (2, 2, 0)), (3, (0, 0, z15)), (4, (0, 0, z16))]) (st' := [(0, 0, (-1)), (0, 0, z16)]) (M' := M17) (C' := True) (by decide +kernel) rfl trivial ?_
        refine ax_jne_s hX (off := 6) (tgt := 92) (by decide +kernel) (by decide) (fun h18 hX => ?_) (fun h18 hX => ?_)
        · refine ax_lump ax_layC ok_kX2 [(92, .aload_n 0, 1, 0, 0, 0)] (pc' := 93) (lc' := [(0, (2, 2, 0)), (3, (0, 0, z15)), (4, (0, 0, z16))]) (st' := [(2, 2, 0)]) (M' := M17) (C' := True) (by decide +kernel) rfl trivial ?_
          refine ax_cVv_s hX (G1 := gX2_tellAnew) (d1 := d + 0) (i := 168) (n := 0) (as := []) (st := []) (c := 2) (a := 0) (by decide +kernel) ax_cls2 calX2_tellAnew (by omega) rfl wt_517 wt_519 ws_47 (Nat.le_of_ble_eq_true rfl) rfl (c_X2_tellAnew d  M17) (fun M19 hX => ?_)
          refine ax_lump ax_layC ok_kX2 [(96, .aload_n 0, 1, 0, 0, 0), (97, .iload 4, 2, 0, 0, 0), (99, .i2l, 1, 0, 0, 0)] (pc' := 100) (lc' := [(0, (2, 2, 0)), (3, (0, 0, z15)), (4, (0, 0, z16))]) (st' := [(1, 0, z16), (2, 2, 0)]) (M' := M19) (C' := True) (by decide +kernel) rfl trivial ?_
          refine ax_cVv_s hX (G1 := gX2_tell) (d1 := d + 0) (i := 155) (n := 1) (as := [(1, 0, z16)]) (st := []) (c := 2) (a := 0) (by decide +kernel) ax_cls2 calX2_tell (by omega) rfl wt_521 wt_523 ws_48 (Nat.le_of_ble_eq_true rfl) rfl (c_X2_tell d z16 M19) (fun M20 hX => ?_)
          refine ax_lump ax_layC ok_kX2 [(103, .aload_n 0, 1, 0, 0, 0), (104, .aload_n 0, 1, 0, 0, 0), (105, .getfield 16, 3, 2, 1, 0), (108, .iconst 2, 1, 0, 0, 0)] (pc' := 109) (lc' := [(0, (2, 2, 0)), (3, (0, 0, z15)), (4, (0, 0, z16))]) (st' := [(0, 0, 2), (2, 0, 13), (2, 2, 0)]) (M' := M20) (C' := True) (by decide +kernel) rfl trivial ?_
          refine ax_cNi (G1 := gX0_since) (d1 := d + 0) (i := 252) (n := 1) (as := [(0, 0, 2)]) (st := [(2, 2, 0)]) (c := 0) (a := 13) (by decide +kernel) ax_cls0 calX0_since (by omega) rfl wn_529 wt_531 ws_50 (Nat.le_of_ble_eq_true rfl) rfl (c_X0_since d 13 2 M20) (fun hc21 => ?_)
          refine ax_lump ax_layC ok_kX2 [(112, .i2l, 1, 0, 0, 0)] (pc' := 113) (lc' := [(0, (2, 2, 0)), (3, (0, 0, z15)), (4, (0, 0, z16))]) (st' := [(1, 0, (f_X0_since 13 2 M20)), (2, 2, 0)]) (M' := M20) (C' := True) (by decide +kernel) rfl trivial ?_
          refine ax_cVv_s hX (G1 := gX2_tell) (d1 := d + 0) (i := 155) (n := 1) (as := [(1, 0, (f_X0_since 13 2 M20))]) (st := []) (c := 2) (a := 0) (by decide +kernel) ax_cls2 calX2_tell (by omega) rfl wt_521 wt_523 ws_48 (Nat.le_of_ble_eq_true rfl) rfl (c_X2_tell d (f_X0_since 13 2 M20) M20) (fun M22 hX => ?_)
          refine ax_lump ax_layC ok_kX2 [(116, .iload_n 3, 1, 0, 0, 0)] (pc' := 117) (lc' := [(0, (2, 2, 0)), (3, (0, 0, z15)), (4, (0, 0, z16))]) (st' := [(0, 0, z15)]) (M' := M22) (C' := True) (by decide +kernel) rfl trivial ?_
          refine ax_rngS (fun hr => ?_)
          exact ax_iret (by decide +kernel) rfl ⟨rfl, rfl, hr.1, hr.2⟩
        · refine ax_lump ax_layC ok_kX2 [(89, .bipush (-2), 2, 0, 0, 0)] (pc' := 91) (lc' := [(0, (2, 2, 0)), (3, (0, 0, z15)), (4, (0, 0, z16))]) (st' := [(0, 0, (-2))]) (M' := M17) (C' := True) (by decide +kernel) rfl trivial ?_
          refine ax_rngS (fun hr => ?_)
          exact ax_iret (by decide +kernel) rfl ⟨rfl, rfl, hr.1, hr.2⟩
      · refine ax_lump ax_layC ok_kX2 [(19, .iconst (-1), 1, 0, 0, 0)] (pc' := 20) (lc' := [(0, (2, 2, 0)), (1, (0, 0, x1)), (2, (0, 0, x2))]) (st' := [(0, 0, (-1))]) (M' := M) (C' := True) (by decide +kernel) rfl trivial ?_
        refine ax_rngS (fun hr => ?_)
        exact ax_iret (by decide +kernel) rfl ⟨rfl, rfl, hr.1, hr.2⟩
def f_X2_cuts_B102 (w1 : Int) (w4 : Int) (M : ax_M) (i : Nat) (v5 : Int) (kc : Int → Prop × Int × ax_M) (kx : Int → Prop × Int × ax_M) : Prop × Int × ax_M := (if (i : Int) = w1 then kc (v5 + 0) else (if (f_X0_valueOf 13 (i : Int) M) = (f_X0_valueOf 1 (i : Int) M) then kc (v5 + 0) else kc (v5 + 1)))
def f_X2_cuts_L102 (w1 : Int) (w4 : Int) (M : ax_M) : Nat → Nat → Int → (Int → Prop × Int × ax_M) → Prop × Int × ax_M
  | 0, i, v5, kx => kx v5
  | n + 1, i, v5, kx => f_X2_cuts_B102 w1 w4 M i v5 (fun u5 => f_X2_cuts_L102 w1 w4 M n (i + 1) u5 kx) kx
set_option maxRecDepth 100000 in
set_option maxHeartbeats 4000000 in
theorem wb_X2_cuts_B102 (d : Nat) (w1 : Int) (w4 : Int) (M : ax_M) (i : Nat) (v5 : Int) (kc : Int → Prop × Int × ax_M) (kx : Int → Prop × Int × ax_M) (hw_w1 : 0 ≤ w1 ∧ w1 ≤ 23) (hi : 0 ≤ i ∧ i < 24) (hv5 : 0 ≤ v5 ∧ v5 ≤ 0 + 1 * ((i : Int) - 0)) (hkc : ∀ (u5 : Int), 0 ≤ u5 ∧ u5 ≤ 0 + 1 * (((i : Int) + 1) - 0) → (kc u5).1 → ax_W ax_LC gX2_cuts (d + 6) 102 [(0, (2, 2, 0)), (1, (0, 0, w1)), (4, (0, 0, w4)), (5, (0, 0, u5)), (6, (0, 0, ((i : Int) + 1)))] [] M ((ax_qm (-2147483648) 2147483647) (kc u5).2)) (hkx : ∀ (x5 : Int), ((0 ≤ x5 ∧ x5 ≤ 24)) → (kx x5).1 → ax_W ax_LC gX2_cuts (d + 6) 152 [(0, (2, 2, 0)), (1, (0, 0, w1)), (4, (0, 0, w4)), (5, (0, 0, x5))] [] M ((ax_qm (-2147483648) 2147483647) (kx x5).2)) (hX : (f_X2_cuts_B102 w1 w4 M i v5 kc kx).1) : ax_W ax_LC gX2_cuts (d + 6) 109 [(0, (2, 2, 0)), (1, (0, 0, w1)), (4, (0, 0, w4)), (5, (0, 0, v5)), (6, (0, 0, (i : Int)))] [] M ((ax_qm (-2147483648) 2147483647) (f_X2_cuts_B102 w1 w4 M i v5 kc kx).2) := by
  unfold f_X2_cuts_B102 at hX ⊢
  refine ax_lump ax_layC ok_kX2 [(109, .iload 5, 2, 0, 0, 0), (111, .iload 6, 2, 0, 0, 0), (113, .iload_n 1, 1, 0, 0, 0)] (pc' := 114) (lc' := [(0, (2, 2, 0)), (1, (0, 0, w1)), (4, (0, 0, w4)), (5, (0, 0, v5)), (6, (0, 0, (i : Int)))]) (st' := [(0, 0, w1), (0, 0, (i : Int)), (0, 0, v5)]) (M' := M) (C' := True) (by decide +kernel) rfl trivial ?_
  refine ax_jeq_s hX (off := 28) (tgt := 142) (by decide +kernel) (by decide) (fun h15 hX => ?_) (fun h15 hX => ?_)
  · refine ax_lump ax_layC ok_kX2 [(142, .iconst 0, 1, 0, 0, 0), (143, .iadd, 1, 1, 0, 0), (144, .istore 5, 2, 0, 0, 0), (146, .iinc 6 1, 3, 1, 0, 0), (149, .goto (-47), 3, 102, 0, 0)] (pc' := 102) (lc' := [(6, (0, 0, ((i : Int) + 1))), (5, (0, 0, (v5 + 0))), (0, (2, 2, 0)), (1, (0, 0, w1)), (4, (0, 0, w4))]) (st' := []) (M' := M) (C' := ((True ∧ ax_r32 (v5 + 0)) ∧ ax_r32 ((i : Int) + 1))) (by decide +kernel) rfl ⟨⟨trivial, ⟨by omega, by omega⟩⟩, ⟨by omega, by omega⟩⟩ ?_
    refine ax_pk [2,3,4,1,0] (lc' := [(0, (2, 2, 0)), (1, (0, 0, w1)), (4, (0, 0, w4)), (5, (0, 0, (v5 + 0))), (6, (0, 0, ((i : Int) + 1)))]) rfl ?_
    exact hkc (v5 + 0) (by omega) hX
  · refine ax_lump ax_layC ok_kX2 [(117, .aload_n 0, 1, 0, 0, 0), (118, .getfield 16, 3, 2, 1, 0), (121, .iload 6, 2, 0, 0, 0)] (pc' := 123) (lc' := [(0, (2, 2, 0)), (1, (0, 0, w1)), (4, (0, 0, w4)), (5, (0, 0, v5)), (6, (0, 0, (i : Int)))]) (st' := [(0, 0, (i : Int)), (2, 0, 13), (0, 0, v5)]) (M' := M) (C' := True) (by decide +kernel) rfl trivial ?_
    refine ax_cNi (G1 := gX0_valueOf) (d1 := d + 3) (i := 280) (n := 1) (as := [(0, 0, (i : Int))]) (st := [(0, 0, v5)]) (c := 0) (a := 13) (by decide +kernel) ax_cls0 calX0_valueOf (by omega) rfl wn_690 wt_692 ws_61 (Nat.le_of_ble_eq_true rfl) rfl (c_X0_valueOf d 13 (i : Int) M) (fun hc16 => ?_)
    refine ax_lump ax_layC ok_kX2 [(126, .aload_n 0, 1, 0, 0, 0), (127, .getfield 12, 3, 2, 0, 0), (130, .iload 6, 2, 0, 0, 0)] (pc' := 132) (lc' := [(0, (2, 2, 0)), (1, (0, 0, w1)), (4, (0, 0, w4)), (5, (0, 0, v5)), (6, (0, 0, (i : Int)))]) (st' := [(0, 0, (i : Int)), (2, 0, 1), (0, 0, (f_X0_valueOf 13 (i : Int) M)), (0, 0, v5)]) (M' := M) (C' := True) (by decide +kernel) rfl trivial ?_
    refine ax_cNi (G1 := gX0_valueOf) (d1 := d + 3) (i := 280) (n := 1) (as := [(0, 0, (i : Int))]) (st := [(0, 0, (f_X0_valueOf 13 (i : Int) M)), (0, 0, v5)]) (c := 0) (a := 1) (by decide +kernel) ax_cls0 calX0_valueOf (by omega) rfl wn_690 wt_692 ws_61 (Nat.le_of_ble_eq_true rfl) rfl (c_X0_valueOf d 1 (i : Int) M) (fun hc17 => ?_)
    refine ax_jeq_s hX (off := 7) (tgt := 142) (by decide +kernel) (by decide) (fun h18 hX => ?_) (fun h18 hX => ?_)
    · refine ax_lump ax_layC ok_kX2 [(142, .iconst 0, 1, 0, 0, 0), (143, .iadd, 1, 1, 0, 0), (144, .istore 5, 2, 0, 0, 0), (146, .iinc 6 1, 3, 1, 0, 0), (149, .goto (-47), 3, 102, 0, 0)] (pc' := 102) (lc' := [(6, (0, 0, ((i : Int) + 1))), (5, (0, 0, (v5 + 0))), (0, (2, 2, 0)), (1, (0, 0, w1)), (4, (0, 0, w4))]) (st' := []) (M' := M) (C' := ((True ∧ ax_r32 (v5 + 0)) ∧ ax_r32 ((i : Int) + 1))) (by decide +kernel) rfl ⟨⟨trivial, ⟨by omega, by omega⟩⟩, ⟨by omega, by omega⟩⟩ ?_
      refine ax_pk [2,3,4,1,0] (lc' := [(0, (2, 2, 0)), (1, (0, 0, w1)), (4, (0, 0, w4)), (5, (0, 0, (v5 + 0))), (6, (0, 0, ((i : Int) + 1)))]) rfl ?_
      exact hkc (v5 + 0) (by omega) hX
    · refine ax_lump ax_layC ok_kX2 [(138, .iconst 1, 1, 0, 0, 0), (139, .goto 4, 3, 143, 0, 0), (143, .iadd, 1, 1, 0, 0), (144, .istore 5, 2, 0, 0, 0), (146, .iinc 6 1, 3, 1, 0, 0), (149, .goto (-47), 3, 102, 0, 0)] (pc' := 102) (lc' := [(6, (0, 0, ((i : Int) + 1))), (5, (0, 0, (v5 + 1))), (0, (2, 2, 0)), (1, (0, 0, w1)), (4, (0, 0, w4))]) (st' := []) (M' := M) (C' := ((True ∧ ax_r32 (v5 + 1)) ∧ ax_r32 ((i : Int) + 1))) (by decide +kernel) rfl ⟨⟨trivial, ⟨by omega, by omega⟩⟩, ⟨by omega, by omega⟩⟩ ?_
      refine ax_pk [2,3,4,1,0] (lc' := [(0, (2, 2, 0)), (1, (0, 0, w1)), (4, (0, 0, w4)), (5, (0, 0, (v5 + 1))), (6, (0, 0, ((i : Int) + 1)))]) rfl ?_
      exact hkc (v5 + 1) (by omega) hX
set_option maxRecDepth 100000 in
set_option maxHeartbeats 4000000 in
theorem w_X2_cuts_L102 (d : Nat) (w1 : Int) (w4 : Int) (M : ax_M) (kx : Int → Prop × Int × ax_M) (hw_w1 : 0 ≤ w1 ∧ w1 ≤ 23) (hkx : ∀ (x5 : Int), ((0 ≤ x5 ∧ x5 ≤ 24)) → (kx x5).1 → ax_W ax_LC gX2_cuts (d + 6) 152 [(0, (2, 2, 0)), (1, (0, 0, w1)), (4, (0, 0, w4)), (5, (0, 0, x5))] [] M ((ax_qm (-2147483648) 2147483647) (kx x5).2)) : ∀ (n : Nat) (i : Nat) (v5 : Int), 0 ≤ i ∧ i + n = 24 → 0 ≤ v5 ∧ v5 ≤ 0 + 1 * ((i : Int) - 0) → (f_X2_cuts_L102 w1 w4 M n i v5 kx).1 → ax_W ax_LC gX2_cuts (d + 6) 102 [(0, (2, 2, 0)), (1, (0, 0, w1)), (4, (0, 0, w4)), (5, (0, 0, v5)), (6, (0, 0, (i : Int)))] [] M ((ax_qm (-2147483648) 2147483647) (f_X2_cuts_L102 w1 w4 M n i v5 kx).2) := by
  intro n
  induction n with
  | zero =>
    intro i v5 hin hv5 hX
    refine ax_lump ax_layC ok_kX2 [(102, .iload 6, 2, 0, 0, 0), (104, .bipush 24, 2, 0, 0, 0)] (pc' := 106) (lc' := [(0, (2, 2, 0)), (1, (0, 0, w1)), (4, (0, 0, w4)), (5, (0, 0, v5)), (6, (0, 0, (i : Int)))]) (st' := [(0, 0, 24), (0, 0, (i : Int))]) (M' := M) (C' := True) (by decide +kernel) rfl trivial ?_
    refine ax_icmp_ge (off := 46) (tgt := 152) (by decide +kernel) (by decide) (fun h => ?_) (fun h => ?_)
    · refine ax_pk [0,1,2,3] (lc' := [(0, (2, 2, 0)), (1, (0, 0, w1)), (4, (0, 0, w4)), (5, (0, 0, v5))]) rfl ?_
      exact hkx v5 (by omega) hX
    · exfalso; omega
  | succ n ih =>
    intro i v5 hin hv5 hX
    refine ax_lump ax_layC ok_kX2 [(102, .iload 6, 2, 0, 0, 0), (104, .bipush 24, 2, 0, 0, 0)] (pc' := 106) (lc' := [(0, (2, 2, 0)), (1, (0, 0, w1)), (4, (0, 0, w4)), (5, (0, 0, v5)), (6, (0, 0, (i : Int)))]) (st' := [(0, 0, 24), (0, 0, (i : Int))]) (M' := M) (C' := True) (by decide +kernel) rfl trivial ?_
    refine ax_icmp_ge (off := 46) (tgt := 152) (by decide +kernel) (by decide) (fun h => ?_) (fun h => ?_)
    · exfalso; omega
    · exact wb_X2_cuts_B102 d w1 w4 M i v5 _ kx hw_w1 (by omega) hv5 (fun u5 hu5 hX => ih (i + 1) u5 (by omega) (by omega) hX) hkx hX
def f_X2_cuts (x1 : Int) (x2 : Int) (x3 : Int) (M : ax_M) : Prop × Int × ax_M := (if (f_X2_isPage x1 M) = 0 then (True, ((-1), M)) else (if x2 < 0 then (True, ((-1), M)) else (if 100 ≤ x2 then (True, ((-1), M)) else (if x3 < 0 then (True, ((-1), M)) else (if x3 ≤ 99 then ax_bd (f_X2_begin M) (fun M7 => ax_bd (f_X2_beginTrial M7) (fun M8 => ax_rc (f_X0_write 13 x1 x2 (M8 0 7) M8) (fun y9 => ax_bd (y9.2 13 11) (fun y10 => ax_bd (f_X2_beginTrial y9.2) (fun M11 => ax_bd (ax_up M11 13 12 x3) (fun M12 => ax_rc (f_X0_write 13 x1 x2 (M12 0 7) M12) (fun y13 => ax_bd (ax_up y13.2 13 12 1073741824) (fun M14 => f_X2_cuts_L102 x1 y10 M14 24 0 0 (fun z19 => ax_bd (f_X2_tellAnew M14) (fun M20 => ax_bd (f_X2_tell y10 M20) (fun M21 => ax_bd (f_X2_tell z19 M21) (fun M22 => (True, ((f_X0_valueOf 13 x1 M22), M22)))))))))))))) else (True, ((-1), M)))))))
set_option maxRecDepth 100000 in
set_option maxHeartbeats 4000000 in
theorem c_X2_cuts (d : Nat) (x1 : Int) (x2 : Int) (x3 : Int) (M : ax_M)  (hX : (f_X2_cuts x1 x2 x3 M).1) : ax_Met ax_LC gX2_cuts (d + 6) [(2, 2, 0), (0, 0, x1), (0, 0, x2), (0, 0, x3)] M ((ax_qm (-2147483648) 2147483647) (f_X2_cuts x1 x2 x3 M).2) := by
  refine ax_body (by decide) (fun X => Nat.le_of_ble_eq_true rfl) (fun hok => ?_)
  have hr_x1 : (-2147483648) ≤ x1 ∧ x1 ≤ 2147483647 := hok (0, 0, x1) (by simp)
  have hr_x2 : (-2147483648) ≤ x2 ∧ x2 ≤ 2147483647 := hok (0, 0, x2) (by simp)
  have hr_x3 : (-2147483648) ≤ x3 ∧ x3 ≤ 2147483647 := hok (0, 0, x3) (by simp)
  show ax_W ax_LC gX2_cuts (d + 6) 0 [(0, (2, 2, 0)), (1, (0, 0, x1)), (2, (0, 0, x2)), (3, (0, 0, x3))] [] M _
  unfold f_X2_cuts at hX ⊢
  refine ax_lump ax_layC ok_kX2 [(0, .iload_n 1, 1, 0, 0, 0)] (pc' := 1) (lc' := [(0, (2, 2, 0)), (1, (0, 0, x1)), (2, (0, 0, x2)), (3, (0, 0, x3))]) (st' := [(0, 0, x1)]) (M' := M) (C' := True) (by decide +kernel) rfl trivial ?_
  refine ax_cSi (G1 := gX2_isPage) (d1 := d + 0) (i := 162) (n := 1) (as := [(0, 0, x1)]) (st := []) (by decide +kernel) calX2_isPage (by omega) rfl wt_537 wt_538 (Nat.le_of_ble_eq_true rfl) rfl (c_X2_isPage d x1 M) (fun hc1 => ?_)
  refine ax_zeq_s hX (off := 23) (tgt := 27) (by decide +kernel) (by decide) (fun h2 hX => ?_) (fun h2 hX => ?_)
  · refine ax_lump ax_layC ok_kX2 [(27, .iconst (-1), 1, 0, 0, 0)] (pc' := 28) (lc' := [(0, (2, 2, 0)), (1, (0, 0, x1)), (2, (0, 0, x2)), (3, (0, 0, x3))]) (st' := [(0, 0, (-1))]) (M' := M) (C' := True) (by decide +kernel) rfl trivial ?_
    refine ax_rngS (fun hr => ?_)
    exact ax_iret (by decide +kernel) rfl ⟨rfl, rfl, hr.1, hr.2⟩
  · have hgh2 := g_X2_isPage h2
    refine ax_lump ax_layC ok_kX2 [(7, .iload_n 2, 1, 0, 0, 0)] (pc' := 8) (lc' := [(0, (2, 2, 0)), (1, (0, 0, x1)), (2, (0, 0, x2)), (3, (0, 0, x3))]) (st' := [(0, 0, x2)]) (M' := M) (C' := True) (by decide +kernel) rfl trivial ?_
    refine ax_zlt_s hX (off := 19) (tgt := 27) (by decide +kernel) (by decide) (fun h3 hX => ?_) (fun h3 hX => ?_)
    · refine ax_lump ax_layC ok_kX2 [(27, .iconst (-1), 1, 0, 0, 0)] (pc' := 28) (lc' := [(0, (2, 2, 0)), (1, (0, 0, x1)), (2, (0, 0, x2)), (3, (0, 0, x3))]) (st' := [(0, 0, (-1))]) (M' := M) (C' := True) (by decide +kernel) rfl trivial ?_
      refine ax_rngS (fun hr => ?_)
      exact ax_iret (by decide +kernel) rfl ⟨rfl, rfl, hr.1, hr.2⟩
    · refine ax_lump ax_layC ok_kX2 [(11, .iload_n 2, 1, 0, 0, 0), (12, .bipush 100, 2, 0, 0, 0)] (pc' := 14) (lc' := [(0, (2, 2, 0)), (1, (0, 0, x1)), (2, (0, 0, x2)), (3, (0, 0, x3))]) (st' := [(0, 0, 100), (0, 0, x2)]) (M' := M) (C' := True) (by decide +kernel) rfl trivial ?_
      refine ax_jge_s hX (off := 13) (tgt := 27) (by decide +kernel) (by decide) (fun h4 hX => ?_) (fun h4 hX => ?_)
      · refine ax_lump ax_layC ok_kX2 [(27, .iconst (-1), 1, 0, 0, 0)] (pc' := 28) (lc' := [(0, (2, 2, 0)), (1, (0, 0, x1)), (2, (0, 0, x2)), (3, (0, 0, x3))]) (st' := [(0, 0, (-1))]) (M' := M) (C' := True) (by decide +kernel) rfl trivial ?_
        refine ax_rngS (fun hr => ?_)
        exact ax_iret (by decide +kernel) rfl ⟨rfl, rfl, hr.1, hr.2⟩
      · refine ax_lump ax_layC ok_kX2 [(17, .iload_n 3, 1, 0, 0, 0)] (pc' := 18) (lc' := [(0, (2, 2, 0)), (1, (0, 0, x1)), (2, (0, 0, x2)), (3, (0, 0, x3))]) (st' := [(0, 0, x3)]) (M' := M) (C' := True) (by decide +kernel) rfl trivial ?_
        refine ax_zlt_s hX (off := 9) (tgt := 27) (by decide +kernel) (by decide) (fun h5 hX => ?_) (fun h5 hX => ?_)
        · refine ax_lump ax_layC ok_kX2 [(27, .iconst (-1), 1, 0, 0, 0)] (pc' := 28) (lc' := [(0, (2, 2, 0)), (1, (0, 0, x1)), (2, (0, 0, x2)), (3, (0, 0, x3))]) (st' := [(0, 0, (-1))]) (M' := M) (C' := True) (by decide +kernel) rfl trivial ?_
          refine ax_rngS (fun hr => ?_)
          exact ax_iret (by decide +kernel) rfl ⟨rfl, rfl, hr.1, hr.2⟩
        · refine ax_lump ax_layC ok_kX2 [(21, .iload_n 3, 1, 0, 0, 0), (22, .bipush 99, 2, 0, 0, 0)] (pc' := 24) (lc' := [(0, (2, 2, 0)), (1, (0, 0, x1)), (2, (0, 0, x2)), (3, (0, 0, x3))]) (st' := [(0, 0, 99), (0, 0, x3)]) (M' := M) (C' := True) (by decide +kernel) rfl trivial ?_
          refine ax_jle_s hX (off := 5) (tgt := 29) (by decide +kernel) (by decide) (fun h6 hX => ?_) (fun h6 hX => ?_)
          · refine ax_lump ax_layC ok_kX2 [(29, .aload_n 0, 1, 0, 0, 0)] (pc' := 30) (lc' := [(0, (2, 2, 0)), (1, (0, 0, x1)), (2, (0, 0, x2)), (3, (0, 0, x3))]) (st' := [(2, 2, 0)]) (M' := M) (C' := True) (by decide +kernel) rfl trivial ?_
            refine ax_cVv_s hX (G1 := gX2_begin) (d1 := d + 4) (i := 142) (n := 0) (as := []) (st := []) (c := 2) (a := 0) (by decide +kernel) ax_cls2 calX2_begin (by omega) rfl wt_351 wt_353 ws_10 (Nat.le_of_ble_eq_true rfl) rfl (c_X2_begin d  M) (fun M7 hX => ?_)
            refine ax_lump ax_layC ok_kX2 [(33, .aload_n 0, 1, 0, 0, 0)] (pc' := 34) (lc' := [(0, (2, 2, 0)), (1, (0, 0, x1)), (2, (0, 0, x2)), (3, (0, 0, x3))]) (st' := [(2, 2, 0)]) (M' := M7) (C' := True) (by decide +kernel) rfl trivial ?_
            refine ax_cVv_s hX (G1 := gX2_beginTrial) (d1 := d + 4) (i := 249) (n := 0) (as := []) (st := []) (c := 2) (a := 0) (by decide +kernel) ax_cls2 calX2_beginTrial (by omega) rfl wt_654 wt_656 ws_59 (Nat.le_of_ble_eq_true rfl) rfl (c_X2_beginTrial d  M7) (fun M8 hX => ?_)
            refine ax_lump ax_layC ok_kX2 [(37, .aload_n 0, 1, 0, 0, 0), (38, .getfield 16, 3, 2, 1, 0), (41, .iload_n 1, 1, 0, 0, 0), (42, .iload_n 2, 1, 0, 0, 0), (43, .aload_n 0, 1, 0, 0, 0), (44, .getfield 40, 3, 2, 7, 0)] (pc' := 47) (lc' := [(0, (2, 2, 0)), (1, (0, 0, x1)), (2, (0, 0, x2)), (3, (0, 0, x3))]) (st' := [(2, 1, (M8 0 7)), (0, 0, x2), (0, 0, x1), (2, 0, 13)]) (M' := M8) (C' := True) (by decide +kernel) rfl trivial ?_
            refine ax_cNm_r hX (G1 := gX0_write) (d1 := d + 5) (i := 145) (n := 3) (as := [(0, 0, x1), (0, 0, x2), (2, 1, (M8 0 7))]) (st := []) (c := 0) (a := 13) (by decide +kernel) ax_cls0 calX0_write (by omega) rfl wn_377 wt_379 ws_15 (Nat.le_of_ble_eq_true rfl) rfl (fun hY => c_X0_write d 13 x1 x2 (M8 0 7) M8 hY) (fun y9 h_y9 hX => ?_)
            refine ax_lump ax_layC ok_kX2 [(50, .pop, 1, 0, 0, 0), (51, .aload_n 0, 1, 0, 0, 0), (52, .getfield 16, 3, 2, 1, 0), (55, .getfield 273, 3, 0, 11, 0), (58, .istore 4, 2, 0, 0, 0)] (pc' := 60) (lc' := [(4, (0, 0, (y9.2 13 11))), (0, (2, 2, 0)), (1, (0, 0, x1)), (2, (0, 0, x2)), (3, (0, 0, x3))]) (st' := []) (M' := y9.2) (C' := True) (by decide +kernel) rfl trivial ?_
            refine ax_bdI0_s hX (e := (y9.2 13 11)) (fun y10 => [(4, (0, 0, y10)), (0, (2, 2, 0)), (1, (0, 0, x1)), (2, (0, 0, x2)), (3, (0, 0, x3))]) (fun y10 => []) (fun y10 hX => ?_)
            refine ax_lump ax_layC ok_kX2 [(60, .aload_n 0, 1, 0, 0, 0)] (pc' := 61) (lc' := [(4, (0, 0, y10)), (0, (2, 2, 0)), (1, (0, 0, x1)), (2, (0, 0, x2)), (3, (0, 0, x3))]) (st' := [(2, 2, 0)]) (M' := y9.2) (C' := True) (by decide +kernel) rfl trivial ?_
            refine ax_cVv_s hX (G1 := gX2_beginTrial) (d1 := d + 4) (i := 249) (n := 0) (as := []) (st := []) (c := 2) (a := 0) (by decide +kernel) ax_cls2 calX2_beginTrial (by omega) rfl wt_654 wt_656 ws_59 (Nat.le_of_ble_eq_true rfl) rfl (c_X2_beginTrial d  y9.2) (fun M11 hX => ?_)
            refine ax_lump ax_layC ok_kX2 [(64, .aload_n 0, 1, 0, 0, 0), (65, .getfield 16, 3, 2, 1, 0), (68, .iload_n 3, 1, 0, 0, 0), (69, .putfield 276, 3, 0, 12, 0)] (pc' := 72) (lc' := [(4, (0, 0, y10)), (0, (2, 2, 0)), (1, (0, 0, x1)), (2, (0, 0, x2)), (3, (0, 0, x3))]) (st' := []) (M' := (ax_up M11 13 12 x3)) (C' := True) (by decide +kernel) rfl trivial ?_
            refine ax_bdMe_s hX (fun M12 hM_M12 hX => ?_)
            refine ax_lump ax_layC ok_kX2 [(72, .aload_n 0, 1, 0, 0, 0), (73, .getfield 16, 3, 2, 1, 0), (76, .iload_n 1, 1, 0, 0, 0), (77, .iload_n 2, 1, 0, 0, 0), (78, .aload_n 0, 1, 0, 0, 0), (79, .getfield 40, 3, 2, 7, 0)] (pc' := 82) (lc' := [(4, (0, 0, y10)), (0, (2, 2, 0)), (1, (0, 0, x1)), (2, (0, 0, x2)), (3, (0, 0, x3))]) (st' := [(2, 1, (M12 0 7)), (0, 0, x2), (0, 0, x1), (2, 0, 13)]) (M' := M12) (C' := True) (by decide +kernel) rfl trivial ?_
            refine ax_cNm_r hX (G1 := gX0_write) (d1 := d + 5) (i := 145) (n := 3) (as := [(0, 0, x1), (0, 0, x2), (2, 1, (M12 0 7))]) (st := []) (c := 0) (a := 13) (by decide +kernel) ax_cls0 calX0_write (by omega) rfl wn_377 wt_379 ws_15 (Nat.le_of_ble_eq_true rfl) rfl (fun hY => c_X0_write d 13 x1 x2 (M12 0 7) M12 hY) (fun y13 h_y13 hX => ?_)
            refine ax_lump ax_layC ok_kX2 [(85, .pop, 1, 0, 0, 0), (86, .aload_n 0, 1, 0, 0, 0), (87, .getfield 16, 3, 2, 1, 0), (90, .ldc_w 279, 3, 0, 0, 1073741824), (93, .putfield 276, 3, 0, 12, 0)] (pc' := 96) (lc' := [(4, (0, 0, y10)), (0, (2, 2, 0)), (1, (0, 0, x1)), (2, (0, 0, x2)), (3, (0, 0, x3))]) (st' := []) (M' := (ax_up y13.2 13 12 1073741824)) (C' := True) (by decide +kernel) rfl trivial ?_
            refine ax_bdMe_s hX (fun M14 hM_M14 hX => ?_)
            refine ax_lump ax_layC ok_kX2 [(96, .iconst 0, 1, 0, 0, 0), (97, .istore 5, 2, 0, 0, 0), (99, .iconst 0, 1, 0, 0, 0), (100, .istore 6, 2, 0, 0, 0)] (pc' := 102) (lc' := [(6, (0, 0, 0)), (5, (0, 0, 0)), (4, (0, 0, y10)), (0, (2, 2, 0)), (1, (0, 0, x1)), (2, (0, 0, x2)), (3, (0, 0, x3))]) (st' := []) (M' := M14) (C' := True) (by decide +kernel) rfl trivial ?_
            refine ax_pk [3,4,2,1,0] (lc' := [(0, (2, 2, 0)), (1, (0, 0, x1)), (4, (0, 0, y10)), (5, (0, 0, 0)), (6, (0, 0, 0))]) rfl ?_
            refine w_X2_cuts_L102 d x1 y10 M14 _ (by omega) (fun z19 hx_19 hX => ?_) 24 0 0 (by omega) (by omega) hX
            refine ax_lump ax_layC ok_kX2 [(152, .aload_n 0, 1, 0, 0, 0)] (pc' := 153) (lc' := [(0, (2, 2, 0)), (1, (0, 0, x1)), (4, (0, 0, y10)), (5, (0, 0, z19))]) (st' := [(2, 2, 0)]) (M' := M14) (C' := True) (by decide +kernel) rfl trivial ?_
            refine ax_cVv_s hX (G1 := gX2_tellAnew) (d1 := d + 0) (i := 168) (n := 0) (as := []) (st := []) (c := 2) (a := 0) (by decide +kernel) ax_cls2 calX2_tellAnew (by omega) rfl wt_517 wt_519 ws_47 (Nat.le_of_ble_eq_true rfl) rfl (c_X2_tellAnew d  M14) (fun M20 hX => ?_)
            refine ax_lump ax_layC ok_kX2 [(156, .aload_n 0, 1, 0, 0, 0), (157, .iload 4, 2, 0, 0, 0), (159, .i2l, 1, 0, 0, 0)] (pc' := 160) (lc' := [(0, (2, 2, 0)), (1, (0, 0, x1)), (4, (0, 0, y10)), (5, (0, 0, z19))]) (st' := [(1, 0, y10), (2, 2, 0)]) (M' := M20) (C' := True) (by decide +kernel) rfl trivial ?_
            refine ax_cVv_s hX (G1 := gX2_tell) (d1 := d + 0) (i := 155) (n := 1) (as := [(1, 0, y10)]) (st := []) (c := 2) (a := 0) (by decide +kernel) ax_cls2 calX2_tell (by omega) rfl wt_521 wt_523 ws_48 (Nat.le_of_ble_eq_true rfl) rfl (c_X2_tell d y10 M20) (fun M21 hX => ?_)
            refine ax_lump ax_layC ok_kX2 [(163, .aload_n 0, 1, 0, 0, 0), (164, .iload 5, 2, 0, 0, 0), (166, .i2l, 1, 0, 0, 0)] (pc' := 167) (lc' := [(0, (2, 2, 0)), (1, (0, 0, x1)), (4, (0, 0, y10)), (5, (0, 0, z19))]) (st' := [(1, 0, z19), (2, 2, 0)]) (M' := M21) (C' := True) (by decide +kernel) rfl trivial ?_
            refine ax_cVv_s hX (G1 := gX2_tell) (d1 := d + 0) (i := 155) (n := 1) (as := [(1, 0, z19)]) (st := []) (c := 2) (a := 0) (by decide +kernel) ax_cls2 calX2_tell (by omega) rfl wt_521 wt_523 ws_48 (Nat.le_of_ble_eq_true rfl) rfl (c_X2_tell d z19 M21) (fun M22 hX => ?_)
            refine ax_lump ax_layC ok_kX2 [(170, .aload_n 0, 1, 0, 0, 0), (171, .getfield 16, 3, 2, 1, 0), (174, .iload_n 1, 1, 0, 0, 0)] (pc' := 175) (lc' := [(0, (2, 2, 0)), (1, (0, 0, x1)), (4, (0, 0, y10)), (5, (0, 0, z19))]) (st' := [(0, 0, x1), (2, 0, 13)]) (M' := M22) (C' := True) (by decide +kernel) rfl trivial ?_
            refine ax_cNi (G1 := gX0_valueOf) (d1 := d + 3) (i := 280) (n := 1) (as := [(0, 0, x1)]) (st := []) (c := 0) (a := 13) (by decide +kernel) ax_cls0 calX0_valueOf (by omega) rfl wn_690 wt_692 ws_61 (Nat.le_of_ble_eq_true rfl) rfl (c_X0_valueOf d 13 x1 M22) (fun hc23 => ?_)
            refine ax_rngS (fun hr => ?_)
            exact ax_iret (by decide +kernel) rfl ⟨rfl, rfl, hr.1, hr.2⟩
          · refine ax_lump ax_layC ok_kX2 [(27, .iconst (-1), 1, 0, 0, 0)] (pc' := 28) (lc' := [(0, (2, 2, 0)), (1, (0, 0, x1)), (2, (0, 0, x2)), (3, (0, 0, x3))]) (st' := [(0, 0, (-1))]) (M' := M) (C' := True) (by decide +kernel) rfl trivial ?_
            refine ax_rngS (fun hr => ?_)
            exact ax_iret (by decide +kernel) rfl ⟨rfl, rfl, hr.1, hr.2⟩
