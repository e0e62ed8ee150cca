def f_X3_does (x1 : Int) (M : ax_M) : Prop × Int × ax_M := ax_bd (M 15 x1.toNat) (fun y1 => (if (M 14 x1.toNat) = 0 then ax_rc (f_X3_sealsNow M) (fun y3 => (True, (y3.1, y3.2))) else (if (M 14 x1.toNat) = 1 then ax_rc (f_X3_levelsNow M) (fun y5 => (True, (y5.1, y5.2))) else (if (M 14 x1.toNat) = 2 then ax_bd (f_X3_coolsAll M) (fun y7 => (True, (y7.1, y7.2))) else (if (M 14 x1.toNat) = 3 then ax_rc (f_X3_mergesOf y1 M) (fun y9 => (True, (y9.1, y9.2))) else (if (M 14 x1.toNat) = 4 then ax_rc (f_X3_clearsOf y1 M) (fun y11 => (True, (y11.1, y11.2))) else (if (f_X3_isPage y1 M) = 0 then (True, ((-1), M)) else ax_rc (f_X3_writesOne 7 y1 (M 16 x1.toNat) M) (fun y14 => (True, (y14.1, y14.2))))))))))
set_option maxRecDepth 100000 in
set_option maxHeartbeats 4000000 in
theorem c_X3_does (d : Nat) (x1 : Int) (M : ax_M) (hp0 : 0 ≤ x1 ∧ x1 ≤ 79) (hX : (f_X3_does x1 M).1) : ax_Met ax_LM gX3_does (d + 9) [(2, 3, 0), (0, 0, x1)] M ((ax_qm (-4) 63) (f_X3_does x1 M).2) := by
  refine ax_body (by decide) (fun X => Nat.le_of_ble_eq_true rfl) (fun hok => ?_)
  have hr_x1 : (-2147483648) ≤ x1 ∧ x1 ≤ 2147483647 := hok (0, 0, x1) (by simp)
  show ax_W ax_LM gX3_does (d + 9) 0 [(0, (2, 3, 0)), (1, (0, 0, x1))] [] M _
  unfold f_X3_does at hX ⊢
  refine ax_lump ax_layM ok_kX3 [(0, .aload_n 0, 1, 0, 0, 0), (1, .getfield 162, 3, 3, 29, 0), (4, .iload_n 1, 1, 0, 0, 0), (5, .iaload, 1, 0, 0, 0), (6, .istore_n 2, 1, 0, 0, 0)] (pc' := 7) (lc' := [(2, (0, 0, (M 15 x1.toNat))), (0, (2, 3, 0)), (1, (0, 0, x1))]) (st' := []) (M' := M) (C' := (True ∧ (0 ≤ x1 ∧ x1 < ((80 : Nat) : Int)))) (by decide +kernel) rfl ⟨trivial, by omega⟩ ?_
  refine ax_bdI0_s hX (e := (M 15 x1.toNat)) (fun y1 => [(2, (0, 0, y1)), (0, (2, 3, 0)), (1, (0, 0, x1))]) (fun y1 => []) (fun y1 hX => ?_)
  refine ax_lump ax_layM ok_kX3 [(7, .aload_n 0, 1, 0, 0, 0), (8, .getfield 159, 3, 3, 28, 0), (11, .iload_n 1, 1, 0, 0, 0), (12, .iaload, 1, 0, 0, 0)] (pc' := 13) (lc' := [(2, (0, 0, y1)), (0, (2, 3, 0)), (1, (0, 0, x1))]) (st' := [(0, 0, (M 14 x1.toNat))]) (M' := M) (C' := (True ∧ (0 ≤ x1 ∧ x1 < ((80 : Nat) : Int)))) (by decide +kernel) rfl ⟨trivial, by omega⟩ ?_
  refine ax_ite_s hX (fun h2 hX => ?_) (fun h2 hX => ?_)
  · refine ax_swIn (dflt := 62) (lo := 0) (hi := 4) (off := 35) (offs := #[35, 40, 45, 50, 56]) (len := 35) (tgt := 48) (by decide +kernel) (by omega) (by omega) (by rw [h2]; rfl) (by decide) ?_
    refine ax_lump ax_layM ok_kX3 [(48, .aload_n 0, 1, 0, 0, 0)] (pc' := 49) (lc' := [(2, (0, 0, y1)), (0, (2, 3, 0)), (1, (0, 0, x1))]) (st' := [(2, 3, 0)]) (M' := M) (C' := True) (by decide +kernel) rfl trivial ?_
    refine ax_cVm_r hX (G1 := gX3_sealsNow) (d1 := d + 6) (i := 382) (n := 0) (as := []) (st := []) (c := 3) (a := 0) (by decide +kernel) ax_cls3 calX3_sealsNow (by omega) rfl wt_1292 wt_1294 ws_103 (Nat.le_of_ble_eq_true rfl) rfl (fun hY => c_X3_sealsNow d  M hY) (fun y3 h_y3 hX => ?_)
    exact ax_iret (by decide +kernel) rfl ⟨rfl, rfl, (show ((-4) : Int) ≤ y3.1 from by omega), (show y3.1 ≤ (63 : Int) from by omega)⟩
  · refine ax_ite_s hX (fun h4 hX => ?_) (fun h4 hX => ?_)
    · refine ax_swIn (dflt := 62) (lo := 0) (hi := 4) (off := 40) (offs := #[35, 40, 45, 50, 56]) (len := 35) (tgt := 53) (by decide +kernel) (by omega) (by omega) (by rw [h4]; rfl) (by decide) ?_
      refine ax_lump ax_layM ok_kX3 [(53, .aload_n 0, 1, 0, 0, 0)] (pc' := 54) (lc' := [(2, (0, 0, y1)), (0, (2, 3, 0)), (1, (0, 0, x1))]) (st' := [(2, 3, 0)]) (M' := M) (C' := True) (by decide +kernel) rfl trivial ?_
      refine ax_cVm_r hX (G1 := gX3_levelsNow) (d1 := d + 4) (i := 388) (n := 0) (as := []) (st := []) (c := 3) (a := 0) (by decide +kernel) ax_cls3 calX3_levelsNow (by omega) rfl wt_1308 wt_1310 ws_105 (Nat.le_of_ble_eq_true rfl) rfl (fun hY => c_X3_levelsNow d  M hY) (fun y5 h_y5 hX => ?_)
      exact ax_iret (by decide +kernel) rfl ⟨rfl, rfl, (show ((-4) : Int) ≤ y5.1 from by omega), (show y5.1 ≤ (63 : Int) from by omega)⟩
    · refine ax_ite_s hX (fun h6 hX => ?_) (fun h6 hX => ?_)
      · refine ax_swIn (dflt := 62) (lo := 0) (hi := 4) (off := 45) (offs := #[35, 40, 45, 50, 56]) (len := 35) (tgt := 58) (by decide +kernel) (by omega) (by omega) (by rw [h6]; rfl) (by decide) ?_
        refine ax_lump ax_layM ok_kX3 [(58, .aload_n 0, 1, 0, 0, 0)] (pc' := 59) (lc' := [(2, (0, 0, y1)), (0, (2, 3, 0)), (1, (0, 0, x1))]) (st' := [(2, 3, 0)]) (M' := M) (C' := True) (by decide +kernel) rfl trivial ?_
        refine ax_cVm_s hX (G1 := gX3_coolsAll) (d1 := d + 1) (i := 391) (n := 0) (as := []) (st := []) (c := 3) (a := 0) (by decide +kernel) ax_cls3 calX3_coolsAll (by omega) rfl wt_1316 wt_1318 ws_106 (Nat.le_of_ble_eq_true rfl) rfl (c_X3_coolsAll d  M) (fun y7 h_y7 hX => ?_)
        exact ax_iret (by decide +kernel) rfl ⟨rfl, rfl, (show ((-4) : Int) ≤ y7.1 from by omega), (show y7.1 ≤ (63 : Int) from by omega)⟩
      · refine ax_ite_s hX (fun h8 hX => ?_) (fun h8 hX => ?_)
        · refine ax_swIn (dflt := 62) (lo := 0) (hi := 4) (off := 50) (offs := #[35, 40, 45, 50, 56]) (len := 35) (tgt := 63) (by decide +kernel) (by omega) (by omega) (by rw [h8]; rfl) (by decide) ?_
          refine ax_lump ax_layM ok_kX3 [(63, .aload_n 0, 1, 0, 0, 0), (64, .iload_n 2, 1, 0, 0, 0)] (pc' := 65) (lc' := [(2, (0, 0, y1)), (0, (2, 3, 0)), (1, (0, 0, x1))]) (st' := [(0, 0, y1), (2, 3, 0)]) (M' := M) (C' := True) (by decide +kernel) rfl trivial ?_
          refine ax_cVm_r hX (G1 := gX3_mergesOf) (d1 := d + 5) (i := 377) (n := 1) (as := [(0, 0, y1)]) (st := []) (c := 3) (a := 0) (by decide +kernel) ax_cls3 calX3_mergesOf (by omega) rfl wt_1276 wt_1278 ws_101 (Nat.le_of_ble_eq_true rfl) rfl (fun hY => c_X3_mergesOf d y1 M hY) (fun y9 h_y9 hX => ?_)
          exact ax_iret (by decide +kernel) rfl ⟨rfl, rfl, (show ((-4) : Int) ≤ y9.1 from by omega), (show y9.1 ≤ (63 : Int) from by omega)⟩
        · refine ax_ite_s hX (fun h10 hX => ?_) (fun h10 hX => ?_)
          · refine ax_swIn (dflt := 62) (lo := 0) (hi := 4) (off := 56) (offs := #[35, 40, 45, 50, 56]) (len := 35) (tgt := 69) (by decide +kernel) (by omega) (by omega) (by rw [h10]; rfl) (by decide) ?_
            refine ax_lump ax_layM ok_kX3 [(69, .aload_n 0, 1, 0, 0, 0), (70, .iload_n 2, 1, 0, 0, 0)] (pc' := 71) (lc' := [(2, (0, 0, y1)), (0, (2, 3, 0)), (1, (0, 0, x1))]) (st' := [(0, 0, y1), (2, 3, 0)]) (M' := M) (C' := True) (by decide +kernel) rfl trivial ?_
            refine ax_cVm_r hX (G1 := gX3_clearsOf) (d1 := d + 6) (i := 385) (n := 1) (as := [(0, 0, y1)]) (st := []) (c := 3) (a := 0) (by decide +kernel) ax_cls3 calX3_clearsOf (by omega) rfl wt_1300 wt_1302 ws_104 (Nat.le_of_ble_eq_true rfl) rfl (fun hY => c_X3_clearsOf d y1 M hY) (fun y11 h_y11 hX => ?_)
            exact ax_iret (by decide +kernel) rfl ⟨rfl, rfl, (show ((-4) : Int) ≤ y11.1 from by omega), (show y11.1 ≤ (63 : Int) from by omega)⟩
          · refine ax_swOut (dflt := 62) (lo := 0) (hi := 4) (offs := #[35, 40, 45, 50, 56]) (len := 35) (tgt := 75) (by decide +kernel) (by omega) (by decide) ?_
            refine ax_lump ax_layM ok_kX3 [(75, .iload_n 2, 1, 0, 0, 0)] (pc' := 76) (lc' := [(2, (0, 0, y1)), (0, (2, 3, 0)), (1, (0, 0, x1))]) (st' := [(0, 0, y1)]) (M' := M) (C' := True) (by decide +kernel) rfl trivial ?_
            refine ax_cSi (G1 := gX3_isPage) (d1 := d + 1) (i := 349) (n := 1) (as := [(0, 0, y1)]) (st := []) (by decide +kernel) calX3_isPage (by omega) rfl wt_1131 wt_1132 (Nat.le_of_ble_eq_true rfl) rfl (c_X3_isPage d y1 M) (fun hc12 => ?_)
            refine ax_zeq_s hX (off := 21) (tgt := 100) (by decide +kernel) (by decide) (fun h13 hX => ?_) (fun h13 hX => ?_)
            · refine ax_lump ax_layM ok_kX3 [(100, .iconst (-1), 1, 0, 0, 0)] (pc' := 101) (lc' := [(2, (0, 0, y1)), (0, (2, 3, 0)), (1, (0, 0, x1))]) (st' := [(0, 0, (-1))]) (M' := M) (C' := True) (by decide +kernel) rfl trivial ?_
              exact ax_iret (by decide +kernel) rfl ⟨rfl, rfl, (show ((-4) : Int) ≤ (-1) from by omega), (show (-1) ≤ (63 : Int) from by omega)⟩
            · have hgh13 := g_X3_isPage h13
              refine ax_lump ax_layM ok_kX3 [(82, .aload_n 0, 1, 0, 0, 0), (83, .aload_n 0, 1, 0, 0, 0), (84, .getfield 138, 3, 3, 14, 0), (87, .iload_n 2, 1, 0, 0, 0), (88, .aload_n 0, 1, 0, 0, 0), (89, .getfield 165, 3, 3, 30, 0), (92, .iload_n 1, 1, 0, 0, 0), (93, .iaload, 1, 0, 0, 0)] (pc' := 94) (lc' := [(2, (0, 0, y1)), (0, (2, 3, 0)), (1, (0, 0, x1))]) (st' := [(0, 0, (M 16 x1.toNat)), (0, 0, y1), (3, 274, 7), (2, 3, 0)]) (M' := M) (C' := (True ∧ (0 ≤ x1 ∧ x1 < ((80 : Nat) : Int)))) (by decide +kernel) rfl ⟨trivial, by omega⟩ ?_
              refine ax_cVm_r hX (G1 := gX3_writesOne) (d1 := d + 8) (i := 361) (n := 3) (as := [(3, 274, 7), (0, 0, y1), (0, 0, (M 16 x1.toNat))]) (st := []) (c := 3) (a := 0) (by decide +kernel) ax_cls3 calX3_writesOne (by omega) rfl wt_1144 wt_1146 ws_83 (Nat.le_of_ble_eq_true rfl) rfl (fun hY => c_X3_writesOne d 7 y1 (M 16 x1.toNat) M (by omega) hY) (fun y14 h_y14 hX => ?_)
              refine ax_lump ax_layM ok_kX3 [(97, .goto 4, 3, 101, 0, 0)] (pc' := 101) (lc' := [(2, (0, 0, y1)), (0, (2, 3, 0)), (1, (0, 0, x1))]) (st' := [(0, 0, y14.1)]) (M' := y14.2) (C' := True) (by decide +kernel) rfl trivial ?_
              exact ax_iret (by decide +kernel) rfl ⟨rfl, rfl, (show ((-4) : Int) ≤ y14.1 from by omega), (show y14.1 ≤ (63 : Int) from by omega)⟩
def f_X3_copies_B18 (w1 : Int) (M : ax_M) (i : Nat) (v2 : Int) (kc : Int → Prop × Int × ax_M) (kx : Int → Prop × Int × ax_M) : Prop × Int × ax_M := (if (f_X3_pageAt 7 (i : Int) M) ≠ w1 then kc (v2 + (f_X3_flag 0 M)) else kc (v2 + (f_X3_flag 1 M)))
def f_X3_copies_L18 (w1 : Int) (M : ax_M) : Nat → Nat → Int → (Int → Prop × Int × ax_M) → Prop × Int × ax_M
  | 0, i, v2, kx => kx v2
  | n + 1, i, v2, kx => f_X3_copies_B18 w1 M i v2 (fun u2 => f_X3_copies_L18 w1 M n (i + 1) u2 kx) kx
set_option maxRecDepth 100000 in
set_option maxHeartbeats 4000000 in
theorem wb_X3_copies_B18 (d : Nat) (w1 : Int) (M : ax_M) (i : Nat) (v2 : Int) (kc : Int → Prop × Int × ax_M) (kx : Int → Prop × Int × ax_M) (hw_w1 : 0 ≤ w1 ∧ w1 ≤ 23) (hi : 0 ≤ i ∧ i < 64) (hv2 : 0 ≤ v2 ∧ v2 ≤ 0 + 1 * ((i : Int) - 0)) (hkc : ∀ (u2 : Int), 0 ≤ u2 ∧ u2 ≤ 0 + 1 * (((i : Int) + 1) - 0) → (kc u2).1 → ax_W ax_LM gX3_copies (d + 2) 18 [(0, (2, 3, 0)), (1, (0, 0, w1)), (2, (0, 0, u2)), (3, (0, 0, ((i : Int) + 1)))] [] M ((ax_qm (-1) 64) (kc u2).2)) (hkx : ∀ (x2 : Int), ((0 ≤ x2 ∧ x2 ≤ 64)) → (kx x2).1 → ax_W ax_LM gX3_copies (d + 2) 53 [(0, (2, 3, 0)), (1, (0, 0, w1)), (2, (0, 0, x2))] [] M ((ax_qm (-1) 64) (kx x2).2)) (hX : (f_X3_copies_B18 w1 M i v2 kc kx).1) : ax_W ax_LM gX3_copies (d + 2) 24 [(0, (2, 3, 0)), (1, (0, 0, w1)), (2, (0, 0, v2)), (3, (0, 0, (i : Int)))] [] M ((ax_qm (-1) 64) (f_X3_copies_B18 w1 M i v2 kc kx).2) := by
  unfold f_X3_copies_B18 at hX ⊢
  refine ax_lump ax_layM ok_kX3 [(24, .iload_n 2, 1, 0, 0, 0), (25, .aload_n 0, 1, 0, 0, 0), (26, .getfield 138, 3, 3, 14, 0), (29, .iload_n 3, 1, 0, 0, 0)] (pc' := 30) (lc' := [(0, (2, 3, 0)), (1, (0, 0, w1)), (2, (0, 0, v2)), (3, (0, 0, (i : Int)))]) (st' := [(0, 0, (i : Int)), (3, 274, 7), (0, 0, v2)]) (M' := M) (C' := True) (by decide +kernel) rfl trivial ?_
  refine ax_cSi (G1 := gX3_pageAt) (d1 := d + 0) (i := 188) (n := 2) (as := [(3, 274, 7), (0, 0, (i : Int))]) (st := [(0, 0, v2)]) (by decide +kernel) calX3_pageAt (by omega) rfl wt_1104 wt_1105 (Nat.le_of_ble_eq_true rfl) rfl (c_X3_pageAt d 7 (i : Int) M (by omega)) (fun hc4 => ?_)
  refine ax_lump ax_layM ok_kX3 [(33, .iload_n 1, 1, 0, 0, 0)] (pc' := 34) (lc' := [(0, (2, 3, 0)), (1, (0, 0, w1)), (2, (0, 0, v2)), (3, (0, 0, (i : Int)))]) (st' := [(0, 0, w1), (0, 0, (f_X3_pageAt 7 (i : Int) M)), (0, 0, v2)]) (M' := M) (C' := True) (by decide +kernel) rfl trivial ?_
  refine ax_jne_s hX (off := 7) (tgt := 41) (by decide +kernel) (by decide) (fun h5 hX => ?_) (fun h5 hX => ?_)
  · refine ax_lump ax_layM ok_kX3 [(41, .iconst 0, 1, 0, 0, 0)] (pc' := 42) (lc' := [(0, (2, 3, 0)), (1, (0, 0, w1)), (2, (0, 0, v2)), (3, (0, 0, (i : Int)))]) (st' := [(0, 0, 0), (0, 0, v2)]) (M' := M) (C' := True) (by decide +kernel) rfl trivial ?_
    refine ax_cSi (G1 := gX3_flag) (d1 := d + 0) (i := 44) (n := 1) (as := [(0, 0, 0)]) (st := [(0, 0, v2)]) (by decide +kernel) calX3_flag (by omega) rfl wt_904 wt_905 (Nat.le_of_ble_eq_true rfl) rfl (c_X3_flag d 0 M (by omega)) (fun hc6 => ?_)
    refine ax_lump ax_layM ok_kX3 [(45, .iadd, 1, 1, 0, 0), (46, .istore_n 2, 1, 0, 0, 0), (47, .iinc 3 1, 3, 1, 0, 0), (50, .goto (-32), 3, 18, 0, 0)] (pc' := 18) (lc' := [(3, (0, 0, ((i : Int) + 1))), (2, (0, 0, (v2 + (f_X3_flag 0 M)))), (0, (2, 3, 0)), (1, (0, 0, w1))]) (st' := []) (M' := M) (C' := ((True ∧ ax_r32 (v2 + (f_X3_flag 0 M))) ∧ ax_r32 ((i : Int) + 1))) (by decide +kernel) rfl ⟨⟨trivial, ⟨by omega, by omega⟩⟩, ⟨by omega, by omega⟩⟩ ?_
    refine ax_pk [2,3,1,0] (lc' := [(0, (2, 3, 0)), (1, (0, 0, w1)), (2, (0, 0, (v2 + (f_X3_flag 0 M)))), (3, (0, 0, ((i : Int) + 1)))]) rfl ?_
    exact hkc (v2 + (f_X3_flag 0 M)) (by omega) hX
  · refine ax_lump ax_layM ok_kX3 [(37, .iconst 1, 1, 0, 0, 0), (38, .goto 4, 3, 42, 0, 0)] (pc' := 42) (lc' := [(0, (2, 3, 0)), (1, (0, 0, w1)), (2, (0, 0, v2)), (3, (0, 0, (i : Int)))]) (st' := [(0, 0, 1), (0, 0, v2)]) (M' := M) (C' := True) (by decide +kernel) rfl trivial ?_
    refine ax_cSi (G1 := gX3_flag) (d1 := d + 0) (i := 44) (n := 1) (as := [(0, 0, 1)]) (st := [(0, 0, v2)]) (by decide +kernel) calX3_flag (by omega) rfl wt_904 wt_905 (Nat.le_of_ble_eq_true rfl) rfl (c_X3_flag d 1 M (by omega)) (fun hc7 => ?_)
    refine ax_lump ax_layM ok_kX3 [(45, .iadd, 1, 1, 0, 0), (46, .istore_n 2, 1, 0, 0, 0), (47, .iinc 3 1, 3, 1, 0, 0), (50, .goto (-32), 3, 18, 0, 0)] (pc' := 18) (lc' := [(3, (0, 0, ((i : Int) + 1))), (2, (0, 0, (v2 + (f_X3_flag 1 M)))), (0, (2, 3, 0)), (1, (0, 0, w1))]) (st' := []) (M' := M) (C' := ((True ∧ ax_r32 (v2 + (f_X3_flag 1 M))) ∧ ax_r32 ((i : Int) + 1))) (by decide +kernel) rfl ⟨⟨trivial, ⟨by omega, by omega⟩⟩, ⟨by omega, by omega⟩⟩ ?_
    refine ax_pk [2,3,1,0] (lc' := [(0, (2, 3, 0)), (1, (0, 0, w1)), (2, (0, 0, (v2 + (f_X3_flag 1 M)))), (3, (0, 0, ((i : Int) + 1)))]) rfl ?_
    exact hkc (v2 + (f_X3_flag 1 M)) (by omega) hX
set_option maxRecDepth 100000 in
set_option maxHeartbeats 4000000 in
theorem w_X3_copies_L18 (d : Nat) (w1 : Int) (M : ax_M) (kx : Int → Prop × Int × ax_M) (hw_w1 : 0 ≤ w1 ∧ w1 ≤ 23) (hkx : ∀ (x2 : Int), ((0 ≤ x2 ∧ x2 ≤ 64)) → (kx x2).1 → ax_W ax_LM gX3_copies (d + 2) 53 [(0, (2, 3, 0)), (1, (0, 0, w1)), (2, (0, 0, x2))] [] M ((ax_qm (-1) 64) (kx x2).2)) : ∀ (n : Nat) (i : Nat) (v2 : Int), 0 ≤ i ∧ i + n = 64 → 0 ≤ v2 ∧ v2 ≤ 0 + 1 * ((i : Int) - 0) → (f_X3_copies_L18 w1 M n i v2 kx).1 → ax_W ax_LM gX3_copies (d + 2) 18 [(0, (2, 3, 0)), (1, (0, 0, w1)), (2, (0, 0, v2)), (3, (0, 0, (i : Int)))] [] M ((ax_qm (-1) 64) (f_X3_copies_L18 w1 M n i v2 kx).2) := by
  intro n
  induction n with
  | zero =>
    intro i v2 hin hv2 hX
    refine ax_lump ax_layM ok_kX3 [(18, .iload_n 3, 1, 0, 0, 0), (19, .bipush 64, 2, 0, 0, 0)] (pc' := 21) (lc' := [(0, (2, 3, 0)), (1, (0, 0, w1)), (2, (0, 0, v2)), (3, (0, 0, (i : Int)))]) (st' := [(0, 0, 64), (0, 0, (i : Int))]) (M' := M) (C' := True) (by decide +kernel) rfl trivial ?_
    refine ax_icmp_ge (off := 32) (tgt := 53) (by decide +kernel) (by decide) (fun h => ?_) (fun h => ?_)
    · refine ax_pk [0,1,2] (lc' := [(0, (2, 3, 0)), (1, (0, 0, w1)), (2, (0, 0, v2))]) rfl ?_
      exact hkx v2 (by omega) hX
    · exfalso; omega
  | succ n ih =>
    intro i v2 hin hv2 hX
    refine ax_lump ax_layM ok_kX3 [(18, .iload_n 3, 1, 0, 0, 0), (19, .bipush 64, 2, 0, 0, 0)] (pc' := 21) (lc' := [(0, (2, 3, 0)), (1, (0, 0, w1)), (2, (0, 0, v2)), (3, (0, 0, (i : Int)))]) (st' := [(0, 0, 64), (0, 0, (i : Int))]) (M' := M) (C' := True) (by decide +kernel) rfl trivial ?_
    refine ax_icmp_ge (off := 32) (tgt := 53) (by decide +kernel) (by decide) (fun h => ?_) (fun h => ?_)
    · exfalso; omega
    · exact wb_X3_copies_B18 d w1 M i v2 _ kx hw_w1 (by omega) hv2 (fun u2 hu2 hX => ih (i + 1) u2 (by omega) (by omega) hX) hkx hX
def f_X3_copies_B60 (w1 : Int) (w2 : Int) (i : Int)  (M : ax_M) (kc : ax_M → Prop × Int × ax_M) (kx : ax_M → Prop × Int × ax_M) : Prop × Int × ax_M := (if 12 ≤ i then kx M else ax_rc (f_X3_enters (f_X3_copyOf w1 i M) M) (fun M12 => kc M12))
def f_X3_copies_L60 (w1 : Int) (w2 : Int) : Nat → Int → ax_M → (ax_M → Prop × Int × ax_M) → Prop × Int × ax_M
  | 0, i, M, kx => kx M
  | n + 1, i, M, kx => f_X3_copies_B60 w1 w2 i  M (fun M9 => f_X3_copies_L60 w1 w2 n (i + 1) M9 kx) kx
set_option maxRecDepth 100000 in
set_option maxHeartbeats 4000000 in
theorem wb_X3_copies_B60 (d : Nat) (w1 : Int) (w2 : Int) (i : Int)  (M : ax_M) (kc : ax_M → Prop × Int × ax_M) (kx : ax_M → Prop × Int × ax_M) (hw_w1 : 0 ≤ w1 ∧ w1 ≤ 23) (hw_w2 : 0 ≤ w2 ∧ w2 ≤ 64) (hi : 0 ≤ i ∧ i < w2)  (hkc : ∀ (M9 : ax_M), (kc M9).1 → ax_W ax_LM gX3_copies (d + 2) 60 [(0, (2, 3, 0)), (1, (0, 0, w1)), (2, (0, 0, w2)), (3, (0, 0, (i + 1)))] [] M9 ((ax_qm (-1) 64) (kc M9).2)) (hkx : ∀ (M9 : ax_M), (True) → (kx M9).1 → ax_W ax_LM gX3_copies (d + 2) 88 [(2, (0, 0, w2))] [] M9 ((ax_qm (-1) 64) (kx M9).2)) (hX : (f_X3_copies_B60 w1 w2 i  M kc kx).1) : ax_W ax_LM gX3_copies (d + 2) 65 [(0, (2, 3, 0)), (1, (0, 0, w1)), (2, (0, 0, w2)), (3, (0, 0, i))] [] M ((ax_qm (-1) 64) (f_X3_copies_B60 w1 w2 i  M kc kx).2) := by
  unfold f_X3_copies_B60 at hX ⊢
  refine ax_lump ax_layM ok_kX3 [(65, .iload_n 3, 1, 0, 0, 0), (66, .bipush 12, 2, 0, 0, 0)] (pc' := 68) (lc' := [(0, (2, 3, 0)), (1, (0, 0, w1)), (2, (0, 0, w2)), (3, (0, 0, i))]) (st' := [(0, 0, 12), (0, 0, i)]) (M' := M) (C' := True) (by decide +kernel) rfl trivial ?_
  refine ax_jge_s hX (off := 20) (tgt := 88) (by decide +kernel) (by decide) (fun h10 hX => ?_) (fun h10 hX => ?_)
  · refine ax_pk [2] (lc' := [(2, (0, 0, w2))]) rfl ?_
    exact hkx M trivial hX
  · refine ax_lump ax_layM ok_kX3 [(71, .aload_n 0, 1, 0, 0, 0), (72, .aload_n 0, 1, 0, 0, 0), (73, .iload_n 1, 1, 0, 0, 0), (74, .iload_n 3, 1, 0, 0, 0)] (pc' := 75) (lc' := [(0, (2, 3, 0)), (1, (0, 0, w1)), (2, (0, 0, w2)), (3, (0, 0, i))]) (st' := [(0, 0, i), (0, 0, w1), (2, 3, 0), (2, 3, 0)]) (M' := M) (C' := True) (by decide +kernel) rfl trivial ?_
    refine ax_cVi (G1 := gX3_copyOf) (d1 := d + 1) (i := 413) (n := 2) (as := [(0, 0, w1), (0, 0, i)]) (st := [(2, 3, 0)]) (c := 3) (a := 0) (by decide +kernel) ax_cls3 calX3_copyOf (by omega) rfl wt_1351 wt_1353 ws_111 (Nat.le_of_ble_eq_true rfl) rfl (c_X3_copyOf d w1 i M) (fun hc11 => ?_)
    refine ax_lump ax_layM ok_kX3 [(78, .i2l, 1, 0, 0, 0)] (pc' := 79) (lc' := [(0, (2, 3, 0)), (1, (0, 0, w1)), (2, (0, 0, w2)), (3, (0, 0, i))]) (st' := [(1, 0, (f_X3_copyOf w1 i M)), (2, 3, 0)]) (M' := M) (C' := True) (by decide +kernel) rfl trivial ?_
    refine ax_cVv_r hX (G1 := gX3_enters) (d1 := d + 0) (i := 345) (n := 1) (as := [(1, 0, (f_X3_copyOf w1 i M))]) (st := []) (c := 3) (a := 0) (by decide +kernel) ax_cls3 calX3_enters (by omega) rfl wt_1256 wt_1258 ws_98 (Nat.le_of_ble_eq_true rfl) rfl (fun hY => c_X3_enters d (f_X3_copyOf w1 i M) M hY) (fun M12 hX => ?_)
    refine ax_lump ax_layM ok_kX3 [(82, .iinc 3 1, 3, 1, 0, 0), (85, .goto (-25), 3, 60, 0, 0)] (pc' := 60) (lc' := [(3, (0, 0, (i + 1))), (0, (2, 3, 0)), (1, (0, 0, w1)), (2, (0, 0, w2))]) (st' := []) (M' := M12) (C' := (True ∧ ax_r32 (i + 1))) (by decide +kernel) rfl ⟨trivial, ⟨by omega, by omega⟩⟩ ?_
    refine ax_pk [1,2,3,0] (lc' := [(0, (2, 3, 0)), (1, (0, 0, w1)), (2, (0, 0, w2)), (3, (0, 0, (i + 1)))]) rfl ?_
    exact hkc M12  hX
set_option maxRecDepth 100000 in
set_option maxHeartbeats 4000000 in
theorem w_X3_copies_L60 (d : Nat) (w1 : Int) (w2 : Int) (kx : ax_M → Prop × Int × ax_M) (hw_w1 : 0 ≤ w1 ∧ w1 ≤ 23) (hw_w2 : 0 ≤ w2 ∧ w2 ≤ 64) (hkx : ∀ (M9 : ax_M), (True) → (kx M9).1 → ax_W ax_LM gX3_copies (d + 2) 88 [(2, (0, 0, w2))] [] M9 ((ax_qm (-1) 64) (kx M9).2)) : ∀ (n : Nat) (i : Int) (M : ax_M), 0 ≤ i ∧ n = (w2 - i).toNat → (f_X3_copies_L60 w1 w2 n i  M kx).1 → ax_W ax_LM gX3_copies (d + 2) 60 [(0, (2, 3, 0)), (1, (0, 0, w1)), (2, (0, 0, w2)), (3, (0, 0, i))] [] M ((ax_qm (-1) 64) (f_X3_copies_L60 w1 w2 n i  M kx).2) := by
  intro n
  induction n with
  | zero =>
    intro i M hin hX
    refine ax_lump ax_layM ok_kX3 [(60, .iload_n 3, 1, 0, 0, 0), (61, .iload_n 2, 1, 0, 0, 0)] (pc' := 62) (lc' := [(0, (2, 3, 0)), (1, (0, 0, w1)), (2, (0, 0, w2)), (3, (0, 0, i))]) (st' := [(0, 0, w2), (0, 0, i)]) (M' := M) (C' := True) (by decide +kernel) rfl trivial ?_
    refine ax_icmp_ge (off := 26) (tgt := 88) (by decide +kernel) (by decide) (fun h => ?_) (fun h => ?_)
    · refine ax_pk [2] (lc' := [(2, (0, 0, w2))]) rfl ?_
      exact hkx M trivial hX
    · exfalso; omega
  | succ n ih =>
    intro i M hin hX
    refine ax_lump ax_layM ok_kX3 [(60, .iload_n 3, 1, 0, 0, 0), (61, .iload_n 2, 1, 0, 0, 0)] (pc' := 62) (lc' := [(0, (2, 3, 0)), (1, (0, 0, w1)), (2, (0, 0, w2)), (3, (0, 0, i))]) (st' := [(0, 0, w2), (0, 0, i)]) (M' := M) (C' := True) (by decide +kernel) rfl trivial ?_
    refine ax_icmp_ge (off := 26) (tgt := 88) (by decide +kernel) (by decide) (fun h => ?_) (fun h => ?_)
    · exfalso; omega
    · exact wb_X3_copies_B60 d w1 w2 i  M _ kx hw_w1 hw_w2 (by omega)  (fun M9 hX => ih (i + 1)  M9 (by omega)  hX) hkx hX
def f_X3_copies (x1 : Int) (M : ax_M) : Prop × Int × ax_M := ax_bd (ax_up M 0 0 0) (fun M1 => (if (f_X3_isPage x1 M1) ≠ 0 then f_X3_copies_L18 x1 M1 64 0 0 (fun z8 => ax_bd (ax_up M1 0 1 0) (fun M9 => f_X3_copies_L60 x1 z8 (z8 - 0).toNat 0  M9 (fun M13 => (True, (z8, M13))))) else (True, ((-1), M1))))
set_option maxRecDepth 100000 in
set_option maxHeartbeats 4000000 in
theorem c_X3_copies (d : Nat) (x1 : Int) (M : ax_M)  (hX : (f_X3_copies x1 M).1) : ax_Met ax_LM gX3_copies (d + 2) [(2, 3, 0), (0, 0, x1)] M ((ax_qm (-1) 64) (f_X3_copies x1 M).2) := by
  refine ax_body (by decide) (fun X => Nat.le_of_ble_eq_true rfl) (fun hok => ?_)
  have hr_x1 : (-2147483648) ≤ x1 ∧ x1 ≤ 2147483647 := hok (0, 0, x1) (by simp)
  show ax_W ax_LM gX3_copies (d + 2) 0 [(0, (2, 3, 0)), (1, (0, 0, x1))] [] M _
  unfold f_X3_copies at hX ⊢
  refine ax_lump ax_layM ok_kX3 [(0, .aload_n 0, 1, 0, 0, 0), (1, .iconst 0, 1, 0, 0, 0), (2, .putfield 3, 3, 3, 0, 0)] (pc' := 5) (lc' := [(0, (2, 3, 0)), (1, (0, 0, x1))]) (st' := []) (M' := (ax_up M 0 0 0)) (C' := (True ∧ (0 ≤ 0 ∧ 0 < ((2 : Nat) : Int)))) (by decide +kernel) rfl ⟨trivial, by omega⟩ ?_
  refine ax_bdMe_s hX (fun M1 hM_M1 hX => ?_)
  refine ax_lump ax_layM ok_kX3 [(5, .iload_n 1, 1, 0, 0, 0)] (pc' := 6) (lc' := [(0, (2, 3, 0)), (1, (0, 0, x1))]) (st' := [(0, 0, x1)]) (M' := M1) (C' := True) (by decide +kernel) rfl trivial ?_
  refine ax_cSi (G1 := gX3_isPage) (d1 := d + 1) (i := 349) (n := 1) (as := [(0, 0, x1)]) (st := []) (by decide +kernel) calX3_isPage (by omega) rfl wt_1131 wt_1132 (Nat.le_of_ble_eq_true rfl) rfl (c_X3_isPage d x1 M1) (fun hc2 => ?_)
  refine ax_zne_s hX (off := 5) (tgt := 14) (by decide +kernel) (by decide) (fun h3 hX => ?_) (fun h3 hX => ?_)
  · have hgh3 := g_X3_isPage h3
    refine ax_lump ax_layM ok_kX3 [(14, .iconst 0, 1, 0, 0, 0), (15, .istore_n 2, 1, 0, 0, 0), (16, .iconst 0, 1, 0, 0, 0), (17, .istore_n 3, 1, 0, 0, 0)] (pc' := 18) (lc' := [(3, (0, 0, 0)), (2, (0, 0, 0)), (0, (2, 3, 0)), (1, (0, 0, x1))]) (st' := []) (M' := M1) (C' := True) (by decide +kernel) rfl trivial ?_
    refine ax_pk [2,3,1,0] (lc' := [(0, (2, 3, 0)), (1, (0, 0, x1)), (2, (0, 0, 0)), (3, (0, 0, 0))]) rfl ?_
    refine w_X3_copies_L18 d x1 M1 _ (by omega) (fun z8 hx_8 hX => ?_) 64 0 0 (by omega) (by omega) hX
    refine ax_lump ax_layM ok_kX3 [(53, .aload_n 0, 1, 0, 0, 0), (54, .iconst 0, 1, 0, 0, 0), (55, .putfield 15, 3, 3, 1, 0)] (pc' := 58) (lc' := [(0, (2, 3, 0)), (1, (0, 0, x1)), (2, (0, 0, z8))]) (st' := []) (M' := (ax_up M1 0 1 0)) (C' := (True ∧ (0 ≤ 0 ∧ 0 < ((25 : Nat) : Int)))) (by decide +kernel) rfl ⟨trivial, by omega⟩ ?_
    refine ax_bdMe_s hX (fun M9 hM_M9 hX => ?_)
    refine ax_lump ax_layM ok_kX3 [(58, .iconst 0, 1, 0, 0, 0), (59, .istore_n 3, 1, 0, 0, 0)] (pc' := 60) (lc' := [(3, (0, 0, 0)), (0, (2, 3, 0)), (1, (0, 0, x1)), (2, (0, 0, z8))]) (st' := []) (M' := M9) (C' := True) (by decide +kernel) rfl trivial ?_
    refine ax_pk [1,2,3,0] (lc' := [(0, (2, 3, 0)), (1, (0, 0, x1)), (2, (0, 0, z8)), (3, (0, 0, 0))]) rfl ?_
    refine w_X3_copies_L60 d x1 z8 _ (by omega) (by omega) (fun M13 hx_13 hX => ?_) (z8 - 0).toNat 0  M9 (by omega)  hX
    refine ax_lump ax_layM ok_kX3 [(88, .iload_n 2, 1, 0, 0, 0)] (pc' := 89) (lc' := [(2, (0, 0, z8))]) (st' := [(0, 0, z8)]) (M' := M13) (C' := True) (by decide +kernel) rfl trivial ?_
    exact ax_iret (by decide +kernel) rfl ⟨rfl, rfl, (show ((-1) : Int) ≤ z8 from by omega), (show z8 ≤ (64 : Int) from by omega)⟩
  · refine ax_lump ax_layM ok_kX3 [(12, .iconst (-1), 1, 0, 0, 0)] (pc' := 13) (lc' := [(0, (2, 3, 0)), (1, (0, 0, x1))]) (st' := [(0, 0, (-1))]) (M' := M1) (C' := True) (by decide +kernel) rfl trivial ?_
    exact ax_iret (by decide +kernel) rfl ⟨rfl, rfl, (show ((-1) : Int) ≤ (-1) from by omega), (show (-1) ≤ (64 : Int) from by omega)⟩
def f_X3_hot_B11  (M : ax_M) (i : Nat) (v1 : Int) (v2 : Int) (kc : Int → Int → Prop × Int × ax_M) (kx : Int → Int → Prop × Int × ax_M) : Prop × Int × ax_M := (if (f_X3_isHot 7 (i : Int) M) = 0 then ax_bd (ax_or v1 0) (fun y4 => (if (M 7 (240 + (i : Int)).toNat) ≤ (M 7 (240 + v2).toNat) then kc y4 v2 else kc y4 (i : Int))) else ax_bd (ax_or v1 (ax_shl 1 (i : Int))) (fun y6 => (if (M 7 (240 + (i : Int)).toNat) ≤ (M 7 (240 + v2).toNat) then kc y6 v2 else kc y6 (i : Int))))
def f_X3_hot_L11  (M : ax_M) : Nat → Nat → Int → Int → (Int → Int → Prop × Int × ax_M) → Prop × Int × ax_M
  | 0, i, v1, v2, kx => kx v1 v2
  | n + 1, i, v1, v2, kx => f_X3_hot_B11  M i v1 v2 (fun u1 u2 => f_X3_hot_L11  M n (i + 1) u1 u2 kx) kx
set_option maxRecDepth 100000 in
set_option maxHeartbeats 4000000 in
theorem wb_X3_hot_B11 (d : Nat)  (M : ax_M) (i : Nat) (v1 : Int) (v2 : Int) (kc : Int → Int → Prop × Int × ax_M) (kx : Int → Int → Prop × Int × ax_M)  (hi : 0 ≤ i ∧ i < 24) (hv2 : 0 ≤ v2 ∧ v2 ≤ 23) (hkc : ∀ (u1 : Int) (u2 : Int), 0 ≤ u2 ∧ u2 ≤ 23 → (kc u1 u2).1 → ax_W ax_LM gX3_hot (d + 1) 11 [(0, (2, 3, 0)), (1, (0, 0, u1)), (2, (0, 0, u2)), (3, (0, 0, ((i : Int) + 1)))] [] M ((ax_qm (-2147483648) 2147483647) (kc u1 u2).2)) (hkx : ∀ (x1 : Int) (x2 : Int), ((0 ≤ x2 ∧ x2 ≤ 23)) → (kx x1 x2).1 → ax_W ax_LM gX3_hot (d + 1) 73 [(0, (2, 3, 0)), (1, (0, 0, x1)), (2, (0, 0, x2))] [] M ((ax_qm (-2147483648) 2147483647) (kx x1 x2).2)) (hX : (f_X3_hot_B11  M i v1 v2 kc kx).1) : ax_W ax_LM gX3_hot (d + 1) 17 [(0, (2, 3, 0)), (1, (0, 0, v1)), (2, (0, 0, v2)), (3, (0, 0, (i : Int)))] [] M ((ax_qm (-2147483648) 2147483647) (f_X3_hot_B11  M i v1 v2 kc kx).2) := by
  unfold f_X3_hot_B11 at hX ⊢
  refine ax_lump ax_layM ok_kX3 [(17, .iload_n 1, 1, 0, 0, 0), (18, .aload_n 0, 1, 0, 0, 0), (19, .getfield 138, 3, 3, 14, 0), (22, .iload_n 3, 1, 0, 0, 0)] (pc' := 23) (lc' := [(0, (2, 3, 0)), (1, (0, 0, v1)), (2, (0, 0, v2)), (3, (0, 0, (i : Int)))]) (st' := [(0, 0, (i : Int)), (3, 274, 7), (0, 0, v1)]) (M' := M) (C' := True) (by decide +kernel) rfl trivial ?_
  refine ax_cSi (G1 := gX3_isHot) (d1 := d + 0) (i := 282) (n := 2) (as := [(3, 274, 7), (0, 0, (i : Int))]) (st := [(0, 0, v1)]) (by decide +kernel) calX3_isHot (by omega) rfl wt_1206 wt_1207 (Nat.le_of_ble_eq_true rfl) rfl (c_X3_isHot d 7 (i : Int) M (by omega)) (fun hc2 => ?_)
  refine ax_zeq_s hX (off := 9) (tgt := 35) (by decide +kernel) (by decide) (fun h3 hX => ?_) (fun h3 hX => ?_)
  · refine ax_lump ax_layM ok_kX3 [(35, .iconst 0, 1, 0, 0, 0), (36, .ior, 1, 0, 0, 0), (37, .istore_n 1, 1, 0, 0, 0)] (pc' := 38) (lc' := [(1, (0, 0, (ax_or v1 0))), (0, (2, 3, 0)), (2, (0, 0, v2)), (3, (0, 0, (i : Int)))]) (st' := []) (M' := M) (C' := True) (by decide +kernel) rfl trivial ?_
    refine ax_bdI0_s hX (e := (ax_or v1 0)) (fun y4 => [(1, (0, 0, y4)), (0, (2, 3, 0)), (2, (0, 0, v2)), (3, (0, 0, (i : Int)))]) (fun y4 => []) (fun y4 hX => ?_)
    refine ax_lump ax_layM ok_kX3 [(38, .aload_n 0, 1, 0, 0, 0), (39, .getfield 138, 3, 3, 14, 0), (42, .sipush 240, 3, 0, 0, 0), (45, .iload_n 3, 1, 0, 0, 0), (46, .iadd, 1, 1, 0, 0), (47, .iaload, 1, 0, 0, 0), (48, .aload_n 0, 1, 0, 0, 0), (49, .getfield 138, 3, 3, 14, 0), (52, .sipush 240, 3, 0, 0, 0), (55, .iload_n 2, 1, 0, 0, 0), (56, .iadd, 1, 1, 0, 0), (57, .iaload, 1, 0, 0, 0)] (pc' := 58) (lc' := [(1, (0, 0, y4)), (0, (2, 3, 0)), (2, (0, 0, v2)), (3, (0, 0, (i : Int)))]) (st' := [(0, 0, (M 7 (240 + v2).toNat)), (0, 0, (M 7 (240 + (i : Int)).toNat))]) (M' := M) (C' := ((((True ∧ ax_r32 (240 + (i : Int))) ∧ (0 ≤ (240 + (i : Int)) ∧ (240 + (i : Int)) < ((274 : Nat) : Int))) ∧ ax_r32 (240 + v2)) ∧ (0 ≤ (240 + v2) ∧ (240 + v2) < ((274 : Nat) : Int)))) (by decide +kernel) rfl ⟨⟨⟨⟨trivial, ⟨by omega, by omega⟩⟩, by omega⟩, ⟨by omega, by omega⟩⟩, by omega⟩ ?_
    refine ax_jle_s hX (off := 7) (tgt := 65) (by decide +kernel) (by decide) (fun h5 hX => ?_) (fun h5 hX => ?_)
    · refine ax_lump ax_layM ok_kX3 [(65, .iload_n 2, 1, 0, 0, 0), (66, .istore_n 2, 1, 0, 0, 0), (67, .iinc 3 1, 3, 1, 0, 0), (70, .goto (-59), 3, 11, 0, 0)] (pc' := 11) (lc' := [(3, (0, 0, ((i : Int) + 1))), (2, (0, 0, v2)), (1, (0, 0, y4)), (0, (2, 3, 0))]) (st' := []) (M' := M) (C' := (True ∧ ax_r32 ((i : Int) + 1))) (by decide +kernel) rfl ⟨trivial, ⟨by omega, by omega⟩⟩ ?_
      refine ax_pk [3,2,1,0] (lc' := [(0, (2, 3, 0)), (1, (0, 0, y4)), (2, (0, 0, v2)), (3, (0, 0, ((i : Int) + 1)))]) rfl ?_
      exact hkc y4 v2 (by omega) hX
    · refine ax_lump ax_layM ok_kX3 [(61, .iload_n 3, 1, 0, 0, 0), (62, .goto 4, 3, 66, 0, 0), (66, .istore_n 2, 1, 0, 0, 0), (67, .iinc 3 1, 3, 1, 0, 0), (70, .goto (-59), 3, 11, 0, 0)] (pc' := 11) (lc' := [(3, (0, 0, ((i : Int) + 1))), (2, (0, 0, (i : Int))), (1, (0, 0, y4)), (0, (2, 3, 0))]) (st' := []) (M' := M) (C' := (True ∧ ax_r32 ((i : Int) + 1))) (by decide +kernel) rfl ⟨trivial, ⟨by omega, by omega⟩⟩ ?_
      refine ax_pk [3,2,1,0] (lc' := [(0, (2, 3, 0)), (1, (0, 0, y4)), (2, (0, 0, (i : Int))), (3, (0, 0, ((i : Int) + 1)))]) rfl ?_
      exact hkc y4 (i : Int) (by omega) hX
  · refine ax_lump ax_layM ok_kX3 [(29, .iconst 1, 1, 0, 0, 0), (30, .iload_n 3, 1, 0, 0, 0), (31, .ishl, 1, 0, 0, 0), (32, .goto 4, 3, 36, 0, 0), (36, .ior, 1, 0, 0, 0), (37, .istore_n 1, 1, 0, 0, 0)] (pc' := 38) (lc' := [(1, (0, 0, (ax_or v1 (ax_shl 1 (i : Int))))), (0, (2, 3, 0)), (2, (0, 0, v2)), (3, (0, 0, (i : Int)))]) (st' := []) (M' := M) (C' := True) (by decide +kernel) rfl trivial ?_
    refine ax_bdI0_s hX (e := (ax_or v1 (ax_shl 1 (i : Int)))) (fun y6 => [(1, (0, 0, y6)), (0, (2, 3, 0)), (2, (0, 0, v2)), (3, (0, 0, (i : Int)))]) (fun y6 => []) (fun y6 hX => ?_)
    refine ax_lump ax_layM ok_kX3 [(38, .aload_n 0, 1, 0, 0, 0), (39, .getfield 138, 3, 3, 14, 0), (42, .sipush 240, 3, 0, 0, 0), (45, .iload_n 3, 1, 0, 0, 0), (46, .iadd, 1, 1, 0, 0), (47, .iaload, 1, 0, 0, 0), (48, .aload_n 0, 1, 0, 0, 0), (49, .getfield 138, 3, 3, 14, 0), (52, .sipush 240, 3, 0, 0, 0), (55, .iload_n 2, 1, 0, 0, 0), (56, .iadd, 1, 1, 0, 0), (57, .iaload, 1, 0, 0, 0)] (pc' := 58) (lc' := [(1, (0, 0, y6)), (0, (2, 3, 0)), (2, (0, 0, v2)), (3, (0, 0, (i : Int)))]) (st' := [(0, 0, (M 7 (240 + v2).toNat)), (0, 0, (M 7 (240 + (i : Int)).toNat))]) (M' := M) (C' := ((((True ∧ ax_r32 (240 + (i : Int))) ∧ (0 ≤ (240 + (i : Int)) ∧ (240 + (i : Int)) < ((274 : Nat) : Int))) ∧ ax_r32 (240 + v2)) ∧ (0 ≤ (240 + v2) ∧ (240 + v2) < ((274 : Nat) : Int)))) (by decide +kernel) rfl ⟨⟨⟨⟨trivial, ⟨by omega, by omega⟩⟩, by omega⟩, ⟨by omega, by omega⟩⟩, by omega⟩ ?_
    refine ax_jle_s hX (off := 7) (tgt := 65) (by decide +kernel) (by decide) (fun h7 hX => ?_) (fun h7 hX => ?_)
    · refine ax_lump ax_layM ok_kX3 [(65, .iload_n 2, 1, 0, 0, 0), (66, .istore_n 2, 1, 0, 0, 0), (67, .iinc 3 1, 3, 1, 0, 0), (70, .goto (-59), 3, 11, 0, 0)] (pc' := 11) (lc' := [(3, (0, 0, ((i : Int) + 1))), (2, (0, 0, v2)), (1, (0, 0, y6)), (0, (2, 3, 0))]) (st' := []) (M' := M) (C' := (True ∧ ax_r32 ((i : Int) + 1))) (by decide +kernel) rfl ⟨trivial, ⟨by omega, by omega⟩⟩ ?_
      refine ax_pk [3,2,1,0] (lc' := [(0, (2, 3, 0)), (1, (0, 0, y6)), (2, (0, 0, v2)), (3, (0, 0, ((i : Int) + 1)))]) rfl ?_
      exact hkc y6 v2 (by omega) hX
    · refine ax_lump ax_layM ok_kX3 [(61, .iload_n 3, 1, 0, 0, 0), (62, .goto 4, 3, 66, 0, 0), (66, .istore_n 2, 1, 0, 0, 0), (67, .iinc 3 1, 3, 1, 0, 0), (70, .goto (-59), 3, 11, 0, 0)] (pc' := 11) (lc' := [(3, (0, 0, ((i : Int) + 1))), (2, (0, 0, (i : Int))), (1, (0, 0, y6)), (0, (2, 3, 0))]) (st' := []) (M' := M) (C' := (True ∧ ax_r32 ((i : Int) + 1))) (by decide +kernel) rfl ⟨trivial, ⟨by omega, by omega⟩⟩ ?_
      refine ax_pk [3,2,1,0] (lc' := [(0, (2, 3, 0)), (1, (0, 0, y6)), (2, (0, 0, (i : Int))), (3, (0, 0, ((i : Int) + 1)))]) rfl ?_
      exact hkc y6 (i : Int) (by omega) hX
set_option maxRecDepth 100000 in
set_option maxHeartbeats 4000000 in
theorem w_X3_hot_L11 (d : Nat)  (M : ax_M) (kx : Int → Int → Prop × Int × ax_M)  (hkx : ∀ (x1 : Int) (x2 : Int), ((0 ≤ x2 ∧ x2 ≤ 23)) → (kx x1 x2).1 → ax_W ax_LM gX3_hot (d + 1) 73 [(0, (2, 3, 0)), (1, (0, 0, x1)), (2, (0, 0, x2))] [] M ((ax_qm (-2147483648) 2147483647) (kx x1 x2).2)) : ∀ (n : Nat) (i : Nat) (v1 : Int) (v2 : Int), 0 ≤ i ∧ i + n = 24 → 0 ≤ v2 ∧ v2 ≤ 23 → (f_X3_hot_L11  M n i v1 v2 kx).1 → ax_W ax_LM gX3_hot (d + 1) 11 [(0, (2, 3, 0)), (1, (0, 0, v1)), (2, (0, 0, v2)), (3, (0, 0, (i : Int)))] [] M ((ax_qm (-2147483648) 2147483647) (f_X3_hot_L11  M n i v1 v2 kx).2) := by
  intro n
  induction n with
  | zero =>
    intro i v1 v2 hin hv2 hX
    refine ax_lump ax_layM ok_kX3 [(11, .iload_n 3, 1, 0, 0, 0), (12, .bipush 24, 2, 0, 0, 0)] (pc' := 14) (lc' := [(0, (2, 3, 0)), (1, (0, 0, v1)), (2, (0, 0, v2)), (3, (0, 0, (i : Int)))]) (st' := [(0, 0, 24), (0, 0, (i : Int))]) (M' := M) (C' := True) (by decide +kernel) rfl trivial ?_
    refine ax_icmp_ge (off := 59) (tgt := 73) (by decide +kernel) (by decide) (fun h => ?_) (fun h => ?_)
    · refine ax_pk [0,1,2] (lc' := [(0, (2, 3, 0)), (1, (0, 0, v1)), (2, (0, 0, v2))]) rfl ?_
      exact hkx v1 v2 (by omega) hX
    · exfalso; omega
  | succ n ih =>
    intro i v1 v2 hin hv2 hX
    refine ax_lump ax_layM ok_kX3 [(11, .iload_n 3, 1, 0, 0, 0), (12, .bipush 24, 2, 0, 0, 0)] (pc' := 14) (lc' := [(0, (2, 3, 0)), (1, (0, 0, v1)), (2, (0, 0, v2)), (3, (0, 0, (i : Int)))]) (st' := [(0, 0, 24), (0, 0, (i : Int))]) (M' := M) (C' := True) (by decide +kernel) rfl trivial ?_
    refine ax_icmp_ge (off := 59) (tgt := 73) (by decide +kernel) (by decide) (fun h => ?_) (fun h => ?_)
    · exfalso; omega
    · exact wb_X3_hot_B11 d  M i v1 v2 _ kx  (by omega) hv2 (fun u1 u2 hu2 hX => ih (i + 1) u1 u2 (by omega) hu2 hX) hkx hX
def f_X3_hot  (M : ax_M) : Prop × Int × ax_M := ax_bd (ax_up M 0 0 0) (fun M1 => f_X3_hot_L11  M1 24 0 0 0 (fun z8 z9 => ax_bd (ax_up M1 0 1 0) (fun M10 => ax_rc (f_X3_enters (f_J_bitCount z8 M10) M10) (fun M12 => ax_rc (f_X3_enters z9 M12) (fun M13 => ax_rc (f_X3_enters (M13 7 (240 + z9).toNat) M13) (fun M14 => (True, (z8, M14))))))))
set_option maxRecDepth 100000 in
set_option maxHeartbeats 4000000 in
theorem c_X3_hot (d : Nat)  (M : ax_M)  (hX : (f_X3_hot  M).1) : ax_Met ax_LM gX3_hot (d + 1) [(2, 3, 0)] M ((ax_qm (-2147483648) 2147483647) (f_X3_hot  M).2) := by
  refine ax_body (by decide) (fun X => Nat.le_of_ble_eq_true rfl) (fun hok => ?_)
  show ax_W ax_LM gX3_hot (d + 1) 0 [(0, (2, 3, 0))] [] M _
  unfold f_X3_hot at hX ⊢
  refine ax_lump ax_layM ok_kX3 [(0, .aload_n 0, 1, 0, 0, 0), (1, .iconst 0, 1, 0, 0, 0), (2, .putfield 3, 3, 3, 0, 0)] (pc' := 5) (lc' := [(0, (2, 3, 0))]) (st' := []) (M' := (ax_up M 0 0 0)) (C' := (True ∧ (0 ≤ 0 ∧ 0 < ((2 : Nat) : Int)))) (by decide +kernel) rfl ⟨trivial, by omega⟩ ?_
  refine ax_bdMe_s hX (fun M1 hM_M1 hX => ?_)
  refine ax_lump ax_layM ok_kX3 [(5, .iconst 0, 1, 0, 0, 0), (6, .istore_n 1, 1, 0, 0, 0), (7, .iconst 0, 1, 0, 0, 0), (8, .istore_n 2, 1, 0, 0, 0), (9, .iconst 0, 1, 0, 0, 0), (10, .istore_n 3, 1, 0, 0, 0)] (pc' := 11) (lc' := [(3, (0, 0, 0)), (2, (0, 0, 0)), (1, (0, 0, 0)), (0, (2, 3, 0))]) (st' := []) (M' := M1) (C' := True) (by decide +kernel) rfl trivial ?_
  refine ax_pk [3,2,1,0] (lc' := [(0, (2, 3, 0)), (1, (0, 0, 0)), (2, (0, 0, 0)), (3, (0, 0, 0))]) rfl ?_
  refine w_X3_hot_L11 d  M1 _  (fun z8 z9 hx_9 hX => ?_) 24 0 0 0 (by omega) (by omega) hX
  refine ax_lump ax_layM ok_kX3 [(73, .aload_n 0, 1, 0, 0, 0), (74, .iconst 0, 1, 0, 0, 0), (75, .putfield 15, 3, 3, 1, 0)] (pc' := 78) (lc' := [(0, (2, 3, 0)), (1, (0, 0, z8)), (2, (0, 0, z9))]) (st' := []) (M' := (ax_up M1 0 1 0)) (C' := (True ∧ (0 ≤ 0 ∧ 0 < ((25 : Nat) : Int)))) (by decide +kernel) rfl ⟨trivial, by omega⟩ ?_
  refine ax_bdMe_s hX (fun M10 hM_M10 hX => ?_)
  refine ax_lump ax_layM ok_kX3 [(78, .aload_n 0, 1, 0, 0, 0), (79, .iload_n 1, 1, 0, 0, 0)] (pc' := 80) (lc' := [(0, (2, 3, 0)), (1, (0, 0, z8)), (2, (0, 0, z9))]) (st' := [(0, 0, z8), (2, 3, 0)]) (M' := M10) (C' := True) (by decide +kernel) rfl trivial ?_
  refine ax_cSi (G1 := gJ_bitCount) (d1 := d + 0) (i := 416) (n := 1) (as := [(0, 0, z8)]) (st := [(2, 3, 0)]) (by decide +kernel) calJ_bitCount (by omega) rfl wt_1363 wt_468 (Nat.le_of_ble_eq_true rfl) rfl (c_J_bitCount ax_LM ax_layM d z8 M10) (fun hc11 => ?_)
  refine ax_lump ax_layM ok_kX3 [(83, .i2l, 1, 0, 0, 0)] (pc' := 84) (lc' := [(0, (2, 3, 0)), (1, (0, 0, z8)), (2, (0, 0, z9))]) (st' := [(1, 0, (f_J_bitCount z8 M10)), (2, 3, 0)]) (M' := M10) (C' := True) (by decide +kernel) rfl trivial ?_
  refine ax_cVv_r hX (G1 := gX3_enters) (d1 := d + 0) (i := 345) (n := 1) (as := [(1, 0, (f_J_bitCount z8 M10))]) (st := []) (c := 3) (a := 0) (by decide +kernel) ax_cls3 calX3_enters (by omega) rfl wt_1256 wt_1258 ws_98 (Nat.le_of_ble_eq_true rfl) rfl (fun hY => c_X3_enters d (f_J_bitCount z8 M10) M10 hY) (fun M12 hX => ?_)
  refine ax_lump ax_layM ok_kX3 [(87, .aload_n 0, 1, 0, 0, 0), (88, .iload_n 2, 1, 0, 0, 0), (89, .i2l, 1, 0, 0, 0)] (pc' := 90) (lc' := [(0, (2, 3, 0)), (1, (0, 0, z8)), (2, (0, 0, z9))]) (st' := [(1, 0, z9), (2, 3, 0)]) (M' := M12) (C' := True) (by decide +kernel) rfl trivial ?_
  refine ax_cVv_r hX (G1 := gX3_enters) (d1 := d + 0) (i := 345) (n := 1) (as := [(1, 0, z9)]) (st := []) (c := 3) (a := 0) (by decide +kernel) ax_cls3 calX3_enters (by omega) rfl wt_1256 wt_1258 ws_98 (Nat.le_of_ble_eq_true rfl) rfl (fun hY => c_X3_enters d z9 M12 hY) (fun M13 hX => ?_)
  refine ax_lump ax_layM ok_kX3 [(93, .aload_n 0, 1, 0, 0, 0), (94, .aload_n 0, 1, 0, 0, 0), (95, .getfield 138, 3, 3, 14, 0), (98, .sipush 240, 3, 0, 0, 0), (101, .iload_n 2, 1, 0, 0, 0), (102, .iadd, 1, 1, 0, 0), (103, .iaload, 1, 0, 0, 0), (104, .i2l, 1, 0, 0, 0)] (pc' := 105) (lc' := [(0, (2, 3, 0)), (1, (0, 0, z8)), (2, (0, 0, z9))]) (st' := [(1, 0, (M13 7 (240 + z9).toNat)), (2, 3, 0)]) (M' := M13) (C' := ((True ∧ ax_r32 (240 + z9)) ∧ (0 ≤ (240 + z9) ∧ (240 + z9) < ((274 : Nat) : Int)))) (by decide +kernel) rfl ⟨⟨trivial, ⟨by omega, by omega⟩⟩, by omega⟩ ?_
  refine ax_cVv_r hX (G1 := gX3_enters) (d1 := d + 0) (i := 345) (n := 1) (as := [(1, 0, (M13 7 (240 + z9).toNat))]) (st := []) (c := 3) (a := 0) (by decide +kernel) ax_cls3 calX3_enters (by omega) rfl wt_1256 wt_1258 ws_98 (Nat.le_of_ble_eq_true rfl) rfl (fun hY => c_X3_enters d (M13 7 (240 + z9).toNat) M13 hY) (fun M14 hX => ?_)
  refine ax_lump ax_layM ok_kX3 [(108, .iload_n 1, 1, 0, 0, 0)] (pc' := 109) (lc' := [(0, (2, 3, 0)), (1, (0, 0, z8)), (2, (0, 0, z9))]) (st' := [(0, 0, z8)]) (M' := M14) (C' := True) (by decide +kernel) rfl trivial ?_
  refine ax_rngS (fun hr => ?_)
  exact ax_iret (by decide +kernel) rfl ⟨rfl, rfl, hr.1, hr.2⟩
def f_X3_holds (x1 : Int) (M : ax_M) : Prop × Int × ax_M := ax_bd (ax_up M 0 0 0) (fun M1 => (if (f_X3_in x1 0 1 M1) ≠ 0 then (if (f_X3_kindMany 7 (3 + x1) M1) ≠ 0 then ax_rq ((0 ≤ (f_X3_blockOf 7 (3 + x1) 0 M1) ∧ (f_X3_blockOf 7 (3 + x1) 0 M1) ≤ 15)) (ax_bd (f_X3_foldersIn 7 (f_X3_blockOf 7 (3 + x1) 0 M1) M1) (fun y9 => ax_bd (f_X3_copiesAll M1) (fun M10 => ax_rc (f_X3_clearsLog 8 (3 + x1) M10) (fun y11 => ax_bd (ax_up y11.2 0 1 0) (fun M12 => ax_rc (f_X3_enters (f_J_bitCount y9 M12) M12) (fun M14 => ax_rc (f_X3_enters (ax_wr ((M14 8 265) - (M14 0 26))) M14) (fun M15 => (True, (y9, M15))))))))) else (True, ((-2), M1))) else (True, ((-1), M1))))
set_option maxRecDepth 100000 in
set_option maxHeartbeats 4000000 in
theorem c_X3_holds (d : Nat) (x1 : Int) (M : ax_M)  (hX : (f_X3_holds x1 M).1) : ax_Met ax_LM gX3_holds (d + 6) [(2, 3, 0), (0, 0, x1)] M ((ax_qm (-2147483648) 2147483647) (f_X3_holds x1 M).2) := by
  refine ax_body (by decide) (fun X => Nat.le_of_ble_eq_true rfl) (fun hok => ?_)
  have hr_x1 : (-2147483648) ≤ x1 ∧ x1 ≤ 2147483647 := hok (0, 0, x1) (by simp)
  show ax_W ax_LM gX3_holds (d + 6) 0 [(0, (2, 3, 0)), (1, (0, 0, x1))] [] M _
  unfold f_X3_holds at hX ⊢
  refine ax_lump ax_layM ok_kX3 [(0, .aload_n 0, 1, 0, 0, 0), (1, .iconst 0, 1, 0, 0, 0), (2, .putfield 3, 3, 3, 0, 0)] (pc' := 5) (lc' := [(0, (2, 3, 0)), (1, (0, 0, x1))]) (st' := []) (M' := (ax_up M 0 0 0)) (C' := (True ∧ (0 ≤ 0 ∧ 0 < ((2 : Nat) : Int)))) (by decide +kernel) rfl ⟨trivial, by omega⟩ ?_
  refine ax_bdMe_s hX (fun M1 hM_M1 hX => ?_)
  refine ax_lump ax_layM ok_kX3 [(5, .iload_n 1, 1, 0, 0, 0), (6, .i2l, 1, 0, 0, 0), (7, .lconst 0, 1, 0, 0, 0), (8, .lconst 1, 1, 0, 0, 0)] (pc' := 9) (lc' := [(0, (2, 3, 0)), (1, (0, 0, x1))]) (st' := [(1, 0, 1), (1, 0, 0), (1, 0, x1)]) (M' := M1) (C' := True) (by decide +kernel) rfl trivial ?_
  refine ax_cSi (G1 := gX3_in) (d1 := d + 0) (i := 25) (n := 3) (as := [(1, 0, x1), (1, 0, 0), (1, 0, 1)]) (st := []) (by decide +kernel) calX3_in (by omega) rfl wt_875 wt_876 (Nat.le_of_ble_eq_true rfl) rfl (c_X3_in d x1 0 1 M1) (fun hc2 => ?_)
  refine ax_zne_s hX (off := 5) (tgt := 17) (by decide +kernel) (by decide) (fun h3 hX => ?_) (fun h3 hX => ?_)
  · have hgh3 := g_X3_in h3
    refine ax_lump ax_layM ok_kX3 [(17, .aload_n 0, 1, 0, 0, 0), (18, .getfield 138, 3, 3, 14, 0), (21, .iconst 3, 1, 0, 0, 0), (22, .iload_n 1, 1, 0, 0, 0), (23, .iadd, 1, 1, 0, 0)] (pc' := 24) (lc' := [(0, (2, 3, 0)), (1, (0, 0, x1))]) (st' := [(0, 0, (3 + x1)), (3, 274, 7)]) (M' := M1) (C' := (True ∧ ax_r32 (3 + x1))) (by decide +kernel) rfl ⟨trivial, ⟨by omega, by omega⟩⟩ ?_
    refine ax_cSi (G1 := gX3_kindMany) (d1 := d + 1) (i := 273) (n := 2) (as := [(3, 274, 7), (0, 0, (3 + x1))]) (st := []) (by decide +kernel) calX3_kindMany (by omega) rfl wt_1209 wt_1210 (Nat.le_of_ble_eq_true rfl) rfl (c_X3_kindMany d 7 (3 + x1) M1) (fun hc4 => ?_)
    refine ax_zne_s hX (off := 6) (tgt := 33) (by decide +kernel) (by decide) (fun h5 hX => ?_) (fun h5 hX => ?_)
    · refine ax_lump ax_layM ok_kX3 [(33, .aload_n 0, 1, 0, 0, 0), (34, .getfield 138, 3, 3, 14, 0), (37, .aload_n 0, 1, 0, 0, 0), (38, .getfield 138, 3, 3, 14, 0), (41, .iconst 3, 1, 0, 0, 0), (42, .iload_n 1, 1, 0, 0, 0), (43, .iadd, 1, 1, 0, 0), (44, .iconst 0, 1, 0, 0, 0)] (pc' := 45) (lc' := [(0, (2, 3, 0)), (1, (0, 0, x1))]) (st' := [(0, 0, 0), (0, 0, (3 + x1)), (3, 274, 7), (3, 274, 7)]) (M' := M1) (C' := (True ∧ ax_r32 (3 + x1))) (by decide +kernel) rfl ⟨trivial, ⟨by omega, by omega⟩⟩ ?_
      refine ax_cSi (G1 := gX3_blockOf) (d1 := d + 0) (i := 228) (n := 3) (as := [(3, 274, 7), (0, 0, (3 + x1)), (0, 0, 0)]) (st := [(3, 274, 7)]) (by decide +kernel) calX3_blockOf (by omega) rfl wt_1152 wt_1153 (Nat.le_of_ble_eq_true rfl) rfl (c_X3_blockOf d 7 (3 + x1) 0 M1) (fun hc6 => ?_)
      refine ax_rq_s hX (fun hS7 hX => ?_)
      refine ax_cSi (G1 := gX3_foldersIn) (d1 := d + 4) (i := 251) (n := 2) (as := [(3, 274, 7), (0, 0, (f_X3_blockOf 7 (3 + x1) 0 M1))]) (st := []) (by decide +kernel) calX3_foldersIn (by omega) rfl wt_1216 wt_1217 (Nat.le_of_ble_eq_true rfl) rfl (c_X3_foldersIn d 7 (f_X3_blockOf 7 (3 + x1) 0 M1) M1 (hS7)) (fun hc8 => ?_)
      refine ax_lump ax_layM ok_kX3 [(51, .istore_n 2, 1, 0, 0, 0)] (pc' := 52) (lc' := [(2, (0, 0, (f_X3_foldersIn 7 (f_X3_blockOf 7 (3 + x1) 0 M1) M1))), (0, (2, 3, 0)), (1, (0, 0, x1))]) (st' := []) (M' := M1) (C' := True) (by decide +kernel) rfl trivial ?_
      refine ax_bdI0_s hX (e := (f_X3_foldersIn 7 (f_X3_blockOf 7 (3 + x1) 0 M1) M1)) (fun y9 => [(2, (0, 0, y9)), (0, (2, 3, 0)), (1, (0, 0, x1))]) (fun y9 => []) (fun y9 hX => ?_)
      refine ax_lump ax_layM ok_kX3 [(52, .aload_n 0, 1, 0, 0, 0)] (pc' := 53) (lc' := [(2, (0, 0, y9)), (0, (2, 3, 0)), (1, (0, 0, x1))]) (st' := [(2, 3, 0)]) (M' := M1) (C' := True) (by decide +kernel) rfl trivial ?_
      refine ax_cVv_s hX (G1 := gX3_copiesAll) (d1 := d + 1) (i := 421) (n := 0) (as := []) (st := []) (c := 3) (a := 0) (by decide +kernel) ax_cls3 calX3_copiesAll (by omega) rfl wt_1380 wt_1382 ws_112 (Nat.le_of_ble_eq_true rfl) rfl (c_X3_copiesAll d  M1) (fun M10 hX => ?_)
      refine ax_lump ax_layM ok_kX3 [(56, .aload_n 0, 1, 0, 0, 0), (57, .aload_n 0, 1, 0, 0, 0), (58, .getfield 141, 3, 3, 15, 0), (61, .iconst 3, 1, 0, 0, 0), (62, .iload_n 1, 1, 0, 0, 0), (63, .iadd, 1, 1, 0, 0)] (pc' := 64) (lc' := [(2, (0, 0, y9)), (0, (2, 3, 0)), (1, (0, 0, x1))]) (st' := [(0, 0, (3 + x1)), (3, 274, 8), (2, 3, 0)]) (M' := M10) (C' := (True ∧ ax_r32 (3 + x1))) (by decide +kernel) rfl ⟨trivial, ⟨by omega, by omega⟩⟩ ?_
      refine ax_cVm_r hX (G1 := gX3_clearsLog) (d1 := d + 5) (i := 288) (n := 2) (as := [(3, 274, 8), (0, 0, (3 + x1))]) (st := []) (c := 3) (a := 0) (by decide +kernel) ax_cls3 calX3_clearsLog (by omega) rfl wt_1212 wt_1214 ws_93 (Nat.le_of_ble_eq_true rfl) rfl (fun hY => c_X3_clearsLog d 8 (3 + x1) M10 hY) (fun y11 h_y11 hX => ?_)
      refine ax_lump ax_layM ok_kX3 [(67, .pop, 1, 0, 0, 0), (68, .aload_n 0, 1, 0, 0, 0), (69, .iconst 0, 1, 0, 0, 0), (70, .putfield 15, 3, 3, 1, 0)] (pc' := 73) (lc' := [(2, (0, 0, y9)), (0, (2, 3, 0)), (1, (0, 0, x1))]) (st' := []) (M' := (ax_up y11.2 0 1 0)) (C' := (True ∧ (0 ≤ 0 ∧ 0 < ((25 : Nat) : Int)))) (by decide +kernel) rfl ⟨trivial, by omega⟩ ?_
      refine ax_bdMe_s hX (fun M12 hM_M12 hX => ?_)
      refine ax_lump ax_layM ok_kX3 [(73, .aload_n 0, 1, 0, 0, 0), (74, .iload_n 2, 1, 0, 0, 0)] (pc' := 75) (lc' := [(2, (0, 0, y9)), (0, (2, 3, 0)), (1, (0, 0, x1))]) (st' := [(0, 0, y9), (2, 3, 0)]) (M' := M12) (C' := True) (by decide +kernel) rfl trivial ?_
      refine ax_cSi (G1 := gJ_bitCount) (d1 := d + 0) (i := 416) (n := 1) (as := [(0, 0, y9)]) (st := [(2, 3, 0)]) (by decide +kernel) calJ_bitCount (by omega) rfl wt_1363 wt_468 (Nat.le_of_ble_eq_true rfl) rfl (c_J_bitCount ax_LM ax_layM d y9 M12) (fun hc13 => ?_)
      refine ax_lump ax_layM ok_kX3 [(78, .i2l, 1, 0, 0, 0)] (pc' := 79) (lc' := [(2, (0, 0, y9)), (0, (2, 3, 0)), (1, (0, 0, x1))]) (st' := [(1, 0, (f_J_bitCount y9 M12)), (2, 3, 0)]) (M' := M12) (C' := True) (by decide +kernel) rfl trivial ?_
      refine ax_cVv_r hX (G1 := gX3_enters) (d1 := d + 0) (i := 345) (n := 1) (as := [(1, 0, (f_J_bitCount y9 M12))]) (st := []) (c := 3) (a := 0) (by decide +kernel) ax_cls3 calX3_enters (by omega) rfl wt_1256 wt_1258 ws_98 (Nat.le_of_ble_eq_true rfl) rfl (fun hY => c_X3_enters d (f_J_bitCount y9 M12) M12 hY) (fun M14 hX => ?_)
      refine ax_lump ax_layM ok_kX3 [(82, .aload_n 0, 1, 0, 0, 0), (83, .aload_n 0, 1, 0, 0, 0), (84, .getfield 141, 3, 3, 15, 0), (87, .sipush 265, 3, 0, 0, 0), (90, .iaload, 1, 0, 0, 0), (91, .aload_n 0, 1, 0, 0, 0), (92, .getfield 339, 3, 3, 26, 0), (95, .isub, 1, 0, 0, 0), (96, .i2l, 1, 0, 0, 0)] (pc' := 97) (lc' := [(2, (0, 0, y9)), (0, (2, 3, 0)), (1, (0, 0, x1))]) (st' := [(1, 0, (ax_wr ((M14 8 265) - (M14 0 26)))), (2, 3, 0)]) (M' := M14) (C' := (True ∧ (0 ≤ 265 ∧ 265 < ((274 : Nat) : Int)))) (by decide +kernel) rfl ⟨trivial, by omega⟩ ?_
      refine ax_cVv_r hX (G1 := gX3_enters) (d1 := d + 0) (i := 345) (n := 1) (as := [(1, 0, (ax_wr ((M14 8 265) - (M14 0 26))))]) (st := []) (c := 3) (a := 0) (by decide +kernel) ax_cls3 calX3_enters (by omega) rfl wt_1256 wt_1258 ws_98 (Nat.le_of_ble_eq_true rfl) rfl (fun hY => c_X3_enters d (ax_wr ((M14 8 265) - (M14 0 26))) M14 hY) (fun M15 hX => ?_)
      refine ax_lump ax_layM ok_kX3 [(100, .iload_n 2, 1, 0, 0, 0)] (pc' := 101) (lc' := [(2, (0, 0, y9)), (0, (2, 3, 0)), (1, (0, 0, x1))]) (st' := [(0, 0, y9)]) (M' := M15) (C' := True) (by decide +kernel) rfl trivial ?_
      refine ax_rngS (fun hr => ?_)
      exact ax_iret (by decide +kernel) rfl ⟨rfl, rfl, hr.1, hr.2⟩
    · refine ax_lump ax_layM ok_kX3 [(30, .bipush (-2), 2, 0, 0, 0)] (pc' := 32) (lc' := [(0, (2, 3, 0)), (1, (0, 0, x1))]) (st' := [(0, 0, (-2))]) (M' := M1) (C' := True) (by decide +kernel) rfl trivial ?_
      refine ax_rngS (fun hr => ?_)
      exact ax_iret (by decide +kernel) rfl ⟨rfl, rfl, hr.1, hr.2⟩
  · refine ax_lump ax_layM ok_kX3 [(15, .iconst (-1), 1, 0, 0, 0)] (pc' := 16) (lc' := [(0, (2, 3, 0)), (1, (0, 0, x1))]) (st' := [(0, 0, (-1))]) (M' := M1) (C' := True) (by decide +kernel) rfl trivial ?_
    refine ax_rngS (fun hr => ?_)
    exact ax_iret (by decide +kernel) rfl ⟨rfl, rfl, hr.1, hr.2⟩
def f_X3_costs (x1 : Int) (M : ax_M) : Prop × Int × ax_M := ax_bd (ax_up M 0 0 0) (fun M1 => (if (f_X3_isPage x1 M1) ≠ 0 then ax_bd (f_X3_copiesAll M1) (fun M4 => ax_rc (f_X3_writesOne 8 x1 0 M4) (fun y5 => ax_bd (ax_up y5.2 0 1 0) (fun M6 => ax_rc (f_X3_enters (ax_wr ((M6 8 266) - (M6 0 27))) M6) (fun M7 => ax_rc (f_X3_enters (M7 0 22) M7) (fun M9 => ax_rc (f_X3_enters (f_X3_flag (M9 0 23) M9) M9) (fun M12 => (True, ((ax_wr ((M12 8 265) - (M12 0 26))), M12)))))))) else (True, ((-1), M1))))
set_option maxRecDepth 100000 in
set_option maxHeartbeats 4000000 in
theorem c_X3_costs (d : Nat) (x1 : Int) (M : ax_M)  (hX : (f_X3_costs x1 M).1) : ax_Met ax_LM gX3_costs (d + 9) [(2, 3, 0), (0, 0, x1)] M ((ax_qm (-2147483648) 2147483647) (f_X3_costs x1 M).2) := by
  refine ax_body (by decide) (fun X => Nat.le_of_ble_eq_true rfl) (fun hok => ?_)
  have hr_x1 : (-2147483648) ≤ x1 ∧ x1 ≤ 2147483647 := hok (0, 0, x1) (by simp)
  show ax_W ax_LM gX3_costs (d + 9) 0 [(0, (2, 3, 0)), (1, (0, 0, x1))] [] M _
  unfold f_X3_costs at hX ⊢
  refine ax_lump ax_layM ok_kX3 [(0, .aload_n 0, 1, 0, 0, 0), (1, .iconst 0, 1, 0, 0, 0), (2, .putfield 3, 3, 3, 0, 0)] (pc' := 5) (lc' := [(0, (2, 3, 0)), (1, (0, 0, x1))]) (st' := []) (M' := (ax_up M 0 0 0)) (C' := (True ∧ (0 ≤ 0 ∧ 0 < ((2 : Nat) : Int)))) (by decide +kernel) rfl ⟨trivial, by omega⟩ ?_
  refine ax_bdMe_s hX (fun M1 hM_M1 hX => ?_)
  refine ax_lump ax_layM ok_kX3 [(5, .iload_n 1, 1, 0, 0, 0)] (pc' := 6) (lc' := [(0, (2, 3, 0)), (1, (0, 0, x1))]) (st' := [(0, 0, x1)]) (M' := M1) (C' := True) (by decide +kernel) rfl trivial ?_
  refine ax_cSi (G1 := gX3_isPage) (d1 := d + 1) (i := 349) (n := 1) (as := [(0, 0, x1)]) (st := []) (by decide +kernel) calX3_isPage (by omega) rfl wt_1131 wt_1132 (Nat.le_of_ble_eq_true rfl) rfl (c_X3_isPage d x1 M1) (fun hc2 => ?_)
  refine ax_zne_s hX (off := 5) (tgt := 14) (by decide +kernel) (by decide) (fun h3 hX => ?_) (fun h3 hX => ?_)
  · have hgh3 := g_X3_isPage h3
    refine ax_lump ax_layM ok_kX3 [(14, .aload_n 0, 1, 0, 0, 0)] (pc' := 15) (lc' := [(0, (2, 3, 0)), (1, (0, 0, x1))]) (st' := [(2, 3, 0)]) (M' := M1) (C' := True) (by decide +kernel) rfl trivial ?_
    refine ax_cVv_s hX (G1 := gX3_copiesAll) (d1 := d + 1) (i := 421) (n := 0) (as := []) (st := []) (c := 3) (a := 0) (by decide +kernel) ax_cls3 calX3_copiesAll (by omega) rfl wt_1380 wt_1382 ws_112 (Nat.le_of_ble_eq_true rfl) rfl (c_X3_copiesAll d  M1) (fun M4 hX => ?_)
    refine ax_lump ax_layM ok_kX3 [(18, .aload_n 0, 1, 0, 0, 0), (19, .aload_n 0, 1, 0, 0, 0), (20, .getfield 141, 3, 3, 15, 0), (23, .iload_n 1, 1, 0, 0, 0), (24, .iconst 0, 1, 0, 0, 0)] (pc' := 25) (lc' := [(0, (2, 3, 0)), (1, (0, 0, x1))]) (st' := [(0, 0, 0), (0, 0, x1), (3, 274, 8), (2, 3, 0)]) (M' := M4) (C' := True) (by decide +kernel) rfl trivial ?_
    refine ax_cVm_r hX (G1 := gX3_writesOne) (d1 := d + 8) (i := 361) (n := 3) (as := [(3, 274, 8), (0, 0, x1), (0, 0, 0)]) (st := []) (c := 3) (a := 0) (by decide +kernel) ax_cls3 calX3_writesOne (by omega) rfl wt_1144 wt_1146 ws_83 (Nat.le_of_ble_eq_true rfl) rfl (fun hY => c_X3_writesOne d 8 x1 0 M4 (by omega) hY) (fun y5 h_y5 hX => ?_)
    refine ax_lump ax_layM ok_kX3 [(28, .pop, 1, 0, 0, 0), (29, .aload_n 0, 1, 0, 0, 0), (30, .iconst 0, 1, 0, 0, 0), (31, .putfield 15, 3, 3, 1, 0)] (pc' := 34) (lc' := [(0, (2, 3, 0)), (1, (0, 0, x1))]) (st' := []) (M' := (ax_up y5.2 0 1 0)) (C' := (True ∧ (0 ≤ 0 ∧ 0 < ((25 : Nat) : Int)))) (by decide +kernel) rfl ⟨trivial, by omega⟩ ?_
    refine ax_bdMe_s hX (fun M6 hM_M6 hX => ?_)
    refine ax_lump ax_layM ok_kX3 [(34, .aload_n 0, 1, 0, 0, 0), (35, .aload_n 0, 1, 0, 0, 0), (36, .getfield 141, 3, 3, 15, 0), (39, .sipush 266, 3, 0, 0, 0), (42, .iaload, 1, 0, 0, 0), (43, .aload_n 0, 1, 0, 0, 0), (44, .getfield 342, 3, 3, 27, 0), (47, .isub, 1, 0, 0, 0), (48, .i2l, 1, 0, 0, 0)] (pc' := 49) (lc' := [(0, (2, 3, 0)), (1, (0, 0, x1))]) (st' := [(1, 0, (ax_wr ((M6 8 266) - (M6 0 27)))), (2, 3, 0)]) (M' := M6) (C' := (True ∧ (0 ≤ 266 ∧ 266 < ((274 : Nat) : Int)))) (by decide +kernel) rfl ⟨trivial, by omega⟩ ?_
    refine ax_cVv_r hX (G1 := gX3_enters) (d1 := d + 0) (i := 345) (n := 1) (as := [(1, 0, (ax_wr ((M6 8 266) - (M6 0 27))))]) (st := []) (c := 3) (a := 0) (by decide +kernel) ax_cls3 calX3_enters (by omega) rfl wt_1256 wt_1258 ws_98 (Nat.le_of_ble_eq_true rfl) rfl (fun hY => c_X3_enters d (ax_wr ((M6 8 266) - (M6 0 27))) M6 hY) (fun M7 hX => ?_)
    refine ax_fact (i := 0) (c := 3) (f := 22) (hi := 5) (s := 0) (by simp) rfl rfl rfl (fun hf8 => ?_)
    have hf8 : 0 ≤ (M7 0 22) ∧ (M7 0 22) ≤ 5 := hf8
    refine ax_lump ax_layM ok_kX3 [(52, .aload_n 0, 1, 0, 0, 0), (53, .aload_n 0, 1, 0, 0, 0), (54, .getfield 291, 3, 3, 22, 0), (57, .i2l, 1, 0, 0, 0)] (pc' := 58) (lc' := [(0, (2, 3, 0)), (1, (0, 0, x1))]) (st' := [(1, 0, (M7 0 22)), (2, 3, 0)]) (M' := M7) (C' := True) (by decide +kernel) rfl trivial ?_
    refine ax_cVv_r hX (G1 := gX3_enters) (d1 := d + 0) (i := 345) (n := 1) (as := [(1, 0, (M7 0 22))]) (st := []) (c := 3) (a := 0) (by decide +kernel) ax_cls3 calX3_enters (by omega) rfl wt_1256 wt_1258 ws_98 (Nat.le_of_ble_eq_true rfl) rfl (fun hY => c_X3_enters d (M7 0 22) M7 hY) (fun M9 hX => ?_)
    refine ax_factZ (i := 0) (c := 3) (f := 23) (s := 0) (by simp) rfl rfl (fun hf10 => ?_)
    have hf10 : 0 ≤ (M9 0 23) ∧ (M9 0 23) ≤ 1 := hf10
    refine ax_lump ax_layM ok_kX3 [(61, .aload_n 0, 1, 0, 0, 0), (62, .aload_n 0, 1, 0, 0, 0), (63, .getfield 303, 3, 3, 23, 0)] (pc' := 66) (lc' := [(0, (2, 3, 0)), (1, (0, 0, x1))]) (st' := [(0, 0, (M9 0 23)), (2, 3, 0)]) (M' := M9) (C' := True) (by decide +kernel) rfl trivial ?_
    refine ax_cSi (G1 := gX3_flag) (d1 := d + 0) (i := 44) (n := 1) (as := [(0, 0, (M9 0 23))]) (st := [(2, 3, 0)]) (by decide +kernel) calX3_flag (by omega) rfl wt_904 wt_905 (Nat.le_of_ble_eq_true rfl) rfl (c_X3_flag d (M9 0 23) M9 (by omega)) (fun hc11 => ?_)
    refine ax_lump ax_layM ok_kX3 [(69, .i2l, 1, 0, 0, 0)] (pc' := 70) (lc' := [(0, (2, 3, 0)), (1, (0, 0, x1))]) (st' := [(1, 0, (f_X3_flag (M9 0 23) M9)), (2, 3, 0)]) (M' := M9) (C' := True) (by decide +kernel) rfl trivial ?_
    refine ax_cVv_r hX (G1 := gX3_enters) (d1 := d + 0) (i := 345) (n := 1) (as := [(1, 0, (f_X3_flag (M9 0 23) M9))]) (st := []) (c := 3) (a := 0) (by decide +kernel) ax_cls3 calX3_enters (by omega) rfl wt_1256 wt_1258 ws_98 (Nat.le_of_ble_eq_true rfl) rfl (fun hY => c_X3_enters d (f_X3_flag (M9 0 23) M9) M9 hY) (fun M12 hX => ?_)
    refine ax_lump ax_layM ok_kX3 [(73, .aload_n 0, 1, 0, 0, 0), (74, .getfield 141, 3, 3, 15, 0), (77, .sipush 265, 3, 0, 0, 0), (80, .iaload, 1, 0, 0, 0), (81, .aload_n 0, 1, 0, 0, 0), (82, .getfield 339, 3, 3, 26, 0), (85, .isub, 1, 0, 0, 0)] (pc' := 86) (lc' := [(0, (2, 3, 0)), (1, (0, 0, x1))]) (st' := [(0, 0, (ax_wr ((M12 8 265) - (M12 0 26))))]) (M' := M12) (C' := (True ∧ (0 ≤ 265 ∧ 265 < ((274 : Nat) : Int)))) (by decide +kernel) rfl ⟨trivial, by omega⟩ ?_
    refine ax_rngS (fun hr => ?_)
    exact ax_iret (by decide +kernel) rfl ⟨rfl, rfl, hr.1, hr.2⟩
  · refine ax_lump ax_layM ok_kX3 [(12, .iconst (-1), 1, 0, 0, 0)] (pc' := 13) (lc' := [(0, (2, 3, 0)), (1, (0, 0, x1))]) (st' := [(0, 0, (-1))]) (M' := M1) (C' := True) (by decide +kernel) rfl trivial ?_
    refine ax_rngS (fun hr => ?_)
    exact ax_iret (by decide +kernel) rfl ⟨rfl, rfl, hr.1, hr.2⟩
def f_X3_worst_B14  (i : Nat) (v1 : Int) (v2 : Int) (v3 : Int) (M : ax_M) (kc : Int → Int → Int → ax_M → Prop × Int × ax_M) (kx : Int → Int → Int → ax_M → Prop × Int × ax_M) : Prop × Int × ax_M := ax_bd (f_X3_copiesAll M) (fun M2 => ax_rc (f_X3_writesOne 8 (i : Int) 0 M2) (fun y3 => ax_bd (ax_wr ((y3.2 8 265) - (y3.2 0 26))) (fun y4 => ax_bd (ax_wr ((y3.2 8 266) - (y3.2 0 27))) (fun y5 => (if v2 < y4 then kc (i : Int) y4 y5 y3.2 else (if y4 ≠ v2 then kc v1 v2 v3 y3.2 else (if y5 ≤ v3 then kc v1 v2 v3 y3.2 else kc (i : Int) y4 y5 y3.2)))))))
def f_X3_worst_L14  : Nat → Nat → Int → Int → Int → ax_M → (Int → Int → Int → ax_M → Prop × Int × ax_M) → Prop × Int × ax_M
  | 0, i, v1, v2, v3, M, kx => kx v1 v2 v3 M
  | n + 1, i, v1, v2, v3, M, kx => f_X3_worst_B14  i v1 v2 v3 M (fun u1 u2 u3 M9 => f_X3_worst_L14  n (i + 1) u1 u2 u3 M9 kx) kx
set_option maxRecDepth 100000 in
set_option maxHeartbeats 4000000 in
theorem wb_X3_worst_B14 (d : Nat)  (i : Nat) (v1 : Int) (v2 : Int) (v3 : Int) (M : ax_M) (kc : Int → Int → Int → ax_M → Prop × Int × ax_M) (kx : Int → Int → Int → ax_M → Prop × Int × ax_M)  (hi : 0 ≤ i ∧ i < 24) (hv1 : (-1) ≤ v1 ∧ v1 ≤ 23) (hkc : ∀ (u1 : Int) (u2 : Int) (u3 : Int) (M9 : ax_M), (-1) ≤ u1 ∧ u1 ≤ 23 → (kc u1 u2 u3 M9).1 → ax_W ax_LM gX3_worst (d + 9) 14 [(0, (2, 3, 0)), (1, (0, 0, u1)), (2, (0, 0, u2)), (3, (0, 0, u3)), (4, (0, 0, ((i : Int) + 1)))] [] M9 ((ax_qm (-1) 23) (kc u1 u2 u3 M9).2)) (hkx : ∀ (x1 : Int) (x2 : Int) (x3 : Int) (M9 : ax_M), (((-1) ≤ x1 ∧ x1 ≤ 23)) → (kx x1 x2 x3 M9).1 → ax_W ax_LM gX3_worst (d + 9) 100 [(0, (2, 3, 0)), (1, (0, 0, x1)), (2, (0, 0, x2)), (3, (0, 0, x3))] [] M9 ((ax_qm (-1) 23) (kx x1 x2 x3 M9).2)) (hX : (f_X3_worst_B14  i v1 v2 v3 M kc kx).1) : ax_W ax_LM gX3_worst (d + 9) 21 [(0, (2, 3, 0)), (1, (0, 0, v1)), (2, (0, 0, v2)), (3, (0, 0, v3)), (4, (0, 0, (i : Int)))] [] M ((ax_qm (-1) 23) (f_X3_worst_B14  i v1 v2 v3 M kc kx).2) := by
  unfold f_X3_worst_B14 at hX ⊢
  refine ax_lump ax_layM ok_kX3 [(21, .aload_n 0, 1, 0, 0, 0)] (pc' := 22) (lc' := [(0, (2, 3, 0)), (1, (0, 0, v1)), (2, (0, 0, v2)), (3, (0, 0, v3)), (4, (0, 0, (i : Int)))]) (st' := [(2, 3, 0)]) (M' := M) (C' := True) (by decide +kernel) rfl trivial ?_
  refine ax_cVv_s hX (G1 := gX3_copiesAll) (d1 := d + 1) (i := 421) (n := 0) (as := []) (st := []) (c := 3) (a := 0) (by decide +kernel) ax_cls3 calX3_copiesAll (by omega) rfl wt_1380 wt_1382 ws_112 (Nat.le_of_ble_eq_true rfl) rfl (c_X3_copiesAll d  M) (fun M2 hX => ?_)
  refine ax_lump ax_layM ok_kX3 [(25, .aload_n 0, 1, 0, 0, 0), (26, .aload_n 0, 1, 0, 0, 0), (27, .getfield 141, 3, 3, 15, 0), (30, .iload 4, 2, 0, 0, 0), (32, .iconst 0, 1, 0, 0, 0)] (pc' := 33) (lc' := [(0, (2, 3, 0)), (1, (0, 0, v1)), (2, (0, 0, v2)), (3, (0, 0, v3)), (4, (0, 0, (i : Int)))]) (st' := [(0, 0, 0), (0, 0, (i : Int)), (3, 274, 8), (2, 3, 0)]) (M' := M2) (C' := True) (by decide +kernel) rfl trivial ?_
  refine ax_cVm_r hX (G1 := gX3_writesOne) (d1 := d + 8) (i := 361) (n := 3) (as := [(3, 274, 8), (0, 0, (i : Int)), (0, 0, 0)]) (st := []) (c := 3) (a := 0) (by decide +kernel) ax_cls3 calX3_writesOne (by omega) rfl wt_1144 wt_1146 ws_83 (Nat.le_of_ble_eq_true rfl) rfl (fun hY => c_X3_writesOne d 8 (i : Int) 0 M2 (by omega) hY) (fun y3 h_y3 hX => ?_)
  refine ax_lump ax_layM ok_kX3 [(36, .pop, 1, 0, 0, 0), (37, .aload_n 0, 1, 0, 0, 0), (38, .getfield 141, 3, 3, 15, 0), (41, .sipush 265, 3, 0, 0, 0), (44, .iaload, 1, 0, 0, 0), (45, .aload_n 0, 1, 0, 0, 0), (46, .getfield 339, 3, 3, 26, 0), (49, .isub, 1, 0, 0, 0), (50, .istore 5, 2, 0, 0, 0)] (pc' := 52) (lc' := [(5, (0, 0, (ax_wr ((y3.2 8 265) - (y3.2 0 26))))), (0, (2, 3, 0)), (1, (0, 0, v1)), (2, (0, 0, v2)), (3, (0, 0, v3)), (4, (0, 0, (i : Int)))]) (st' := []) (M' := y3.2) (C' := (True ∧ (0 ≤ 265 ∧ 265 < ((274 : Nat) : Int)))) (by decide +kernel) rfl ⟨trivial, by omega⟩ ?_
  refine ax_bdI0_s hX (e := (ax_wr ((y3.2 8 265) - (y3.2 0 26)))) (fun y4 => [(5, (0, 0, y4)), (0, (2, 3, 0)), (1, (0, 0, v1)), (2, (0, 0, v2)), (3, (0, 0, v3)), (4, (0, 0, (i : Int)))]) (fun y4 => []) (fun y4 hX => ?_)
  refine ax_lump ax_layM ok_kX3 [(52, .aload_n 0, 1, 0, 0, 0), (53, .getfield 141, 3, 3, 15, 0), (56, .sipush 266, 3, 0, 0, 0), (59, .iaload, 1, 0, 0, 0), (60, .aload_n 0, 1, 0, 0, 0), (61, .getfield 342, 3, 3, 27, 0), (64, .isub, 1, 0, 0, 0), (65, .istore 6, 2, 0, 0, 0)] (pc' := 67) (lc' := [(6, (0, 0, (ax_wr ((y3.2 8 266) - (y3.2 0 27))))), (5, (0, 0, y4)), (0, (2, 3, 0)), (1, (0, 0, v1)), (2, (0, 0, v2)), (3, (0, 0, v3)), (4, (0, 0, (i : Int)))]) (st' := []) (M' := y3.2) (C' := (True ∧ (0 ≤ 266 ∧ 266 < ((274 : Nat) : Int)))) (by decide +kernel) rfl ⟨trivial, by omega⟩ ?_
  refine ax_bdI0_s hX (e := (ax_wr ((y3.2 8 266) - (y3.2 0 27)))) (fun y5 => [(6, (0, 0, y5)), (5, (0, 0, y4)), (0, (2, 3, 0)), (1, (0, 0, v1)), (2, (0, 0, v2)), (3, (0, 0, v3)), (4, (0, 0, (i : Int)))]) (fun y5 => []) (fun y5 hX => ?_)
  refine ax_lump ax_layM ok_kX3 [(67, .iload 5, 2, 0, 0, 0), (69, .iload_n 2, 1, 0, 0, 0)] (pc' := 70) (lc' := [(6, (0, 0, y5)), (5, (0, 0, y4)), (0, (2, 3, 0)), (1, (0, 0, v1)), (2, (0, 0, v2)), (3, (0, 0, v3)), (4, (0, 0, (i : Int)))]) (st' := [(0, 0, v2), (0, 0, y4)]) (M' := y3.2) (C' := True) (by decide +kernel) rfl trivial ?_
  refine ax_jgt_s hX (off := 15) (tgt := 85) (by decide +kernel) (by decide) (fun h6 hX => ?_) (fun h6 hX => ?_)
  · refine ax_lump ax_layM ok_kX3 [(85, .iload 4, 2, 0, 0, 0), (87, .istore_n 1, 1, 0, 0, 0), (88, .iload 5, 2, 0, 0, 0), (90, .istore_n 2, 1, 0, 0, 0), (91, .iload 6, 2, 0, 0, 0), (93, .istore_n 3, 1, 0, 0, 0), (94, .iinc 4 1, 3, 1, 0, 0), (97, .goto (-83), 3, 14, 0, 0)] (pc' := 14) (lc' := [(4, (0, 0, ((i : Int) + 1))), (3, (0, 0, y5)), (2, (0, 0, y4)), (1, (0, 0, (i : Int))), (6, (0, 0, y5)), (5, (0, 0, y4)), (0, (2, 3, 0))]) (st' := []) (M' := y3.2) (C' := (True ∧ ax_r32 ((i : Int) + 1))) (by decide +kernel) rfl ⟨trivial, ⟨by omega, by omega⟩⟩ ?_
    refine ax_pk [6,3,2,1,0] (lc' := [(0, (2, 3, 0)), (1, (0, 0, (i : Int))), (2, (0, 0, y4)), (3, (0, 0, y5)), (4, (0, 0, ((i : Int) + 1)))]) rfl ?_
    exact hkc (i : Int) y4 y5 y3.2 (by omega) hX
  · refine ax_lump ax_layM ok_kX3 [(73, .iload 5, 2, 0, 0, 0), (75, .iload_n 2, 1, 0, 0, 0)] (pc' := 76) (lc' := [(6, (0, 0, y5)), (5, (0, 0, y4)), (0, (2, 3, 0)), (1, (0, 0, v1)), (2, (0, 0, v2)), (3, (0, 0, v3)), (4, (0, 0, (i : Int)))]) (st' := [(0, 0, v2), (0, 0, y4)]) (M' := y3.2) (C' := True) (by decide +kernel) rfl trivial ?_
    refine ax_jne_s hX (off := 18) (tgt := 94) (by decide +kernel) (by decide) (fun h7 hX => ?_) (fun h7 hX => ?_)
    · refine ax_lump ax_layM ok_kX3 [(94, .iinc 4 1, 3, 1, 0, 0), (97, .goto (-83), 3, 14, 0, 0)] (pc' := 14) (lc' := [(4, (0, 0, ((i : Int) + 1))), (6, (0, 0, y5)), (5, (0, 0, y4)), (0, (2, 3, 0)), (1, (0, 0, v1)), (2, (0, 0, v2)), (3, (0, 0, v3))]) (st' := []) (M' := y3.2) (C' := (True ∧ ax_r32 ((i : Int) + 1))) (by decide +kernel) rfl ⟨trivial, ⟨by omega, by omega⟩⟩ ?_
      refine ax_pk [3,4,5,6,0] (lc' := [(0, (2, 3, 0)), (1, (0, 0, v1)), (2, (0, 0, v2)), (3, (0, 0, v3)), (4, (0, 0, ((i : Int) + 1)))]) rfl ?_
      exact hkc v1 v2 v3 y3.2 (by omega) hX
    · refine ax_lump ax_layM ok_kX3 [(79, .iload 6, 2, 0, 0, 0), (81, .iload_n 3, 1, 0, 0, 0)] (pc' := 82) (lc' := [(6, (0, 0, y5)), (5, (0, 0, y4)), (0, (2, 3, 0)), (1, (0, 0, v1)), (2, (0, 0, v2)), (3, (0, 0, v3)), (4, (0, 0, (i : Int)))]) (st' := [(0, 0, v3), (0, 0, y5)]) (M' := y3.2) (C' := True) (by decide +kernel) rfl trivial ?_
      refine ax_jle_s hX (off := 12) (tgt := 94) (by decide +kernel) (by decide) (fun h8 hX => ?_) (fun h8 hX => ?_)
      · refine ax_lump ax_layM ok_kX3 [(94, .iinc 4 1, 3, 1, 0, 0), (97, .goto (-83), 3, 14, 0, 0)] (pc' := 14) (lc' := [(4, (0, 0, ((i : Int) + 1))), (6, (0, 0, y5)), (5, (0, 0, y4)), (0, (2, 3, 0)), (1, (0, 0, v1)), (2, (0, 0, v2)), (3, (0, 0, v3))]) (st' := []) (M' := y3.2) (C' := (True ∧ ax_r32 ((i : Int) + 1))) (by decide +kernel) rfl ⟨trivial, ⟨by omega, by omega⟩⟩ ?_
        refine ax_pk [3,4,5,6,0] (lc' := [(0, (2, 3, 0)), (1, (0, 0, v1)), (2, (0, 0, v2)), (3, (0, 0, v3)), (4, (0, 0, ((i : Int) + 1)))]) rfl ?_
        exact hkc v1 v2 v3 y3.2 (by omega) hX
      · refine ax_lump ax_layM ok_kX3 [(85, .iload 4, 2, 0, 0, 0), (87, .istore_n 1, 1, 0, 0, 0), (88, .iload 5, 2, 0, 0, 0), (90, .istore_n 2, 1, 0, 0, 0), (91, .iload 6, 2, 0, 0, 0), (93, .istore_n 3, 1, 0, 0, 0), (94, .iinc 4 1, 3, 1, 0, 0), (97, .goto (-83), 3, 14, 0, 0)] (pc' := 14) (lc' := [(4, (0, 0, ((i : Int) + 1))), (3, (0, 0, y5)), (2, (0, 0, y4)), (1, (0, 0, (i : Int))), (6, (0, 0, y5)), (5, (0, 0, y4)), (0, (2, 3, 0))]) (st' := []) (M' := y3.2) (C' := (True ∧ ax_r32 ((i : Int) + 1))) (by decide +kernel) rfl ⟨trivial, ⟨by omega, by omega⟩⟩ ?_
        refine ax_pk [6,3,2,1,0] (lc' := [(0, (2, 3, 0)), (1, (0, 0, (i : Int))), (2, (0, 0, y4)), (3, (0, 0, y5)), (4, (0, 0, ((i : Int) + 1)))]) rfl ?_
        exact hkc (i : Int) y4 y5 y3.2 (by omega) hX
set_option maxRecDepth 100000 in
set_option maxHeartbeats 4000000 in
theorem w_X3_worst_L14 (d : Nat)  (kx : Int → Int → Int → ax_M → Prop × Int × ax_M)  (hkx : ∀ (x1 : Int) (x2 : Int) (x3 : Int) (M9 : ax_M), (((-1) ≤ x1 ∧ x1 ≤ 23)) → (kx x1 x2 x3 M9).1 → ax_W ax_LM gX3_worst (d + 9) 100 [(0, (2, 3, 0)), (1, (0, 0, x1)), (2, (0, 0, x2)), (3, (0, 0, x3))] [] M9 ((ax_qm (-1) 23) (kx x1 x2 x3 M9).2)) : ∀ (n : Nat) (i : Nat) (v1 : Int) (v2 : Int) (v3 : Int) (M : ax_M), 0 ≤ i ∧ i + n = 24 → (-1) ≤ v1 ∧ v1 ≤ 23 → (f_X3_worst_L14  n i v1 v2 v3 M kx).1 → ax_W ax_LM gX3_worst (d + 9) 14 [(0, (2, 3, 0)), (1, (0, 0, v1)), (2, (0, 0, v2)), (3, (0, 0, v3)), (4, (0, 0, (i : Int)))] [] M ((ax_qm (-1) 23) (f_X3_worst_L14  n i v1 v2 v3 M kx).2) := by
  intro n
  induction n with
  | zero =>
    intro i v1 v2 v3 M hin hv1 hX
    refine ax_lump ax_layM ok_kX3 [(14, .iload 4, 2, 0, 0, 0), (16, .bipush 24, 2, 0, 0, 0)] (pc' := 18) (lc' := [(0, (2, 3, 0)), (1, (0, 0, v1)), (2, (0, 0, v2)), (3, (0, 0, v3)), (4, (0, 0, (i : Int)))]) (st' := [(0, 0, 24), (0, 0, (i : Int))]) (M' := M) (C' := True) (by decide +kernel) rfl trivial ?_
    refine ax_icmp_ge (off := 82) (tgt := 100) (by decide +kernel) (by decide) (fun h => ?_) (fun h => ?_)
    · refine ax_pk [0,1,2,3] (lc' := [(0, (2, 3, 0)), (1, (0, 0, v1)), (2, (0, 0, v2)), (3, (0, 0, v3))]) rfl ?_
      exact hkx v1 v2 v3 M (by omega) hX
    · exfalso; omega
  | succ n ih =>
    intro i v1 v2 v3 M hin hv1 hX
    refine ax_lump ax_layM ok_kX3 [(14, .iload 4, 2, 0, 0, 0), (16, .bipush 24, 2, 0, 0, 0)] (pc' := 18) (lc' := [(0, (2, 3, 0)), (1, (0, 0, v1)), (2, (0, 0, v2)), (3, (0, 0, v3)), (4, (0, 0, (i : Int)))]) (st' := [(0, 0, 24), (0, 0, (i : Int))]) (M' := M) (C' := True) (by decide +kernel) rfl trivial ?_
    refine ax_icmp_ge (off := 82) (tgt := 100) (by decide +kernel) (by decide) (fun h => ?_) (fun h => ?_)
    · exfalso; omega
    · exact wb_X3_worst_B14 d  i v1 v2 v3 M _ kx  (by omega) hv1 (fun u1 u2 u3 M9 hu1 hX => ih (i + 1) u1 u2 u3 M9 (by omega) hu1 hX) hkx hX
def f_X3_worst  (M : ax_M) : Prop × Int × ax_M := ax_bd (ax_up M 0 0 0) (fun M1 => f_X3_worst_L14  24 0 (-1) (-1) (-1) M1 (fun z9 z10 z11 M12 => ax_bd (ax_up M12 0 1 0) (fun M13 => ax_rc (f_X3_enters z10 M13) (fun M14 => ax_rc (f_X3_enters z11 M14) (fun M15 => (True, (z9, M15)))))))
set_option maxRecDepth 100000 in
set_option maxHeartbeats 4000000 in
theorem c_X3_worst (d : Nat)  (M : ax_M)  (hX : (f_X3_worst  M).1) : ax_Met ax_LM gX3_worst (d + 9) [(2, 3, 0)] M ((ax_qm (-1) 23) (f_X3_worst  M).2) := by
  refine ax_body (by decide) (fun X => Nat.le_of_ble_eq_true rfl) (fun hok => ?_)
  show ax_W ax_LM gX3_worst (d + 9) 0 [(0, (2, 3, 0))] [] M _
  unfold f_X3_worst at hX ⊢
  refine ax_lump ax_layM ok_kX3 [(0, .aload_n 0, 1, 0, 0, 0), (1, .iconst 0, 1, 0, 0, 0), (2, .putfield 3, 3, 3, 0, 0)] (pc' := 5) (lc' := [(0, (2, 3, 0))]) (st' := []) (M' := (ax_up M 0 0 0)) (C' := (True ∧ (0 ≤ 0 ∧ 0 < ((2 : Nat) : Int)))) (by decide +kernel) rfl ⟨trivial, by omega⟩ ?_
  refine ax_bdMe_s hX (fun M1 hM_M1 hX => ?_)
  refine ax_lump ax_layM ok_kX3 [(5, .iconst (-1), 1, 0, 0, 0), (6, .istore_n 1, 1, 0, 0, 0), (7, .iconst (-1), 1, 0, 0, 0), (8, .istore_n 2, 1, 0, 0, 0), (9, .iconst (-1), 1, 0, 0, 0), (10, .istore_n 3, 1, 0, 0, 0), (11, .iconst 0, 1, 0, 0, 0), (12, .istore 4, 2, 0, 0, 0)] (pc' := 14) (lc' := [(4, (0, 0, 0)), (3, (0, 0, (-1))), (2, (0, 0, (-1))), (1, (0, 0, (-1))), (0, (2, 3, 0))]) (st' := []) (M' := M1) (C' := True) (by decide +kernel) rfl trivial ?_
  refine ax_pk [4,3,2,1,0] (lc' := [(0, (2, 3, 0)), (1, (0, 0, (-1))), (2, (0, 0, (-1))), (3, (0, 0, (-1))), (4, (0, 0, 0))]) rfl ?_
  refine w_X3_worst_L14 d  _  (fun z9 z10 z11 M12 hx_12 hX => ?_) 24 0 (-1) (-1) (-1) M1 (by omega) (by omega) hX
  refine ax_lump ax_layM ok_kX3 [(100, .aload_n 0, 1, 0, 0, 0), (101, .iconst 0, 1, 0, 0, 0), (102, .putfield 15, 3, 3, 1, 0)] (pc' := 105) (lc' := [(0, (2, 3, 0)), (1, (0, 0, z9)), (2, (0, 0, z10)), (3, (0, 0, z11))]) (st' := []) (M' := (ax_up M12 0 1 0)) (C' := (True ∧ (0 ≤ 0 ∧ 0 < ((25 : Nat) : Int)))) (by decide +kernel) rfl ⟨trivial, by omega⟩ ?_
  refine ax_bdMe_s hX (fun M13 hM_M13 hX => ?_)
  refine ax_lump ax_layM ok_kX3 [(105, .aload_n 0, 1, 0, 0, 0), (106, .iload_n 2, 1, 0, 0, 0), (107, .i2l, 1, 0, 0, 0)] (pc' := 108) (lc' := [(0, (2, 3, 0)), (1, (0, 0, z9)), (2, (0, 0, z10)), (3, (0, 0, z11))]) (st' := [(1, 0, z10), (2, 3, 0)]) (M' := M13) (C' := True) (by decide +kernel) rfl trivial ?_
  refine ax_cVv_r hX (G1 := gX3_enters) (d1 := d + 0) (i := 345) (n := 1) (as := [(1, 0, z10)]) (st := []) (c := 3) (a := 0) (by decide +kernel) ax_cls3 calX3_enters (by omega) rfl wt_1256 wt_1258 ws_98 (Nat.le_of_ble_eq_true rfl) rfl (fun hY => c_X3_enters d z10 M13 hY) (fun M14 hX => ?_)
  refine ax_lump ax_layM ok_kX3 [(111, .aload_n 0, 1, 0, 0, 0), (112, .iload_n 3, 1, 0, 0, 0), (113, .i2l, 1, 0, 0, 0)] (pc' := 114) (lc' := [(0, (2, 3, 0)), (1, (0, 0, z9)), (2, (0, 0, z10)), (3, (0, 0, z11))]) (st' := [(1, 0, z11), (2, 3, 0)]) (M' := M14) (C' := True) (by decide +kernel) rfl trivial ?_
  refine ax_cVv_r hX (G1 := gX3_enters) (d1 := d + 0) (i := 345) (n := 1) (as := [(1, 0, z11)]) (st := []) (c := 3) (a := 0) (by decide +kernel) ax_cls3 calX3_enters (by omega) rfl wt_1256 wt_1258 ws_98 (Nat.le_of_ble_eq_true rfl) rfl (fun hY => c_X3_enters d z11 M14 hY) (fun M15 hX => ?_)
  refine ax_lump ax_layM ok_kX3 [(117, .iload_n 1, 1, 0, 0, 0)] (pc' := 118) (lc' := [(0, (2, 3, 0)), (1, (0, 0, z9)), (2, (0, 0, z10)), (3, (0, 0, z11))]) (st' := [(0, 0, z9)]) (M' := M15) (C' := True) (by decide +kernel) rfl trivial ?_
  exact ax_iret (by decide +kernel) rfl ⟨rfl, rfl, (show ((-1) : Int) ≤ z9 from by omega), (show z9 ≤ (23 : Int) from by omega)⟩
def f_X3_burst_B32 (w1 : Int) (w2 : Int) (i : Int)  (M : ax_M) (kc : ax_M → Prop × Int × ax_M) (kx : ax_M → Prop × Int × ax_M) : Prop × Int × ax_M := ax_rc (f_X3_writesOne 8 ((w1 + i) % 24) 0 M) (fun y7 => kc y7.2)
def f_X3_burst_L32 (w1 : Int) (w2 : Int) : Nat → Int → ax_M → (ax_M → Prop × Int × ax_M) → Prop × Int × ax_M
  | 0, i, M, kx => kx M
  | n + 1, i, M, kx => f_X3_burst_B32 w1 w2 i  M (fun M9 => f_X3_burst_L32 w1 w2 n (i + 1) M9 kx) kx
set_option maxRecDepth 100000 in
set_option maxHeartbeats 4000000 in
theorem wb_X3_burst_B32 (d : Nat) (w1 : Int) (w2 : Int) (i : Int)  (M : ax_M) (kc : ax_M → Prop × Int × ax_M) (kx : ax_M → Prop × Int × ax_M) (hw_w1 : 0 ≤ w1 ∧ w1 ≤ 23) (hw_w2 : 1 ≤ w2 ∧ w2 ≤ 24) (hi : 0 ≤ i ∧ i < w2)  (hkc : ∀ (M9 : ax_M), (kc M9).1 → ax_W ax_LM gX3_burst (d + 9) 32 [(0, (2, 3, 0)), (1, (0, 0, w1)), (2, (0, 0, w2)), (3, (0, 0, (i + 1)))] [] M9 ((ax_qm (-2147483648) 2147483647) (kc M9).2)) (hkx : ∀ (M9 : ax_M), (True) → (kx M9).1 → ax_W ax_LM gX3_burst (d + 9) 59 [(0, (2, 3, 0))] [] M9 ((ax_qm (-2147483648) 2147483647) (kx M9).2)) (hX : (f_X3_burst_B32 w1 w2 i  M kc kx).1) : ax_W ax_LM gX3_burst (d + 9) 37 [(0, (2, 3, 0)), (1, (0, 0, w1)), (2, (0, 0, w2)), (3, (0, 0, i))] [] M ((ax_qm (-2147483648) 2147483647) (f_X3_burst_B32 w1 w2 i  M kc kx).2) := by
  unfold f_X3_burst_B32 at hX ⊢
  refine ax_lump ax_layM ok_kX3 [(37, .aload_n 0, 1, 0, 0, 0), (38, .aload_n 0, 1, 0, 0, 0), (39, .getfield 141, 3, 3, 15, 0), (42, .iload_n 1, 1, 0, 0, 0), (43, .iload_n 3, 1, 0, 0, 0), (44, .iadd, 1, 1, 0, 0), (45, .bipush 24, 2, 0, 0, 0), (47, .irem, 1, 1, 0, 0), (48, .iconst 0, 1, 0, 0, 0)] (pc' := 49) (lc' := [(0, (2, 3, 0)), (1, (0, 0, w1)), (2, (0, 0, w2)), (3, (0, 0, i))]) (st' := [(0, 0, 0), (0, 0, ((w1 + i) % 24)), (3, 274, 8), (2, 3, 0)]) (M' := M) (C' := ((True ∧ ax_r32 (w1 + i)) ∧ (0 ≤ (w1 + i) ∧ 0 < 24))) (by decide +kernel) rfl ⟨⟨trivial, ⟨by omega, by omega⟩⟩, by omega⟩ ?_
  refine ax_cVm_r hX (G1 := gX3_writesOne) (d1 := d + 8) (i := 361) (n := 3) (as := [(3, 274, 8), (0, 0, ((w1 + i) % 24)), (0, 0, 0)]) (st := []) (c := 3) (a := 0) (by decide +kernel) ax_cls3 calX3_writesOne (by omega) rfl wt_1144 wt_1146 ws_83 (Nat.le_of_ble_eq_true rfl) rfl (fun hY => c_X3_writesOne d 8 ((w1 + i) % 24) 0 M (by omega) hY) (fun y7 h_y7 hX => ?_)
  refine ax_lump ax_layM ok_kX3 [(52, .pop, 1, 0, 0, 0), (53, .iinc 3 1, 3, 1, 0, 0), (56, .goto (-24), 3, 32, 0, 0)] (pc' := 32) (lc' := [(3, (0, 0, (i + 1))), (0, (2, 3, 0)), (1, (0, 0, w1)), (2, (0, 0, w2))]) (st' := []) (M' := y7.2) (C' := (True ∧ ax_r32 (i + 1))) (by decide +kernel) rfl ⟨trivial, ⟨by omega, by omega⟩⟩ ?_
  refine ax_pk [1,2,3,0] (lc' := [(0, (2, 3, 0)), (1, (0, 0, w1)), (2, (0, 0, w2)), (3, (0, 0, (i + 1)))]) rfl ?_
  exact hkc y7.2  hX
set_option maxRecDepth 100000 in
set_option maxHeartbeats 4000000 in
theorem w_X3_burst_L32 (d : Nat) (w1 : Int) (w2 : Int) (kx : ax_M → Prop × Int × ax_M) (hw_w1 : 0 ≤ w1 ∧ w1 ≤ 23) (hw_w2 : 1 ≤ w2 ∧ w2 ≤ 24) (hkx : ∀ (M9 : ax_M), (True) → (kx M9).1 → ax_W ax_LM gX3_burst (d + 9) 59 [(0, (2, 3, 0))] [] M9 ((ax_qm (-2147483648) 2147483647) (kx M9).2)) : ∀ (n : Nat) (i : Int) (M : ax_M), 0 ≤ i ∧ n = (w2 - i).toNat → (f_X3_burst_L32 w1 w2 n i  M kx).1 → ax_W ax_LM gX3_burst (d + 9) 32 [(0, (2, 3, 0)), (1, (0, 0, w1)), (2, (0, 0, w2)), (3, (0, 0, i))] [] M ((ax_qm (-2147483648) 2147483647) (f_X3_burst_L32 w1 w2 n i  M kx).2) := by
  intro n
  induction n with
  | zero =>
    intro i M hin hX
    refine ax_lump ax_layM ok_kX3 [(32, .iload_n 3, 1, 0, 0, 0), (33, .iload_n 2, 1, 0, 0, 0)] (pc' := 34) (lc' := [(0, (2, 3, 0)), (1, (0, 0, w1)), (2, (0, 0, w2)), (3, (0, 0, i))]) (st' := [(0, 0, w2), (0, 0, i)]) (M' := M) (C' := True) (by decide +kernel) rfl trivial ?_
    refine ax_icmp_ge (off := 25) (tgt := 59) (by decide +kernel) (by decide) (fun h => ?_) (fun h => ?_)
    · refine ax_pk [0] (lc' := [(0, (2, 3, 0))]) rfl ?_
      exact hkx M trivial hX
    · exfalso; omega
  | succ n ih =>
    intro i M hin hX
    refine ax_lump ax_layM ok_kX3 [(32, .iload_n 3, 1, 0, 0, 0), (33, .iload_n 2, 1, 0, 0, 0)] (pc' := 34) (lc' := [(0, (2, 3, 0)), (1, (0, 0, w1)), (2, (0, 0, w2)), (3, (0, 0, i))]) (st' := [(0, 0, w2), (0, 0, i)]) (M' := M) (C' := True) (by decide +kernel) rfl trivial ?_
    refine ax_icmp_ge (off := 25) (tgt := 59) (by decide +kernel) (by decide) (fun h => ?_) (fun h => ?_)
    · exfalso; omega
    · exact wb_X3_burst_B32 d w1 w2 i  M _ kx hw_w1 hw_w2 (by omega)  (fun M9 hX => ih (i + 1)  M9 (by omega)  hX) hkx hX
def f_X3_burst (x1 : Int) (x2 : Int) (M : ax_M) : Prop × Int × ax_M := ax_bd (ax_up M 0 0 0) (fun M1 => (if (f_X3_isPage x1 M1) = 0 then (True, ((-1), M1)) else (if (f_X3_in x2 1 24 M1) ≠ 0 then ax_bd (f_X3_copiesAll M1) (fun M6 => f_X3_burst_L32 x1 x2 (x2 - 0).toNat 0  M6 (fun M8 => ax_bd (ax_up M8 0 1 0) (fun M9 => ax_rc (f_X3_enters (ax_wr ((M9 8 266) - (M9 0 27))) M9) (fun M10 => ax_rc (f_X3_enters (ax_wr ((M10 8 267) - (M10 7 267))) M10) (fun M11 => ax_rc (f_X3_enters (ax_wr ((M11 8 268) - (M11 7 268))) M11) (fun M12 => ax_rc (f_X3_enters (ax_wr ((M12 8 269) - (M12 7 269))) M12) (fun M13 => (True, ((ax_wr ((M13 8 265) - (M13 0 26))), M13))))))))) else (True, ((-1), M1)))))
set_option maxRecDepth 100000 in
set_option maxHeartbeats 4000000 in
theorem c_X3_burst (d : Nat) (x1 : Int) (x2 : Int) (M : ax_M)  (hX : (f_X3_burst x1 x2 M).1) : ax_Met ax_LM gX3_burst (d + 9) [(2, 3, 0), (0, 0, x1), (0, 0, x2)] M ((ax_qm (-2147483648) 2147483647) (f_X3_burst x1 x2 M).2) := by
  refine ax_body (by decide) (fun X => Nat.le_of_ble_eq_true rfl) (fun hok => ?_)
  have hr_x1 : (-2147483648) ≤ x1 ∧ x1 ≤ 2147483647 := hok (0, 0, x1) (by simp)
  have hr_x2 : (-2147483648) ≤ x2 ∧ x2 ≤ 2147483647 := hok (0, 0, x2) (by simp)
  show ax_W ax_LM gX3_burst (d + 9) 0 [(0, (2, 3, 0)), (1, (0, 0, x1)), (2, (0, 0, x2))] [] M _
  unfold f_X3_burst at hX ⊢
  refine ax_lump ax_layM ok_kX3 [(0, .aload_n 0, 1, 0, 0, 0), (1, .iconst 0, 1, 0, 0, 0), (2, .putfield 3, 3, 3, 0, 0)] (pc' := 5) (lc' := [(0, (2, 3, 0)), (1, (0, 0, x1)), (2, (0, 0, x2))]) (st' := []) (M' := (ax_up M 0 0 0)) (C' := (True ∧ (0 ≤ 0 ∧ 0 < ((2 : Nat) : Int)))) (by decide +kernel) rfl ⟨trivial, by omega⟩ ?_
  refine ax_bdMe_s hX (fun M1 hM_M1 hX => ?_)
  refine ax_lump ax_layM ok_kX3 [(5, .iload_n 1, 1, 0, 0, 0)] (pc' := 6) (lc' := [(0, (2, 3, 0)), (1, (0, 0, x1)), (2, (0, 0, x2))]) (st' := [(0, 0, x1)]) (M' := M1) (C' := True) (by decide +kernel) rfl trivial ?_
  refine ax_cSi (G1 := gX3_isPage) (d1 := d + 1) (i := 349) (n := 1) (as := [(0, 0, x1)]) (st := []) (by decide +kernel) calX3_isPage (by omega) rfl wt_1131 wt_1132 (Nat.le_of_ble_eq_true rfl) rfl (c_X3_isPage d x1 M1) (fun hc2 => ?_)
  refine ax_zeq_s hX (off := 15) (tgt := 24) (by decide +kernel) (by decide) (fun h3 hX => ?_) (fun h3 hX => ?_)
  · refine ax_lump ax_layM ok_kX3 [(24, .iconst (-1), 1, 0, 0, 0)] (pc' := 25) (lc' := [(0, (2, 3, 0)), (1, (0, 0, x1)), (2, (0, 0, x2))]) (st' := [(0, 0, (-1))]) (M' := M1) (C' := True) (by decide +kernel) rfl trivial ?_
    refine ax_rngS (fun hr => ?_)
    exact ax_iret (by decide +kernel) rfl ⟨rfl, rfl, hr.1, hr.2⟩
  · have hgh3 := g_X3_isPage h3
    refine ax_lump ax_layM ok_kX3 [(12, .iload_n 2, 1, 0, 0, 0), (13, .i2l, 1, 0, 0, 0), (14, .lconst 1, 1, 0, 0, 0), (15, .ldc2_w 427, 3, 0, 0, 24)] (pc' := 18) (lc' := [(0, (2, 3, 0)), (1, (0, 0, x1)), (2, (0, 0, x2))]) (st' := [(1, 0, 24), (1, 0, 1), (1, 0, x2)]) (M' := M1) (C' := True) (by decide +kernel) rfl trivial ?_
    refine ax_cSi (G1 := gX3_in) (d1 := d + 0) (i := 25) (n := 3) (as := [(1, 0, x2), (1, 0, 1), (1, 0, 24)]) (st := []) (by decide +kernel) calX3_in (by omega) rfl wt_875 wt_876 (Nat.le_of_ble_eq_true rfl) rfl (c_X3_in d x2 1 24 M1) (fun hc4 => ?_)
    refine ax_zne_s hX (off := 5) (tgt := 26) (by decide +kernel) (by decide) (fun h5 hX => ?_) (fun h5 hX => ?_)
    · have hgh5 := g_X3_in h5
      refine ax_lump ax_layM ok_kX3 [(26, .aload_n 0, 1, 0, 0, 0)] (pc' := 27) (lc' := [(0, (2, 3, 0)), (1, (0, 0, x1)), (2, (0, 0, x2))]) (st' := [(2, 3, 0)]) (M' := M1) (C' := True) (by decide +kernel) rfl trivial ?_
      refine ax_cVv_s hX (G1 := gX3_copiesAll) (d1 := d + 1) (i := 421) (n := 0) (as := []) (st := []) (c := 3) (a := 0) (by decide +kernel) ax_cls3 calX3_copiesAll (by omega) rfl wt_1380 wt_1382 ws_112 (Nat.le_of_ble_eq_true rfl) rfl (c_X3_copiesAll d  M1) (fun M6 hX => ?_)
      refine ax_lump ax_layM ok_kX3 [(30, .iconst 0, 1, 0, 0, 0), (31, .istore_n 3, 1, 0, 0, 0)] (pc' := 32) (lc' := [(3, (0, 0, 0)), (0, (2, 3, 0)), (1, (0, 0, x1)), (2, (0, 0, x2))]) (st' := []) (M' := M6) (C' := True) (by decide +kernel) rfl trivial ?_
      refine ax_pk [1,2,3,0] (lc' := [(0, (2, 3, 0)), (1, (0, 0, x1)), (2, (0, 0, x2)), (3, (0, 0, 0))]) rfl ?_
      refine w_X3_burst_L32 d x1 x2 _ (by omega) (by omega) (fun M8 hx_8 hX => ?_) (x2 - 0).toNat 0  M6 (by omega)  hX
      refine ax_lump ax_layM ok_kX3 [(59, .aload_n 0, 1, 0, 0, 0), (60, .iconst 0, 1, 0, 0, 0), (61, .putfield 15, 3, 3, 1, 0)] (pc' := 64) (lc' := [(0, (2, 3, 0))]) (st' := []) (M' := (ax_up M8 0 1 0)) (C' := (True ∧ (0 ≤ 0 ∧ 0 < ((25 : Nat) : Int)))) (by decide +kernel) rfl ⟨trivial, by omega⟩ ?_
      refine ax_bdMe_s hX (fun M9 hM_M9 hX => ?_)
      refine ax_lump ax_layM ok_kX3 [(64, .aload_n 0, 1, 0, 0, 0), (65, .aload_n 0, 1, 0, 0, 0), (66, .getfield 141, 3, 3, 15, 0), (69, .sipush 266, 3, 0, 0, 0), (72, .iaload, 1, 0, 0, 0), (73, .aload_n 0, 1, 0, 0, 0), (74, .getfield 342, 3, 3, 27, 0), (77, .isub, 1, 0, 0, 0), (78, .i2l, 1, 0, 0, 0)] (pc' := 79) (lc' := [(0, (2, 3, 0))]) (st' := [(1, 0, (ax_wr ((M9 8 266) - (M9 0 27)))), (2, 3, 0)]) (M' := M9) (C' := (True ∧ (0 ≤ 266 ∧ 266 < ((274 : Nat) : Int)))) (by decide +kernel) rfl ⟨trivial, by omega⟩ ?_
      refine ax_cVv_r hX (G1 := gX3_enters) (d1 := d + 0) (i := 345) (n := 1) (as := [(1, 0, (ax_wr ((M9 8 266) - (M9 0 27))))]) (st := []) (c := 3) (a := 0) (by decide +kernel) ax_cls3 calX3_enters (by omega) rfl wt_1256 wt_1258 ws_98 (Nat.le_of_ble_eq_true rfl) rfl (fun hY => c_X3_enters d (ax_wr ((M9 8 266) - (M9 0 27))) M9 hY) (fun M10 hX => ?_)
      refine ax_lump ax_layM ok_kX3 [(82, .aload_n 0, 1, 0, 0, 0), (83, .aload_n 0, 1, 0, 0, 0), (84, .getfield 141, 3, 3, 15, 0), (87, .sipush 267, 3, 0, 0, 0), (90, .iaload, 1, 0, 0, 0), (91, .aload_n 0, 1, 0, 0, 0), (92, .getfield 138, 3, 3, 14, 0), (95, .sipush 267, 3, 0, 0, 0), (98, .iaload, 1, 0, 0, 0), (99, .isub, 1, 0, 0, 0), (100, .i2l, 1, 0, 0, 0)] (pc' := 101) (lc' := [(0, (2, 3, 0))]) (st' := [(1, 0, (ax_wr ((M10 8 267) - (M10 7 267)))), (2, 3, 0)]) (M' := M10) (C' := ((True ∧ (0 ≤ 267 ∧ 267 < ((274 : Nat) : Int))) ∧ (0 ≤ 267 ∧ 267 < ((274 : Nat) : Int)))) (by decide +kernel) rfl ⟨⟨trivial, by omega⟩, by omega⟩ ?_
      refine ax_cVv_r hX (G1 := gX3_enters) (d1 := d + 0) (i := 345) (n := 1) (as := [(1, 0, (ax_wr ((M10 8 267) - (M10 7 267))))]) (st := []) (c := 3) (a := 0) (by decide +kernel) ax_cls3 calX3_enters (by omega) rfl wt_1256 wt_1258 ws_98 (Nat.le_of_ble_eq_true rfl) rfl (fun hY => c_X3_enters d (ax_wr ((M10 8 267) - (M10 7 267))) M10 hY) (fun M11 hX => ?_)
      refine ax_lump ax_layM ok_kX3 [(104, .aload_n 0, 1, 0, 0, 0), (105, .aload_n 0, 1, 0, 0, 0), (106, .getfield 141, 3, 3, 15, 0), (109, .sipush 268, 3, 0, 0, 0), (112, .iaload, 1, 0, 0, 0), (113, .aload_n 0, 1, 0, 0, 0), (114, .getfield 138, 3, 3, 14, 0), (117, .sipush 268, 3, 0, 0, 0), (120, .iaload, 1, 0, 0, 0), (121, .isub, 1, 0, 0, 0), (122, .i2l, 1, 0, 0, 0)] (pc' := 123) (lc' := [(0, (2, 3, 0))]) (st' := [(1, 0, (ax_wr ((M11 8 268) - (M11 7 268)))), (2, 3, 0)]) (M' := M11) (C' := ((True ∧ (0 ≤ 268 ∧ 268 < ((274 : Nat) : Int))) ∧ (0 ≤ 268 ∧ 268 < ((274 : Nat) : Int)))) (by decide +kernel) rfl ⟨⟨trivial, by omega⟩, by omega⟩ ?_
      refine ax_cVv_r hX (G1 := gX3_enters) (d1 := d + 0) (i := 345) (n := 1) (as := [(1, 0, (ax_wr ((M11 8 268) - (M11 7 268))))]) (st := []) (c := 3) (a := 0) (by decide +kernel) ax_cls3 calX3_enters (by omega) rfl wt_1256 wt_1258 ws_98 (Nat.le_of_ble_eq_true rfl) rfl (fun hY => c_X3_enters d (ax_wr ((M11 8 268) - (M11 7 268))) M11 hY) (fun M12 hX => ?_)
      refine ax_lump ax_layM ok_kX3 [(126, .aload_n 0, 1, 0, 0, 0), (127, .aload_n 0, 1, 0, 0, 0), (128, .getfield 141, 3, 3, 15, 0), (131, .sipush 269, 3, 0, 0, 0), (134, .iaload, 1, 0, 0, 0), (135, .aload_n 0, 1, 0, 0, 0), (136, .getfield 138, 3, 3, 14, 0), (139, .sipush 269, 3, 0, 0, 0), (142, .iaload, 1, 0, 0, 0), (143, .isub, 1, 0, 0, 0), (144, .i2l, 1, 0, 0, 0)] (pc' := 145) (lc' := [(0, (2, 3, 0))]) (st' := [(1, 0, (ax_wr ((M12 8 269) - (M12 7 269)))), (2, 3, 0)]) (M' := M12) (C' := ((True ∧ (0 ≤ 269 ∧ 269 < ((274 : Nat) : Int))) ∧ (0 ≤ 269 ∧ 269 < ((274 : Nat) : Int)))) (by decide +kernel) rfl ⟨⟨trivial, by omega⟩, by omega⟩ ?_
      refine ax_cVv_r hX (G1 := gX3_enters) (d1 := d + 0) (i := 345) (n := 1) (as := [(1, 0, (ax_wr ((M12 8 269) - (M12 7 269))))]) (st := []) (c := 3) (a := 0) (by decide +kernel) ax_cls3 calX3_enters (by omega) rfl wt_1256 wt_1258 ws_98 (Nat.le_of_ble_eq_true rfl) rfl (fun hY => c_X3_enters d (ax_wr ((M12 8 269) - (M12 7 269))) M12 hY) (fun M13 hX => ?_)
      refine ax_lump ax_layM ok_kX3 [(148, .aload_n 0, 1, 0, 0, 0), (149, .getfield 141, 3, 3, 15, 0), (152, .sipush 265, 3, 0, 0, 0), (155, .iaload, 1, 0, 0, 0), (156, .aload_n 0, 1, 0, 0, 0), (157, .getfield 339, 3, 3, 26, 0), (160, .isub, 1, 0, 0, 0)] (pc' := 161) (lc' := [(0, (2, 3, 0))]) (st' := [(0, 0, (ax_wr ((M13 8 265) - (M13 0 26))))]) (M' := M13) (C' := (True ∧ (0 ≤ 265 ∧ 265 < ((274 : Nat) : Int)))) (by decide +kernel) rfl ⟨trivial, by omega⟩ ?_
      refine ax_rngS (fun hr => ?_)
      exact ax_iret (by decide +kernel) rfl ⟨rfl, rfl, hr.1, hr.2⟩
    · refine ax_lump ax_layM ok_kX3 [(24, .iconst (-1), 1, 0, 0, 0)] (pc' := 25) (lc' := [(0, (2, 3, 0)), (1, (0, 0, x1)), (2, (0, 0, x2))]) (st' := [(0, 0, (-1))]) (M' := M1) (C' := True) (by decide +kernel) rfl trivial ?_
      refine ax_rngS (fun hr => ?_)
      exact ax_iret (by decide +kernel) rfl ⟨rfl, rfl, hr.1, hr.2⟩
def f_X3_lasts_B41 (w1 : Int) (w2 : Int) (w3 : Int) (M : ax_M) (i : Nat)  (kc : Unit → Prop × Int × ax_M) (kx : Unit → Prop × Int × ax_M) : Prop × Int × ax_M := (if (M 8 (224 + (i : Int)).toNat) < w2 then kc () else ax_bd (ax_up M 0 1 0) (fun M8 => ax_rc (f_X3_enters (i : Int) M8) (fun M9 => ax_rc (f_X3_enters (ax_wr ((M9 8 265) - (M9 0 26))) M9) (fun M10 => (True, (w3, M10))))))
def f_X3_lasts_L41 (w1 : Int) (w2 : Int) (w3 : Int) (M : ax_M) : Nat → Nat → (Unit → Prop × Int × ax_M) → Prop × Int × ax_M
  | 0, i, kx => kx ()
  | n + 1, i, kx => f_X3_lasts_B41 w1 w2 w3 M i  (fun _ => f_X3_lasts_L41 w1 w2 w3 M n (i + 1)  kx) kx
set_option maxRecDepth 100000 in
set_option maxHeartbeats 4000000 in
theorem wb_X3_lasts_B41 (d : Nat) (w1 : Int) (w2 : Int) (w3 : Int) (M : ax_M) (i : Nat)  (kc : Unit → Prop × Int × ax_M) (kx : Unit → Prop × Int × ax_M) (hw_w1 : 0 ≤ w1 ∧ w1 ≤ 23) (hw_w2 : 1 ≤ w2 ∧ w2 ≤ 999) (hw_w3 : 0 ≤ w3 ∧ w3 ≤ 99) (hi : 0 ≤ i ∧ i < 16)  (hkc : ∀ (_ : Unit), (kc ()).1 → ax_W ax_LM gX3_lasts (d + 9) 41 [(0, (2, 3, 0)), (1, (0, 0, w1)), (2, (0, 0, w2)), (3, (0, 0, w3)), (4, (0, 0, ((i : Int) + 1)))] [] M ((ax_qm (-2) 99) (kc ()).2)) (hkx : ∀ (_ : Unit), (True) → (kx ()).1 → ax_W ax_LM gX3_lasts (d + 9) 101 [(0, (2, 3, 0)), (1, (0, 0, w1)), (2, (0, 0, w2)), (3, (0, 0, w3))] [] M ((ax_qm (-2) 99) (kx ()).2)) (hX : (f_X3_lasts_B41 w1 w2 w3 M i  kc kx).1) : ax_W ax_LM gX3_lasts (d + 9) 48 [(0, (2, 3, 0)), (1, (0, 0, w1)), (2, (0, 0, w2)), (3, (0, 0, w3)), (4, (0, 0, (i : Int)))] [] M ((ax_qm (-2) 99) (f_X3_lasts_B41 w1 w2 w3 M i  kc kx).2) := by
  unfold f_X3_lasts_B41 at hX ⊢
  refine ax_lump ax_layM ok_kX3 [(48, .aload_n 0, 1, 0, 0, 0), (49, .getfield 141, 3, 3, 15, 0), (52, .sipush 224, 3, 0, 0, 0), (55, .iload 4, 2, 0, 0, 0), (57, .iadd, 1, 1, 0, 0), (58, .iaload, 1, 0, 0, 0), (59, .iload_n 2, 1, 0, 0, 0)] (pc' := 60) (lc' := [(0, (2, 3, 0)), (1, (0, 0, w1)), (2, (0, 0, w2)), (3, (0, 0, w3)), (4, (0, 0, (i : Int)))]) (st' := [(0, 0, w2), (0, 0, (M 8 (224 + (i : Int)).toNat))]) (M' := M) (C' := ((True ∧ ax_r32 (224 + (i : Int))) ∧ (0 ≤ (224 + (i : Int)) ∧ (224 + (i : Int)) < ((274 : Nat) : Int)))) (by decide +kernel) rfl ⟨⟨trivial, ⟨by omega, by omega⟩⟩, by omega⟩ ?_
  refine ax_jlt_s hX (off := 35) (tgt := 95) (by decide +kernel) (by decide) (fun h7 hX => ?_) (fun h7 hX => ?_)
  · refine ax_lump ax_layM ok_kX3 [(95, .iinc 4 1, 3, 1, 0, 0), (98, .goto (-57), 3, 41, 0, 0)] (pc' := 41) (lc' := [(4, (0, 0, ((i : Int) + 1))), (0, (2, 3, 0)), (1, (0, 0, w1)), (2, (0, 0, w2)), (3, (0, 0, w3))]) (st' := []) (M' := M) (C' := (True ∧ ax_r32 ((i : Int) + 1))) (by decide +kernel) rfl ⟨trivial, ⟨by omega, by omega⟩⟩ ?_
    refine ax_pk [1,2,3,4,0] (lc' := [(0, (2, 3, 0)), (1, (0, 0, w1)), (2, (0, 0, w2)), (3, (0, 0, w3)), (4, (0, 0, ((i : Int) + 1)))]) rfl ?_
    exact hkc ()  hX
  · refine ax_lump ax_layM ok_kX3 [(63, .aload_n 0, 1, 0, 0, 0), (64, .iconst 0, 1, 0, 0, 0), (65, .putfield 15, 3, 3, 1, 0)] (pc' := 68) (lc' := [(0, (2, 3, 0)), (1, (0, 0, w1)), (2, (0, 0, w2)), (3, (0, 0, w3)), (4, (0, 0, (i : Int)))]) (st' := []) (M' := (ax_up M 0 1 0)) (C' := (True ∧ (0 ≤ 0 ∧ 0 < ((25 : Nat) : Int)))) (by decide +kernel) rfl ⟨trivial, by omega⟩ ?_
    refine ax_bdMe_s hX (fun M8 hM_M8 hX => ?_)
    refine ax_lump ax_layM ok_kX3 [(68, .aload_n 0, 1, 0, 0, 0), (69, .iload 4, 2, 0, 0, 0), (71, .i2l, 1, 0, 0, 0)] (pc' := 72) (lc' := [(0, (2, 3, 0)), (1, (0, 0, w1)), (2, (0, 0, w2)), (3, (0, 0, w3)), (4, (0, 0, (i : Int)))]) (st' := [(1, 0, (i : Int)), (2, 3, 0)]) (M' := M8) (C' := True) (by decide +kernel) rfl trivial ?_
    refine ax_cVv_r hX (G1 := gX3_enters) (d1 := d + 0) (i := 345) (n := 1) (as := [(1, 0, (i : Int))]) (st := []) (c := 3) (a := 0) (by decide +kernel) ax_cls3 calX3_enters (by omega) rfl wt_1256 wt_1258 ws_98 (Nat.le_of_ble_eq_true rfl) rfl (fun hY => c_X3_enters d (i : Int) M8 hY) (fun M9 hX => ?_)
    refine ax_lump ax_layM ok_kX3 [(75, .aload_n 0, 1, 0, 0, 0), (76, .aload_n 0, 1, 0, 0, 0), (77, .getfield 141, 3, 3, 15, 0), (80, .sipush 265, 3, 0, 0, 0), (83, .iaload, 1, 0, 0, 0), (84, .aload_n 0, 1, 0, 0, 0), (85, .getfield 339, 3, 3, 26, 0), (88, .isub, 1, 0, 0, 0), (89, .i2l, 1, 0, 0, 0)] (pc' := 90) (lc' := [(0, (2, 3, 0)), (1, (0, 0, w1)), (2, (0, 0, w2)), (3, (0, 0, w3)), (4, (0, 0, (i : Int)))]) (st' := [(1, 0, (ax_wr ((M9 8 265) - (M9 0 26)))), (2, 3, 0)]) (M' := M9) (C' := (True ∧ (0 ≤ 265 ∧ 265 < ((274 : Nat) : Int)))) (by decide +kernel) rfl ⟨trivial, by omega⟩ ?_
    refine ax_cVv_r hX (G1 := gX3_enters) (d1 := d + 0) (i := 345) (n := 1) (as := [(1, 0, (ax_wr ((M9 8 265) - (M9 0 26))))]) (st := []) (c := 3) (a := 0) (by decide +kernel) ax_cls3 calX3_enters (by omega) rfl wt_1256 wt_1258 ws_98 (Nat.le_of_ble_eq_true rfl) rfl (fun hY => c_X3_enters d (ax_wr ((M9 8 265) - (M9 0 26))) M9 hY) (fun M10 hX => ?_)
    refine ax_lump ax_layM ok_kX3 [(93, .iload_n 3, 1, 0, 0, 0)] (pc' := 94) (lc' := [(0, (2, 3, 0)), (1, (0, 0, w1)), (2, (0, 0, w2)), (3, (0, 0, w3)), (4, (0, 0, (i : Int)))]) (st' := [(0, 0, w3)]) (M' := M10) (C' := True) (by decide +kernel) rfl trivial ?_
    exact ax_iret (by decide +kernel) rfl ⟨rfl, rfl, (show ((-2) : Int) ≤ w3 from by omega), (show w3 ≤ (99 : Int) from by omega)⟩
set_option maxRecDepth 100000 in
set_option maxHeartbeats 4000000 in
theorem w_X3_lasts_L41 (d : Nat) (w1 : Int) (w2 : Int) (w3 : Int) (M : ax_M) (kx : Unit → Prop × Int × ax_M) (hw_w1 : 0 ≤ w1 ∧ w1 ≤ 23) (hw_w2 : 1 ≤ w2 ∧ w2 ≤ 999) (hw_w3 : 0 ≤ w3 ∧ w3 ≤ 99) (hkx : ∀ (_ : Unit), (True) → (kx ()).1 → ax_W ax_LM gX3_lasts (d + 9) 101 [(0, (2, 3, 0)), (1, (0, 0, w1)), (2, (0, 0, w2)), (3, (0, 0, w3))] [] M ((ax_qm (-2) 99) (kx ()).2)) : ∀ (n : Nat) (i : Nat), 0 ≤ i ∧ i + n = 16 → (f_X3_lasts_L41 w1 w2 w3 M n i  kx).1 → ax_W ax_LM gX3_lasts (d + 9) 41 [(0, (2, 3, 0)), (1, (0, 0, w1)), (2, (0, 0, w2)), (3, (0, 0, w3)), (4, (0, 0, (i : Int)))] [] M ((ax_qm (-2) 99) (f_X3_lasts_L41 w1 w2 w3 M n i  kx).2) := by
  intro n
  induction n with
  | zero =>
    intro i hin hX
    refine ax_lump ax_layM ok_kX3 [(41, .iload 4, 2, 0, 0, 0), (43, .bipush 16, 2, 0, 0, 0)] (pc' := 45) (lc' := [(0, (2, 3, 0)), (1, (0, 0, w1)), (2, (0, 0, w2)), (3, (0, 0, w3)), (4, (0, 0, (i : Int)))]) (st' := [(0, 0, 16), (0, 0, (i : Int))]) (M' := M) (C' := True) (by decide +kernel) rfl trivial ?_
    refine ax_icmp_ge (off := 56) (tgt := 101) (by decide +kernel) (by decide) (fun h => ?_) (fun h => ?_)
    · refine ax_pk [0,1,2,3] (lc' := [(0, (2, 3, 0)), (1, (0, 0, w1)), (2, (0, 0, w2)), (3, (0, 0, w3))]) rfl ?_
      exact hkx () trivial hX
    · exfalso; omega
  | succ n ih =>
    intro i hin hX
    refine ax_lump ax_layM ok_kX3 [(41, .iload 4, 2, 0, 0, 0), (43, .bipush 16, 2, 0, 0, 0)] (pc' := 45) (lc' := [(0, (2, 3, 0)), (1, (0, 0, w1)), (2, (0, 0, w2)), (3, (0, 0, w3)), (4, (0, 0, (i : Int)))]) (st' := [(0, 0, 16), (0, 0, (i : Int))]) (M' := M) (C' := True) (by decide +kernel) rfl trivial ?_
    refine ax_icmp_ge (off := 56) (tgt := 101) (by decide +kernel) (by decide) (fun h => ?_) (fun h => ?_)
    · exfalso; omega
    · exact wb_X3_lasts_B41 d w1 w2 w3 M i  _ kx hw_w1 hw_w2 hw_w3 (by omega)  (fun _ hX => ih (i + 1)  (by omega)  hX) hkx hX
def f_X3_lasts_B32 (w1 : Int) (w2 : Int) (i : Nat)  (M : ax_M) (kc : ax_M → Prop × Int × ax_M) (kx : ax_M → Prop × Int × ax_M) : Prop × Int × ax_M := f_X3_lasts_L41 w1 w2 (i : Int) M 16 0  (fun (_ : Unit) => ax_rc (f_X3_writesOne 8 w1 0 M) (fun y11 => kc y11.2))
def f_X3_lasts_L32 (w1 : Int) (w2 : Int) : Nat → Nat → ax_M → (ax_M → Prop × Int × ax_M) → Prop × Int × ax_M
  | 0, i, M, kx => kx M
  | n + 1, i, M, kx => f_X3_lasts_B32 w1 w2 i  M (fun M9 => f_X3_lasts_L32 w1 w2 n (i + 1) M9 kx) kx
set_option maxRecDepth 100000 in
set_option maxHeartbeats 4000000 in
theorem wb_X3_lasts_B32 (d : Nat) (w1 : Int) (w2 : Int) (i : Nat)  (M : ax_M) (kc : ax_M → Prop × Int × ax_M) (kx : ax_M → Prop × Int × ax_M) (hw_w1 : 0 ≤ w1 ∧ w1 ≤ 23) (hw_w2 : 1 ≤ w2 ∧ w2 ≤ 999) (hi : 0 ≤ i ∧ i < 100)  (hkc : ∀ (M9 : ax_M), (kc M9).1 → ax_W ax_LM gX3_lasts (d + 9) 32 [(0, (2, 3, 0)), (1, (0, 0, w1)), (2, (0, 0, w2)), (3, (0, 0, ((i : Int) + 1)))] [] M9 ((ax_qm (-2) 99) (kc M9).2)) (hkx : ∀ (M9 : ax_M), (True) → (kx M9).1 → ax_W ax_LM gX3_lasts (d + 9) 118 [] [] M9 ((ax_qm (-2) 99) (kx M9).2)) (hX : (f_X3_lasts_B32 w1 w2 i  M kc kx).1) : ax_W ax_LM gX3_lasts (d + 9) 38 [(0, (2, 3, 0)), (1, (0, 0, w1)), (2, (0, 0, w2)), (3, (0, 0, (i : Int)))] [] M ((ax_qm (-2) 99) (f_X3_lasts_B32 w1 w2 i  M kc kx).2) := by
  unfold f_X3_lasts_B32 at hX ⊢
  refine ax_lump ax_layM ok_kX3 [(38, .iconst 0, 1, 0, 0, 0), (39, .istore 4, 2, 0, 0, 0)] (pc' := 41) (lc' := [(4, (0, 0, 0)), (0, (2, 3, 0)), (1, (0, 0, w1)), (2, (0, 0, w2)), (3, (0, 0, (i : Int)))]) (st' := []) (M' := M) (C' := True) (by decide +kernel) rfl trivial ?_
  refine ax_pk [1,2,3,4,0] (lc' := [(0, (2, 3, 0)), (1, (0, 0, w1)), (2, (0, 0, w2)), (3, (0, 0, (i : Int))), (4, (0, 0, 0))]) rfl ?_
  refine w_X3_lasts_L41 d w1 w2 (i : Int) M _ (by omega) (by omega) (by omega) (fun _ hx_10 hX => ?_) 16 0  (by omega)  hX
  refine ax_lump ax_layM ok_kX3 [(101, .aload_n 0, 1, 0, 0, 0), (102, .aload_n 0, 1, 0, 0, 0), (103, .getfield 141, 3, 3, 15, 0), (106, .iload_n 1, 1, 0, 0, 0), (107, .iconst 0, 1, 0, 0, 0)] (pc' := 108) (lc' := [(0, (2, 3, 0)), (1, (0, 0, w1)), (2, (0, 0, w2)), (3, (0, 0, (i : Int)))]) (st' := [(0, 0, 0), (0, 0, w1), (3, 274, 8), (2, 3, 0)]) (M' := M) (C' := True) (by decide +kernel) rfl trivial ?_
  refine ax_cVm_r hX (G1 := gX3_writesOne) (d1 := d + 8) (i := 361) (n := 3) (as := [(3, 274, 8), (0, 0, w1), (0, 0, 0)]) (st := []) (c := 3) (a := 0) (by decide +kernel) ax_cls3 calX3_writesOne (by omega) rfl wt_1144 wt_1146 ws_83 (Nat.le_of_ble_eq_true rfl) rfl (fun hY => c_X3_writesOne d 8 w1 0 M (by omega) hY) (fun y11 h_y11 hX => ?_)
  refine ax_lump ax_layM ok_kX3 [(111, .pop, 1, 0, 0, 0), (112, .iinc 3 1, 3, 1, 0, 0), (115, .goto (-83), 3, 32, 0, 0)] (pc' := 32) (lc' := [(3, (0, 0, ((i : Int) + 1))), (0, (2, 3, 0)), (1, (0, 0, w1)), (2, (0, 0, w2))]) (st' := []) (M' := y11.2) (C' := (True ∧ ax_r32 ((i : Int) + 1))) (by decide +kernel) rfl ⟨trivial, ⟨by omega, by omega⟩⟩ ?_
  refine ax_pk [1,2,3,0] (lc' := [(0, (2, 3, 0)), (1, (0, 0, w1)), (2, (0, 0, w2)), (3, (0, 0, ((i : Int) + 1)))]) rfl ?_
  exact hkc y11.2  hX
set_option maxRecDepth 100000 in
set_option maxHeartbeats 4000000 in
theorem w_X3_lasts_L32 (d : Nat) (w1 : Int) (w2 : Int) (kx : ax_M → Prop × Int × ax_M) (hw_w1 : 0 ≤ w1 ∧ w1 ≤ 23) (hw_w2 : 1 ≤ w2 ∧ w2 ≤ 999) (hkx : ∀ (M9 : ax_M), (True) → (kx M9).1 → ax_W ax_LM gX3_lasts (d + 9) 118 [] [] M9 ((ax_qm (-2) 99) (kx M9).2)) : ∀ (n : Nat) (i : Nat) (M : ax_M), 0 ≤ i ∧ i + n = 100 → (f_X3_lasts_L32 w1 w2 n i  M kx).1 → ax_W ax_LM gX3_lasts (d + 9) 32 [(0, (2, 3, 0)), (1, (0, 0, w1)), (2, (0, 0, w2)), (3, (0, 0, (i : Int)))] [] M ((ax_qm (-2) 99) (f_X3_lasts_L32 w1 w2 n i  M kx).2) := by
  intro n
  induction n with
  | zero =>
    intro i M hin hX
    refine ax_lump ax_layM ok_kX3 [(32, .iload_n 3, 1, 0, 0, 0), (33, .bipush 99, 2, 0, 0, 0)] (pc' := 35) (lc' := [(0, (2, 3, 0)), (1, (0, 0, w1)), (2, (0, 0, w2)), (3, (0, 0, (i : Int)))]) (st' := [(0, 0, 99), (0, 0, (i : Int))]) (M' := M) (C' := True) (by decide +kernel) rfl trivial ?_
    refine ax_icmp_gt (off := 83) (tgt := 118) (by decide +kernel) (by decide) (fun h => ?_) (fun h => ?_)
    · refine ax_pk [] (lc' := []) rfl ?_
      exact hkx M trivial hX
    · exfalso; omega
  | succ n ih =>
    intro i M hin hX
    refine ax_lump ax_layM ok_kX3 [(32, .iload_n 3, 1, 0, 0, 0), (33, .bipush 99, 2, 0, 0, 0)] (pc' := 35) (lc' := [(0, (2, 3, 0)), (1, (0, 0, w1)), (2, (0, 0, w2)), (3, (0, 0, (i : Int)))]) (st' := [(0, 0, 99), (0, 0, (i : Int))]) (M' := M) (C' := True) (by decide +kernel) rfl trivial ?_
    refine ax_icmp_gt (off := 83) (tgt := 118) (by decide +kernel) (by decide) (fun h => ?_) (fun h => ?_)
    · exfalso; omega
    · exact wb_X3_lasts_B32 d w1 w2 i  M _ kx hw_w1 hw_w2 (by omega)  (fun M9 hX => ih (i + 1)  M9 (by omega)  hX) hkx hX
def f_X3_lasts (x1 : Int) (x2 : Int) (M : ax_M) : Prop × Int × ax_M := ax_bd (ax_up M 0 0 0) (fun M1 => (if (f_X3_isPage x1 M1) = 0 then (True, ((-1), M1)) else (if (f_X3_in x2 1 999 M1) ≠ 0 then ax_bd (f_X3_copiesAll M1) (fun M6 => f_X3_lasts_L32 x1 x2 100 0  M6 (fun M12 => (True, ((-2), M12)))) else (True, ((-1), M1)))))
set_option maxRecDepth 100000 in
set_option maxHeartbeats 4000000 in
theorem c_X3_lasts (d : Nat) (x1 : Int) (x2 : Int) (M : ax_M)  (hX : (f_X3_lasts x1 x2 M).1) : ax_Met ax_LM gX3_lasts (d + 9) [(2, 3, 0), (0, 0, x1), (0, 0, x2)] M ((ax_qm (-2) 99) (f_X3_lasts x1 x2 M).2) := by
  refine ax_body (by decide) (fun X => Nat.le_of_ble_eq_true rfl) (fun hok => ?_)
  have hr_x1 : (-2147483648) ≤ x1 ∧ x1 ≤ 2147483647 := hok (0, 0, x1) (by simp)
  have hr_x2 : (-2147483648) ≤ x2 ∧ x2 ≤ 2147483647 := hok (0, 0, x2) (by simp)
  show ax_W ax_LM gX3_lasts (d + 9) 0 [(0, (2, 3, 0)), (1, (0, 0, x1)), (2, (0, 0, x2))] [] M _
  unfold f_X3_lasts at hX ⊢
  refine ax_lump ax_layM ok_kX3 [(0, .aload_n 0, 1, 0, 0, 0), (1, .iconst 0, 1, 0, 0, 0), (2, .putfield 3, 3, 3, 0, 0)] (pc' := 5) (lc' := [(0, (2, 3, 0)), (1, (0, 0, x1)), (2, (0, 0, x2))]) (st' := []) (M' := (ax_up M 0 0 0)) (C' := (True ∧ (0 ≤ 0 ∧ 0 < ((2 : Nat) : Int)))) (by decide +kernel) rfl ⟨trivial, by omega⟩ ?_
  refine ax_bdMe_s hX (fun M1 hM_M1 hX => ?_)
  refine ax_lump ax_layM ok_kX3 [(5, .iload_n 1, 1, 0, 0, 0)] (pc' := 6) (lc' := [(0, (2, 3, 0)), (1, (0, 0, x1)), (2, (0, 0, x2))]) (st' := [(0, 0, x1)]) (M' := M1) (C' := True) (by decide +kernel) rfl trivial ?_
  refine ax_cSi (G1 := gX3_isPage) (d1 := d + 1) (i := 349) (n := 1) (as := [(0, 0, x1)]) (st := []) (by decide +kernel) calX3_isPage (by omega) rfl wt_1131 wt_1132 (Nat.le_of_ble_eq_true rfl) rfl (c_X3_isPage d x1 M1) (fun hc2 => ?_)
  refine ax_zeq_s hX (off := 15) (tgt := 24) (by decide +kernel) (by decide) (fun h3 hX => ?_) (fun h3 hX => ?_)
  · refine ax_lump ax_layM ok_kX3 [(24, .iconst (-1), 1, 0, 0, 0)] (pc' := 25) (lc' := [(0, (2, 3, 0)), (1, (0, 0, x1)), (2, (0, 0, x2))]) (st' := [(0, 0, (-1))]) (M' := M1) (C' := True) (by decide +kernel) rfl trivial ?_
    exact ax_iret (by decide +kernel) rfl ⟨rfl, rfl, (show ((-2) : Int) ≤ (-1) from by omega), (show (-1) ≤ (99 : Int) from by omega)⟩
  · have hgh3 := g_X3_isPage h3
    refine ax_lump ax_layM ok_kX3 [(12, .iload_n 2, 1, 0, 0, 0), (13, .i2l, 1, 0, 0, 0), (14, .lconst 1, 1, 0, 0, 0), (15, .ldc2_w 429, 3, 0, 0, 999)] (pc' := 18) (lc' := [(0, (2, 3, 0)), (1, (0, 0, x1)), (2, (0, 0, x2))]) (st' := [(1, 0, 999), (1, 0, 1), (1, 0, x2)]) (M' := M1) (C' := True) (by decide +kernel) rfl trivial ?_
    refine ax_cSi (G1 := gX3_in) (d1 := d + 0) (i := 25) (n := 3) (as := [(1, 0, x2), (1, 0, 1), (1, 0, 999)]) (st := []) (by decide +kernel) calX3_in (by omega) rfl wt_875 wt_876 (Nat.le_of_ble_eq_true rfl) rfl (c_X3_in d x2 1 999 M1) (fun hc4 => ?_)
    refine ax_zne_s hX (off := 5) (tgt := 26) (by decide +kernel) (by decide) (fun h5 hX => ?_) (fun h5 hX => ?_)
    · have hgh5 := g_X3_in h5
      refine ax_lump ax_layM ok_kX3 [(26, .aload_n 0, 1, 0, 0, 0)] (pc' := 27) (lc' := [(0, (2, 3, 0)), (1, (0, 0, x1)), (2, (0, 0, x2))]) (st' := [(2, 3, 0)]) (M' := M1) (C' := True) (by decide +kernel) rfl trivial ?_
      refine ax_cVv_s hX (G1 := gX3_copiesAll) (d1 := d + 1) (i := 421) (n := 0) (as := []) (st := []) (c := 3) (a := 0) (by decide +kernel) ax_cls3 calX3_copiesAll (by omega) rfl wt_1380 wt_1382 ws_112 (Nat.le_of_ble_eq_true rfl) rfl (c_X3_copiesAll d  M1) (fun M6 hX => ?_)
      refine ax_lump ax_layM ok_kX3 [(30, .iconst 0, 1, 0, 0, 0), (31, .istore_n 3, 1, 0, 0, 0)] (pc' := 32) (lc' := [(3, (0, 0, 0)), (0, (2, 3, 0)), (1, (0, 0, x1)), (2, (0, 0, x2))]) (st' := []) (M' := M6) (C' := True) (by decide +kernel) rfl trivial ?_
      refine ax_pk [1,2,3,0] (lc' := [(0, (2, 3, 0)), (1, (0, 0, x1)), (2, (0, 0, x2)), (3, (0, 0, 0))]) rfl ?_
      refine w_X3_lasts_L32 d x1 x2 _ (by omega) (by omega) (fun M12 hx_12 hX => ?_) 100 0  M6 (by omega)  hX
      refine ax_lump ax_layM ok_kX3 [(118, .bipush (-2), 2, 0, 0, 0)] (pc' := 120) (lc' := []) (st' := [(0, 0, (-2))]) (M' := M12) (C' := True) (by decide +kernel) rfl trivial ?_
      exact ax_iret (by decide +kernel) rfl ⟨rfl, rfl, (show ((-2) : Int) ≤ (-2) from by omega), (show (-2) ≤ (99 : Int) from by omega)⟩
    · refine ax_lump ax_layM ok_kX3 [(24, .iconst (-1), 1, 0, 0, 0)] (pc' := 25) (lc' := [(0, (2, 3, 0)), (1, (0, 0, x1)), (2, (0, 0, x2))]) (st' := [(0, 0, (-1))]) (M' := M1) (C' := True) (by decide +kernel) rfl trivial ?_
      exact ax_iret (by decide +kernel) rfl ⟨rfl, rfl, (show ((-2) : Int) ≤ (-1) from by omega), (show (-1) ≤ (99 : Int) from by omega)⟩
