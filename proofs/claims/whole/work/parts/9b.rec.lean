def f_X3_readsThing (fT : ax_M → Prop × Int × ax_M) (fR : Int → ax_M → Prop × Int × ax_M)  (M : ax_M) : Prop × Int × ax_M := ax_rc (f_X3_takes 45 M) (fun y1 => (if y1.1 = 0 then (if (f_X3_isDigit y1.2) = 0 then ax_rc (f_X3_takesOf 0 y1.2) (fun y5 => (if y5.1 < 0 then (if (y5.2 0 7) = 4 then (True, (0, y5.2)) else ax_rc (f_X3_takes 40 y5.2) (fun y9 => (if y9.1 ≠ 0 then ax_rq ((0 ≤ ((y9.2 0 7) + 1) ∧ ((y9.2 0 7) + 1) < ((5 : Nat) : Int))) (ax_bd (ax_up y9.2 0 7 ((y9.2 0 7) + 1)) (fun M13 => ax_rc (fR 0 M13) (fun y15 => (if y15.1 = 0 then (True, (0, y15.2)) else ax_rc (f_X3_takes 41 y15.2) (fun y17 => (if y17.1 ≠ 0 then ax_rq ((0 ≤ ((y17.2 0 7) - 1) ∧ ((y17.2 0 7) - 1) < ((5 : Nat) : Int))) (ax_bd (ax_up y17.2 0 7 ((y17.2 0 7) - 1)) (fun M21 => (True, (1, M21)))) else (True, (0, y17.2)))))))) else (True, (0, y9.2))))) else ax_rc (f_X3_codes (1000 + y5.1) y5.2) (fun M23 => (True, (1, M23))))) else ax_rc (f_X3_number 3 y1.2) (fun y24 => ax_rc (f_X3_codes y24.1 y24.2) (fun M25 => (True, (1, M25))))) else ax_rc (fT y1.2) (fun y26 => ax_rc (f_X3_codes 3000 y26.2) (fun M27 => (True, (y26.1, M27))))))
set_option maxRecDepth 100000 in
set_option maxHeartbeats 4000000 in
theorem c_X3_readsThing (fT : ax_M → Prop × Int × ax_M) (fR : Int → ax_M → Prop × Int × ax_M) (hh : Nat) (hge : 9 ≤ hh) (hT : ∀ (d : Nat) (M : ax_M), (fT M).1 → ax_Met ax_LM gX3_readsThing (d + hh) [(2, 3, 0)] M (ax_qm 0 1 (fT M).2)) (hR : ∀ (d : Nat) (x1 : Int) (M : ax_M), (0 ≤ x1 ∧ x1 ≤ 3) → (fR x1 M).1 → ax_Met ax_LM gX3_readsRank (d + hh) [(2, 3, 0), (0, 0, x1)] M (ax_qm 0 1 (fR x1 M).2)) (d : Nat)  (M : ax_M)  (hX : (f_X3_readsThing fT fR  M).1) : ax_Met ax_LM gX3_readsThing (d + (hh + 1)) [(2, 3, 0)] M ((ax_qm 0 1) (f_X3_readsThing fT fR  M).2) := by
  refine ax_body (by decide) (fun X => Nat.le_of_ble_eq_true rfl) (fun hok => ?_)
  show ax_W ax_LM gX3_readsThing (d + (hh + 1)) 0 [(0, (2, 3, 0))] [] M _
  unfold f_X3_readsThing at hX ⊢
  refine ax_lump ax_layM ok_kX3 [(0, .aload_n 0, 1, 0, 0, 0), (1, .bipush 45, 2, 0, 0, 0)] (pc' := 3) (lc' := [(0, (2, 3, 0))]) (st' := [(0, 0, 45), (2, 3, 0)]) (M' := M) (C' := True) (by decide +kernel) rfl trivial ?_
  refine ax_cVm_r hX (G1 := gX3_takes) (d1 := d + 1) (i := 76) (n := 1) (as := [(0, 0, 45)]) (st := []) (c := 3) (a := 0) (by decide +kernel) ax_cls3 calX3_takes (by omega) rfl wt_900 wt_902 ws_73 (Nat.le_of_ble_eq_true rfl) rfl (fun hY => c_X3_takes d 45 M hY) (fun y1 h_y1 hX => ?_)
  refine ax_zeq_s hX (off := 17) (tgt := 23) (by decide +kernel) (by decide) (fun h2 hX => ?_) (fun h2 hX => ?_)
  · refine ax_lump ax_layM ok_kX3 [(23, .aload_n 0, 1, 0, 0, 0)] (pc' := 24) (lc' := [(0, (2, 3, 0))]) (st' := [(2, 3, 0)]) (M' := y1.2) (C' := True) (by decide +kernel) rfl trivial ?_
    refine ax_cVi (G1 := gX3_isDigit) (d1 := d + 1) (i := 62) (n := 0) (as := []) (st := []) (c := 3) (a := 0) (by decide +kernel) ax_cls3 calX3_isDigit (by omega) rfl wt_911 wt_913 ws_75 (Nat.le_of_ble_eq_true rfl) rfl (c_X3_isDigit d  y1.2) (fun hc3 => ?_)
    refine ax_zeq_s hX (off := 14) (tgt := 41) (by decide +kernel) (by decide) (fun h4 hX => ?_) (fun h4 hX => ?_)
    · refine ax_lump ax_layM ok_kX3 [(41, .aload_n 0, 1, 0, 0, 0), (42, .ldc 87, 2, 1, 0, 0)] (pc' := 44) (lc' := [(0, (2, 3, 0))]) (st' := [(7, 0, 0), (2, 3, 0)]) (M' := y1.2) (C' := True) (by decide +kernel) rfl trivial ?_
      refine ax_cVm_r hX (G1 := gX3_takesOf) (d1 := d + 4) (i := 89) (n := 1) (as := [(7, 0, 0)]) (st := []) (c := 3) (a := 0) (by decide +kernel) ax_cls3 calX3_takesOf (by omega) rfl wt_922 wt_924 ws_77 (Nat.le_of_ble_eq_true rfl) rfl (fun hY => c_X3_takesOf d 0 y1.2 hY) (fun y5 h_y5 hX => ?_)
      refine ax_lump ax_layM ok_kX3 [(47, .istore_n 1, 1, 0, 0, 0), (48, .iload_n 1, 1, 0, 0, 0)] (pc' := 49) (lc' := [(1, (0, 0, y5.1)), (0, (2, 3, 0))]) (st' := [(0, 0, y5.1)]) (M' := y5.2) (C' := True) (by decide +kernel) rfl trivial ?_
      refine ax_zlt_s hX (off := 14) (tgt := 63) (by decide +kernel) (by decide) (fun h6 hX => ?_) (fun h6 hX => ?_)
      · refine ax_fact (i := 0) (c := 3) (f := 7) (hi := 4) (s := 0) (by simp) rfl rfl rfl (fun hf7 => ?_)
        have hf7 : 0 ≤ (y5.2 0 7) ∧ (y5.2 0 7) ≤ 4 := hf7
        refine ax_lump ax_layM ok_kX3 [(63, .aload_n 0, 1, 0, 0, 0), (64, .getfield 32, 3, 3, 7, 0), (67, .iconst 4, 1, 0, 0, 0)] (pc' := 68) (lc' := [(1, (0, 0, y5.1)), (0, (2, 3, 0))]) (st' := [(0, 0, 4), (0, 0, (y5.2 0 7))]) (M' := y5.2) (C' := True) (by decide +kernel) rfl trivial ?_
        refine ax_jeq_s hX (off := 12) (tgt := 80) (by decide +kernel) (by decide) (fun h8 hX => ?_) (fun h8 hX => ?_)
        · refine ax_lump ax_layM ok_kX3 [(80, .iconst 0, 1, 0, 0, 0)] (pc' := 81) (lc' := [(1, (0, 0, y5.1)), (0, (2, 3, 0))]) (st' := [(0, 0, 0)]) (M' := y5.2) (C' := True) (by decide +kernel) rfl trivial ?_
          exact ax_zret (by decide +kernel) rfl (by omega) ⟨rfl, rfl, (show (0 : Int) ≤ 0 from by omega), (show 0 ≤ (1 : Int) from by omega)⟩
        · refine ax_lump ax_layM ok_kX3 [(71, .aload_n 0, 1, 0, 0, 0), (72, .bipush 40, 2, 0, 0, 0)] (pc' := 74) (lc' := [(1, (0, 0, y5.1)), (0, (2, 3, 0))]) (st' := [(0, 0, 40), (2, 3, 0)]) (M' := y5.2) (C' := True) (by decide +kernel) rfl trivial ?_
          refine ax_cVm_r hX (G1 := gX3_takes) (d1 := d + 1) (i := 76) (n := 1) (as := [(0, 0, 40)]) (st := []) (c := 3) (a := 0) (by decide +kernel) ax_cls3 calX3_takes (by omega) rfl wt_900 wt_902 ws_73 (Nat.le_of_ble_eq_true rfl) rfl (fun hY => c_X3_takes d 40 y5.2 hY) (fun y9 h_y9 hX => ?_)
          refine ax_zne_s hX (off := 5) (tgt := 82) (by decide +kernel) (by decide) (fun h10 hX => ?_) (fun h10 hX => ?_)
          · refine ax_rq_s hX (fun hS12 hX => ?_)
            refine ax_fact (i := 0) (c := 3) (f := 7) (hi := 4) (s := 0) (by simp) rfl rfl rfl (fun hf11 => ?_)
            have hf11 : 0 ≤ (y9.2 0 7) ∧ (y9.2 0 7) ≤ 4 := hf11
            refine ax_lump ax_layM ok_kX3 [(82, .aload_n 0, 1, 0, 0, 0), (83, .dup, 1, 0, 0, 0), (84, .getfield 32, 3, 3, 7, 0), (87, .iconst 1, 1, 0, 0, 0), (88, .iadd, 1, 1, 0, 0), (89, .putfield 32, 3, 3, 7, 0)] (pc' := 92) (lc' := [(1, (0, 0, y5.1)), (0, (2, 3, 0))]) (st' := []) (M' := (ax_up y9.2 0 7 ((y9.2 0 7) + 1))) (C' := ((True ∧ ax_r32 ((y9.2 0 7) + 1)) ∧ (0 ≤ ((y9.2 0 7) + 1) ∧ ((y9.2 0 7) + 1) < ((5 : Nat) : Int)))) (by decide +kernel) rfl ⟨⟨trivial, ⟨by omega, by omega⟩⟩, hS12⟩ ?_
            refine ax_bdMe_s hX (fun M13 hM_M13 hX => ?_)
            have hk_k14 : (M13 0 7) = ((y9.2 0 7) + 1) := by rw [hM_M13]; exact ax_up_s
            refine ax_lump ax_layM ok_kX3 [(92, .aload_n 0, 1, 0, 0, 0), (93, .iconst 0, 1, 0, 0, 0)] (pc' := 94) (lc' := [(1, (0, 0, y5.1)), (0, (2, 3, 0))]) (st' := [(0, 0, 0), (2, 3, 0)]) (M' := M13) (C' := True) (by decide +kernel) rfl trivial ?_
            refine ax_cVm_r hX (G1 := gX3_readsRank) (d1 := d + hh) (i := 93) (n := 1) (as := [(0, 0, 0)]) (st := []) (c := 3) (a := 0) (by decide +kernel) ax_cls3 calX3_readsRank (by omega) rfl wt_892 wt_894 ws_71 (Nat.le_of_ble_eq_true rfl) rfl (fun hY => hR d 0 M13 (by omega) hY) (fun y15 h_y15 hX => ?_)
            refine ax_zeq_s hX (off := 12) (tgt := 109) (by decide +kernel) (by decide) (fun h16 hX => ?_) (fun h16 hX => ?_)
            · refine ax_lump ax_layM ok_kX3 [(109, .iconst 0, 1, 0, 0, 0)] (pc' := 110) (lc' := [(1, (0, 0, y5.1)), (0, (2, 3, 0))]) (st' := [(0, 0, 0)]) (M' := y15.2) (C' := True) (by decide +kernel) rfl trivial ?_
              exact ax_zret (by decide +kernel) rfl (by omega) ⟨rfl, rfl, (show (0 : Int) ≤ 0 from by omega), (show 0 ≤ (1 : Int) from by omega)⟩
            · refine ax_lump ax_layM ok_kX3 [(100, .aload_n 0, 1, 0, 0, 0), (101, .bipush 41, 2, 0, 0, 0)] (pc' := 103) (lc' := [(1, (0, 0, y5.1)), (0, (2, 3, 0))]) (st' := [(0, 0, 41), (2, 3, 0)]) (M' := y15.2) (C' := True) (by decide +kernel) rfl trivial ?_
              refine ax_cVm_r hX (G1 := gX3_takes) (d1 := d + 1) (i := 76) (n := 1) (as := [(0, 0, 41)]) (st := []) (c := 3) (a := 0) (by decide +kernel) ax_cls3 calX3_takes (by omega) rfl wt_900 wt_902 ws_73 (Nat.le_of_ble_eq_true rfl) rfl (fun hY => c_X3_takes d 41 y15.2 hY) (fun y17 h_y17 hX => ?_)
              refine ax_zne_s hX (off := 5) (tgt := 111) (by decide +kernel) (by decide) (fun h18 hX => ?_) (fun h18 hX => ?_)
              · refine ax_rq_s hX (fun hS20 hX => ?_)
                refine ax_fact (i := 0) (c := 3) (f := 7) (hi := 4) (s := 0) (by simp) rfl rfl rfl (fun hf19 => ?_)
                have hf19 : 0 ≤ (y17.2 0 7) ∧ (y17.2 0 7) ≤ 4 := hf19
                refine ax_lump ax_layM ok_kX3 [(111, .aload_n 0, 1, 0, 0, 0), (112, .dup, 1, 0, 0, 0), (113, .getfield 32, 3, 3, 7, 0), (116, .iconst 1, 1, 0, 0, 0), (117, .isub, 1, 1, 0, 0), (118, .putfield 32, 3, 3, 7, 0)] (pc' := 121) (lc' := [(1, (0, 0, y5.1)), (0, (2, 3, 0))]) (st' := []) (M' := (ax_up y17.2 0 7 ((y17.2 0 7) - 1))) (C' := ((True ∧ ax_r32 ((y17.2 0 7) - 1)) ∧ (0 ≤ ((y17.2 0 7) - 1) ∧ ((y17.2 0 7) - 1) < ((5 : Nat) : Int)))) (by decide +kernel) rfl ⟨⟨trivial, ⟨by omega, by omega⟩⟩, hS20⟩ ?_
                refine ax_bdMe_s hX (fun M21 hM_M21 hX => ?_)
                have hk_k22 : (M21 0 7) = ((y17.2 0 7) - 1) := by rw [hM_M21]; exact ax_up_s
                refine ax_lump ax_layM ok_kX3 [(121, .iconst 1, 1, 0, 0, 0)] (pc' := 122) (lc' := [(1, (0, 0, y5.1)), (0, (2, 3, 0))]) (st' := [(0, 0, 1)]) (M' := M21) (C' := True) (by decide +kernel) rfl trivial ?_
                exact ax_zret (by decide +kernel) rfl (by omega) ⟨rfl, rfl, (show (0 : Int) ≤ 1 from by omega), (show 1 ≤ (1 : Int) from by omega)⟩
              · refine ax_lump ax_layM ok_kX3 [(109, .iconst 0, 1, 0, 0, 0)] (pc' := 110) (lc' := [(1, (0, 0, y5.1)), (0, (2, 3, 0))]) (st' := [(0, 0, 0)]) (M' := y17.2) (C' := True) (by decide +kernel) rfl trivial ?_
                exact ax_zret (by decide +kernel) rfl (by omega) ⟨rfl, rfl, (show (0 : Int) ≤ 0 from by omega), (show 0 ≤ (1 : Int) from by omega)⟩
          · refine ax_lump ax_layM ok_kX3 [(80, .iconst 0, 1, 0, 0, 0)] (pc' := 81) (lc' := [(1, (0, 0, y5.1)), (0, (2, 3, 0))]) (st' := [(0, 0, 0)]) (M' := y9.2) (C' := True) (by decide +kernel) rfl trivial ?_
            exact ax_zret (by decide +kernel) rfl (by omega) ⟨rfl, rfl, (show (0 : Int) ≤ 0 from by omega), (show 0 ≤ (1 : Int) from by omega)⟩
      · refine ax_lump ax_layM ok_kX3 [(52, .aload_n 0, 1, 0, 0, 0), (53, .sipush 1000, 3, 0, 0, 0), (56, .iload_n 1, 1, 0, 0, 0), (57, .iadd, 1, 1, 0, 0)] (pc' := 58) (lc' := [(1, (0, 0, y5.1)), (0, (2, 3, 0))]) (st' := [(0, 0, (1000 + y5.1)), (2, 3, 0)]) (M' := y5.2) (C' := (True ∧ ax_r32 (1000 + y5.1))) (by decide +kernel) rfl ⟨trivial, ⟨by omega, by omega⟩⟩ ?_
        refine ax_cVv_r hX (G1 := gX3_codes) (d1 := d + 0) (i := 83) (n := 1) (as := [(0, 0, (1000 + y5.1))]) (st := []) (c := 3) (a := 0) (by decide +kernel) ax_cls3 calX3_codes (by omega) rfl wt_907 wt_909 ws_74 (Nat.le_of_ble_eq_true rfl) rfl (fun hY => c_X3_codes d (1000 + y5.1) y5.2 hY) (fun M23 hX => ?_)
        refine ax_lump ax_layM ok_kX3 [(61, .iconst 1, 1, 0, 0, 0)] (pc' := 62) (lc' := [(1, (0, 0, y5.1)), (0, (2, 3, 0))]) (st' := [(0, 0, 1)]) (M' := M23) (C' := True) (by decide +kernel) rfl trivial ?_
        exact ax_zret (by decide +kernel) rfl (by omega) ⟨rfl, rfl, (show (0 : Int) ≤ 1 from by omega), (show 1 ≤ (1 : Int) from by omega)⟩
    · refine ax_lump ax_layM ok_kX3 [(30, .aload_n 0, 1, 0, 0, 0), (31, .aload_n 0, 1, 0, 0, 0), (32, .iconst 3, 1, 0, 0, 0)] (pc' := 33) (lc' := [(0, (2, 3, 0))]) (st' := [(0, 0, 3), (2, 3, 0), (2, 3, 0)]) (M' := y1.2) (C' := True) (by decide +kernel) rfl trivial ?_
      refine ax_cVm_r hX (G1 := gX3_number) (d1 := d + 2) (i := 66) (n := 1) (as := [(0, 0, 3)]) (st := [(2, 3, 0)]) (c := 3) (a := 0) (by decide +kernel) ax_cls3 calX3_number (by omega) rfl wt_917 wt_919 ws_76 (Nat.le_of_ble_eq_true rfl) rfl (fun hY => c_X3_number d 3 y1.2 (by omega) hY) (fun y24 h_y24 hX => ?_)
      refine ax_cVv_r hX (G1 := gX3_codes) (d1 := d + 0) (i := 83) (n := 1) (as := [(0, 0, y24.1)]) (st := []) (c := 3) (a := 0) (by decide +kernel) ax_cls3 calX3_codes (by omega) rfl wt_907 wt_909 ws_74 (Nat.le_of_ble_eq_true rfl) rfl (fun hY => c_X3_codes d y24.1 y24.2 hY) (fun M25 hX => ?_)
      refine ax_lump ax_layM ok_kX3 [(39, .iconst 1, 1, 0, 0, 0)] (pc' := 40) (lc' := [(0, (2, 3, 0))]) (st' := [(0, 0, 1)]) (M' := M25) (C' := True) (by decide +kernel) rfl trivial ?_
      exact ax_zret (by decide +kernel) rfl (by omega) ⟨rfl, rfl, (show (0 : Int) ≤ 1 from by omega), (show 1 ≤ (1 : Int) from by omega)⟩
  · refine ax_lump ax_layM ok_kX3 [(9, .aload_n 0, 1, 0, 0, 0)] (pc' := 10) (lc' := [(0, (2, 3, 0))]) (st' := [(2, 3, 0)]) (M' := y1.2) (C' := True) (by decide +kernel) rfl trivial ?_
    refine ax_cVm_r hX (G1 := gX3_readsThing) (d1 := d + hh) (i := 80) (n := 0) (as := []) (st := []) (c := 3) (a := 0) (by decide +kernel) ax_cls3 calX3_readsThing (by omega) rfl wt_896 wt_898 ws_72 (Nat.le_of_ble_eq_true rfl) rfl (fun hY => hT d  y1.2 hY) (fun y26 h_y26 hX => ?_)
    refine ax_lump ax_layM ok_kX3 [(13, .istore_n 1, 1, 0, 0, 0), (14, .aload_n 0, 1, 0, 0, 0), (15, .sipush 3000, 3, 0, 0, 0)] (pc' := 18) (lc' := [(1, (0, 0, y26.1)), (0, (2, 3, 0))]) (st' := [(0, 0, 3000), (2, 3, 0)]) (M' := y26.2) (C' := True) (by decide +kernel) rfl trivial ?_
    refine ax_cVv_r hX (G1 := gX3_codes) (d1 := d + 0) (i := 83) (n := 1) (as := [(0, 0, 3000)]) (st := []) (c := 3) (a := 0) (by decide +kernel) ax_cls3 calX3_codes (by omega) rfl wt_907 wt_909 ws_74 (Nat.le_of_ble_eq_true rfl) rfl (fun hY => c_X3_codes d 3000 y26.2 hY) (fun M27 hX => ?_)
    refine ax_lump ax_layM ok_kX3 [(21, .iload_n 1, 1, 0, 0, 0)] (pc' := 22) (lc' := [(1, (0, 0, y26.1)), (0, (2, 3, 0))]) (st' := [(0, 0, y26.1)]) (M' := M27) (C' := True) (by decide +kernel) rfl trivial ?_
    exact ax_zret (by decide +kernel) rfl (by omega) ⟨rfl, rfl, (show (0 : Int) ≤ y26.1 from by omega), (show y26.1 ≤ (1 : Int) from by omega)⟩
def f_X3_readsRank_B24 (fT : ax_M → Prop × Int × ax_M) (fR : Int → ax_M → Prop × Int × ax_M) (w1 : Int) (v2 : Int) (M : ax_M) (kc : Int → ax_M → Prop × Int × ax_M) (kx : ax_M → Prop × Int × ax_M) : Prop × Int × ax_M := (if v2 = 0 then kx M else (if w1 ≠ 0 then (if w1 ≠ 1 then ax_rc (f_X3_takesOf 3 M) (fun y7 => (if 0 ≤ y7.1 then ax_rc (fR (w1 + 1) y7.2) (fun y9 => (if y9.1 ≠ 0 then ax_rc (f_X3_codes ((2000 + y7.1) + 5) y9.2) (fun M13 => kc 1 M13) else (True, (0, y9.2)))) else (True, (1, y7.2)))) else ax_rc (f_X3_takesOf 2 M) (fun y15 => (if 0 ≤ y15.1 then ax_rc (fR (w1 + 1) y15.2) (fun y17 => (if y17.1 ≠ 0 then ax_rc (f_X3_codes ((2000 + y15.1) + 3) y17.2) (fun M21 => kc 1 M21) else (True, (0, y17.2)))) else (True, (1, y15.2))))) else ax_rc (f_X3_takesOf 1 M) (fun y23 => (if 0 ≤ y23.1 then ax_rc (fR (w1 + 1) y23.2) (fun y25 => (if y25.1 ≠ 0 then ax_rc (f_X3_codes ((2000 + y23.1) + 0) y25.2) (fun M28 => kc 0 M28) else (True, (0, y25.2)))) else (True, (1, y23.2))))))
def f_X3_readsRank_L24 (fT : ax_M → Prop × Int × ax_M) (fR : Int → ax_M → Prop × Int × ax_M) (w1 : Int) : Nat → Int → ax_M → (ax_M → Prop × Int × ax_M) → Prop × Int × ax_M
  | 0, _, _, _ => (False, (0, fun _ _ => 0))
  | n + 1, v2, M, kx => f_X3_readsRank_B24 fT fR w1 v2 M (fun u2 M9 => f_X3_readsRank_L24 fT fR w1 n  u2 M9 kx) kx
set_option maxRecDepth 100000 in
set_option maxHeartbeats 4000000 in
theorem wb_X3_readsRank_B24 (fT : ax_M → Prop × Int × ax_M) (fR : Int → ax_M → Prop × Int × ax_M) (hh : Nat) (hge : 9 ≤ hh) (hT : ∀ (d : Nat) (M : ax_M), (fT M).1 → ax_Met ax_LM gX3_readsThing (d + hh) [(2, 3, 0)] M (ax_qm 0 1 (fT M).2)) (hR : ∀ (d : Nat) (x1 : Int) (M : ax_M), (0 ≤ x1 ∧ x1 ≤ 3) → (fR x1 M).1 → ax_Met ax_LM gX3_readsRank (d + hh) [(2, 3, 0), (0, 0, x1)] M (ax_qm 0 1 (fR x1 M).2)) (d : Nat) (w1 : Int) (v2 : Int) (M : ax_M) (kc : Int → ax_M → Prop × Int × ax_M) (kx : ax_M → Prop × Int × ax_M) (hw_w1 : 0 ≤ w1 ∧ w1 ≤ 2)  (hv2 : 0 ≤ v2 ∧ v2 ≤ 1) (hkc : ∀ (u2 : Int) (M9 : ax_M), 0 ≤ u2 ∧ u2 ≤ 1 → (kc u2 M9).1 → ax_W ax_LM gX3_readsRank (d + (hh + 1)) 24 [(0, (2, 3, 0)), (1, (0, 0, w1)), (2, (0, 0, u2))] [] M9 ((ax_qm 0 1) (kc u2 M9).2)) (hkx : ∀ (M9 : ax_M), (True) → (kx M9).1 → ax_W ax_LM gX3_readsRank (d + (hh + 1)) 113 [] [] M9 ((ax_qm 0 1) (kx M9).2)) (hX : (f_X3_readsRank_B24 fT fR w1 v2 M kc kx).1) : ax_W ax_LM gX3_readsRank (d + (hh + 1)) 24 [(0, (2, 3, 0)), (1, (0, 0, w1)), (2, (0, 0, v2))] [] M ((ax_qm 0 1) (f_X3_readsRank_B24 fT fR w1 v2 M kc kx).2) := by
  unfold f_X3_readsRank_B24 at hX ⊢
  refine ax_lump ax_layM ok_kX3 [(24, .iload_n 2, 1, 0, 0, 0)] (pc' := 25) (lc' := [(0, (2, 3, 0)), (1, (0, 0, w1)), (2, (0, 0, v2))]) (st' := [(0, 0, v2)]) (M' := M) (C' := True) (by decide +kernel) rfl trivial ?_
  refine ax_zeq_s hX (off := 88) (tgt := 113) (by decide +kernel) (by decide) (fun h4 hX => ?_) (fun h4 hX => ?_)
  · refine ax_pk [] (lc' := []) rfl ?_
    exact hkx M trivial hX
  · refine ax_lump ax_layM ok_kX3 [(28, .aload_n 0, 1, 0, 0, 0), (29, .iload_n 1, 1, 0, 0, 0)] (pc' := 30) (lc' := [(0, (2, 3, 0)), (1, (0, 0, w1)), (2, (0, 0, v2))]) (st' := [(0, 0, w1), (2, 3, 0)]) (M' := M) (C' := True) (by decide +kernel) rfl trivial ?_
    refine ax_zne_s hX (off := 8) (tgt := 38) (by decide +kernel) (by decide) (fun h5 hX => ?_) (fun h5 hX => ?_)
    · refine ax_lump ax_layM ok_kX3 [(38, .iload_n 1, 1, 0, 0, 0), (39, .iconst 1, 1, 0, 0, 0)] (pc' := 40) (lc' := [(0, (2, 3, 0)), (1, (0, 0, w1)), (2, (0, 0, v2))]) (st' := [(0, 0, 1), (0, 0, w1), (2, 3, 0)]) (M' := M) (C' := True) (by decide +kernel) rfl trivial ?_
      refine ax_jne_s hX (off := 8) (tgt := 48) (by decide +kernel) (by decide) (fun h6 hX => ?_) (fun h6 hX => ?_)
      · refine ax_lump ax_layM ok_kX3 [(48, .ldc 100, 2, 1, 3, 0)] (pc' := 50) (lc' := [(0, (2, 3, 0)), (1, (0, 0, w1)), (2, (0, 0, v2))]) (st' := [(7, 3, 0), (2, 3, 0)]) (M' := M) (C' := True) (by decide +kernel) rfl trivial ?_
        refine ax_cVm_r hX (G1 := gX3_takesOf) (d1 := d + 4) (i := 89) (n := 1) (as := [(7, 3, 0)]) (st := []) (c := 3) (a := 0) (by decide +kernel) ax_cls3 calX3_takesOf (by omega) rfl wt_922 wt_924 ws_77 (Nat.le_of_ble_eq_true rfl) rfl (fun hY => c_X3_takesOf d 3 M hY) (fun y7 h_y7 hX => ?_)
        refine ax_lump ax_layM ok_kX3 [(53, .istore_n 3, 1, 0, 0, 0), (54, .iload_n 3, 1, 0, 0, 0)] (pc' := 55) (lc' := [(3, (0, 0, y7.1)), (0, (2, 3, 0)), (1, (0, 0, w1)), (2, (0, 0, v2))]) (st' := [(0, 0, y7.1)]) (M' := y7.2) (C' := True) (by decide +kernel) rfl trivial ?_
        refine ax_zge_s hX (off := 5) (tgt := 60) (by decide +kernel) (by decide) (fun h8 hX => ?_) (fun h8 hX => ?_)
        · refine ax_lump ax_layM ok_kX3 [(60, .aload_n 0, 1, 0, 0, 0), (61, .iload_n 1, 1, 0, 0, 0), (62, .iconst 1, 1, 0, 0, 0), (63, .iadd, 1, 1, 0, 0)] (pc' := 64) (lc' := [(3, (0, 0, y7.1)), (0, (2, 3, 0)), (1, (0, 0, w1)), (2, (0, 0, v2))]) (st' := [(0, 0, (w1 + 1)), (2, 3, 0)]) (M' := y7.2) (C' := (True ∧ ax_r32 (w1 + 1))) (by decide +kernel) rfl ⟨trivial, ⟨by omega, by omega⟩⟩ ?_
          refine ax_cVm_r hX (G1 := gX3_readsRank) (d1 := d + hh) (i := 93) (n := 1) (as := [(0, 0, (w1 + 1))]) (st := []) (c := 3) (a := 0) (by decide +kernel) ax_cls3 calX3_readsRank (by omega) rfl wt_892 wt_894 ws_71 (Nat.le_of_ble_eq_true rfl) rfl (fun hY => hR d (w1 + 1) y7.2 (by omega) hY) (fun y9 h_y9 hX => ?_)
          refine ax_zne_s hX (off := 5) (tgt := 72) (by decide +kernel) (by decide) (fun h10 hX => ?_) (fun h10 hX => ?_)
          · refine ax_lump ax_layM ok_kX3 [(72, .aload_n 0, 1, 0, 0, 0), (73, .sipush 2000, 3, 0, 0, 0), (76, .iload_n 3, 1, 0, 0, 0), (77, .iadd, 1, 1, 0, 0), (78, .iload_n 1, 1, 0, 0, 0)] (pc' := 79) (lc' := [(3, (0, 0, y7.1)), (0, (2, 3, 0)), (1, (0, 0, w1)), (2, (0, 0, v2))]) (st' := [(0, 0, w1), (0, 0, (2000 + y7.1)), (2, 3, 0)]) (M' := y9.2) (C' := (True ∧ ax_r32 (2000 + y7.1))) (by decide +kernel) rfl ⟨trivial, ⟨by omega, by omega⟩⟩ ?_
            refine ax_if_ne (off := 7) (tgt := 86) (by decide +kernel) (by decide) (fun h11 => ?_) (fun h11 => ?_)
            · refine ax_lump ax_layM ok_kX3 [(86, .iload_n 1, 1, 0, 0, 0), (87, .iconst 1, 1, 0, 0, 0)] (pc' := 88) (lc' := [(3, (0, 0, y7.1)), (0, (2, 3, 0)), (1, (0, 0, w1)), (2, (0, 0, v2))]) (st' := [(0, 0, 1), (0, 0, w1), (0, 0, (2000 + y7.1)), (2, 3, 0)]) (M' := y9.2) (C' := True) (by decide +kernel) rfl trivial ?_
              refine ax_icmp_ne (off := 7) (tgt := 95) (by decide +kernel) (by decide) (fun h12 => ?_) (fun h12 => ?_)
              · refine ax_lump ax_layM ok_kX3 [(95, .iconst 5, 1, 0, 0, 0), (96, .iadd, 1, 1, 0, 0)] (pc' := 97) (lc' := [(3, (0, 0, y7.1)), (0, (2, 3, 0)), (1, (0, 0, w1)), (2, (0, 0, v2))]) (st' := [(0, 0, ((2000 + y7.1) + 5)), (2, 3, 0)]) (M' := y9.2) (C' := (True ∧ ax_r32 ((2000 + y7.1) + 5))) (by decide +kernel) rfl ⟨trivial, ⟨by omega, by omega⟩⟩ ?_
                refine ax_cVv_r hX (G1 := gX3_codes) (d1 := d + 0) (i := 83) (n := 1) (as := [(0, 0, ((2000 + y7.1) + 5))]) (st := []) (c := 3) (a := 0) (by decide +kernel) ax_cls3 calX3_codes (by omega) rfl wt_907 wt_909 ws_74 (Nat.le_of_ble_eq_true rfl) rfl (fun hY => c_X3_codes d ((2000 + y7.1) + 5) y9.2 hY) (fun M13 hX => ?_)
                refine ax_lump ax_layM ok_kX3 [(100, .iload_n 1, 1, 0, 0, 0)] (pc' := 101) (lc' := [(3, (0, 0, y7.1)), (0, (2, 3, 0)), (1, (0, 0, w1)), (2, (0, 0, v2))]) (st' := [(0, 0, w1)]) (M' := M13) (C' := True) (by decide +kernel) rfl trivial ?_
                refine ax_if_le (off := 7) (tgt := 108) (by decide +kernel) (by decide) (fun h14 => ?_) (fun h14 => ?_)
                · exfalso; omega
                · refine ax_lump ax_layM ok_kX3 [(104, .iconst 1, 1, 0, 0, 0), (105, .goto 4, 3, 109, 0, 0), (109, .istore_n 2, 1, 0, 0, 0), (110, .goto (-86), 3, 24, 0, 0)] (pc' := 24) (lc' := [(2, (0, 0, 1)), (3, (0, 0, y7.1)), (0, (2, 3, 0)), (1, (0, 0, w1))]) (st' := []) (M' := M13) (C' := True) (by decide +kernel) rfl trivial ?_
                  refine ax_pk [2,3,0] (lc' := [(0, (2, 3, 0)), (1, (0, 0, w1)), (2, (0, 0, 1))]) rfl ?_
                  exact hkc 1 M13 (by omega) hX
              · exfalso; omega
            · exfalso; omega
          · refine ax_lump ax_layM ok_kX3 [(70, .iconst 0, 1, 0, 0, 0)] (pc' := 71) (lc' := [(3, (0, 0, y7.1)), (0, (2, 3, 0)), (1, (0, 0, w1)), (2, (0, 0, v2))]) (st' := [(0, 0, 0)]) (M' := y9.2) (C' := True) (by decide +kernel) rfl trivial ?_
            exact ax_zret (by decide +kernel) rfl (by omega) ⟨rfl, rfl, (show (0 : Int) ≤ 0 from by omega), (show 0 ≤ (1 : Int) from by omega)⟩
        · refine ax_lump ax_layM ok_kX3 [(58, .iconst 1, 1, 0, 0, 0)] (pc' := 59) (lc' := [(3, (0, 0, y7.1)), (0, (2, 3, 0)), (1, (0, 0, w1)), (2, (0, 0, v2))]) (st' := [(0, 0, 1)]) (M' := y7.2) (C' := True) (by decide +kernel) rfl trivial ?_
          exact ax_zret (by decide +kernel) rfl (by omega) ⟨rfl, rfl, (show (0 : Int) ≤ 1 from by omega), (show 1 ≤ (1 : Int) from by omega)⟩
      · refine ax_lump ax_layM ok_kX3 [(43, .ldc 98, 2, 1, 2, 0), (45, .goto 5, 3, 50, 0, 0)] (pc' := 50) (lc' := [(0, (2, 3, 0)), (1, (0, 0, w1)), (2, (0, 0, v2))]) (st' := [(7, 2, 0), (2, 3, 0)]) (M' := M) (C' := True) (by decide +kernel) rfl trivial ?_
        refine ax_cVm_r hX (G1 := gX3_takesOf) (d1 := d + 4) (i := 89) (n := 1) (as := [(7, 2, 0)]) (st := []) (c := 3) (a := 0) (by decide +kernel) ax_cls3 calX3_takesOf (by omega) rfl wt_922 wt_924 ws_77 (Nat.le_of_ble_eq_true rfl) rfl (fun hY => c_X3_takesOf d 2 M hY) (fun y15 h_y15 hX => ?_)
        refine ax_lump ax_layM ok_kX3 [(53, .istore_n 3, 1, 0, 0, 0), (54, .iload_n 3, 1, 0, 0, 0)] (pc' := 55) (lc' := [(3, (0, 0, y15.1)), (0, (2, 3, 0)), (1, (0, 0, w1)), (2, (0, 0, v2))]) (st' := [(0, 0, y15.1)]) (M' := y15.2) (C' := True) (by decide +kernel) rfl trivial ?_
        refine ax_zge_s hX (off := 5) (tgt := 60) (by decide +kernel) (by decide) (fun h16 hX => ?_) (fun h16 hX => ?_)
        · refine ax_lump ax_layM ok_kX3 [(60, .aload_n 0, 1, 0, 0, 0), (61, .iload_n 1, 1, 0, 0, 0), (62, .iconst 1, 1, 0, 0, 0), (63, .iadd, 1, 1, 0, 0)] (pc' := 64) (lc' := [(3, (0, 0, y15.1)), (0, (2, 3, 0)), (1, (0, 0, w1)), (2, (0, 0, v2))]) (st' := [(0, 0, (w1 + 1)), (2, 3, 0)]) (M' := y15.2) (C' := (True ∧ ax_r32 (w1 + 1))) (by decide +kernel) rfl ⟨trivial, ⟨by omega, by omega⟩⟩ ?_
          refine ax_cVm_r hX (G1 := gX3_readsRank) (d1 := d + hh) (i := 93) (n := 1) (as := [(0, 0, (w1 + 1))]) (st := []) (c := 3) (a := 0) (by decide +kernel) ax_cls3 calX3_readsRank (by omega) rfl wt_892 wt_894 ws_71 (Nat.le_of_ble_eq_true rfl) rfl (fun hY => hR d (w1 + 1) y15.2 (by omega) hY) (fun y17 h_y17 hX => ?_)
          refine ax_zne_s hX (off := 5) (tgt := 72) (by decide +kernel) (by decide) (fun h18 hX => ?_) (fun h18 hX => ?_)
          · refine ax_lump ax_layM ok_kX3 [(72, .aload_n 0, 1, 0, 0, 0), (73, .sipush 2000, 3, 0, 0, 0), (76, .iload_n 3, 1, 0, 0, 0), (77, .iadd, 1, 1, 0, 0), (78, .iload_n 1, 1, 0, 0, 0)] (pc' := 79) (lc' := [(3, (0, 0, y15.1)), (0, (2, 3, 0)), (1, (0, 0, w1)), (2, (0, 0, v2))]) (st' := [(0, 0, w1), (0, 0, (2000 + y15.1)), (2, 3, 0)]) (M' := y17.2) (C' := (True ∧ ax_r32 (2000 + y15.1))) (by decide +kernel) rfl ⟨trivial, ⟨by omega, by omega⟩⟩ ?_
            refine ax_if_ne (off := 7) (tgt := 86) (by decide +kernel) (by decide) (fun h19 => ?_) (fun h19 => ?_)
            · refine ax_lump ax_layM ok_kX3 [(86, .iload_n 1, 1, 0, 0, 0), (87, .iconst 1, 1, 0, 0, 0)] (pc' := 88) (lc' := [(3, (0, 0, y15.1)), (0, (2, 3, 0)), (1, (0, 0, w1)), (2, (0, 0, v2))]) (st' := [(0, 0, 1), (0, 0, w1), (0, 0, (2000 + y15.1)), (2, 3, 0)]) (M' := y17.2) (C' := True) (by decide +kernel) rfl trivial ?_
              refine ax_icmp_ne (off := 7) (tgt := 95) (by decide +kernel) (by decide) (fun h20 => ?_) (fun h20 => ?_)
              · exfalso; omega
              · refine ax_lump ax_layM ok_kX3 [(91, .iconst 3, 1, 0, 0, 0), (92, .goto 4, 3, 96, 0, 0), (96, .iadd, 1, 1, 0, 0)] (pc' := 97) (lc' := [(3, (0, 0, y15.1)), (0, (2, 3, 0)), (1, (0, 0, w1)), (2, (0, 0, v2))]) (st' := [(0, 0, ((2000 + y15.1) + 3)), (2, 3, 0)]) (M' := y17.2) (C' := (True ∧ ax_r32 ((2000 + y15.1) + 3))) (by decide +kernel) rfl ⟨trivial, ⟨by omega, by omega⟩⟩ ?_
                refine ax_cVv_r hX (G1 := gX3_codes) (d1 := d + 0) (i := 83) (n := 1) (as := [(0, 0, ((2000 + y15.1) + 3))]) (st := []) (c := 3) (a := 0) (by decide +kernel) ax_cls3 calX3_codes (by omega) rfl wt_907 wt_909 ws_74 (Nat.le_of_ble_eq_true rfl) rfl (fun hY => c_X3_codes d ((2000 + y15.1) + 3) y17.2 hY) (fun M21 hX => ?_)
                refine ax_lump ax_layM ok_kX3 [(100, .iload_n 1, 1, 0, 0, 0)] (pc' := 101) (lc' := [(3, (0, 0, y15.1)), (0, (2, 3, 0)), (1, (0, 0, w1)), (2, (0, 0, v2))]) (st' := [(0, 0, w1)]) (M' := M21) (C' := True) (by decide +kernel) rfl trivial ?_
                refine ax_if_le (off := 7) (tgt := 108) (by decide +kernel) (by decide) (fun h22 => ?_) (fun h22 => ?_)
                · exfalso; omega
                · refine ax_lump ax_layM ok_kX3 [(104, .iconst 1, 1, 0, 0, 0), (105, .goto 4, 3, 109, 0, 0), (109, .istore_n 2, 1, 0, 0, 0), (110, .goto (-86), 3, 24, 0, 0)] (pc' := 24) (lc' := [(2, (0, 0, 1)), (3, (0, 0, y15.1)), (0, (2, 3, 0)), (1, (0, 0, w1))]) (st' := []) (M' := M21) (C' := True) (by decide +kernel) rfl trivial ?_
                  refine ax_pk [2,3,0] (lc' := [(0, (2, 3, 0)), (1, (0, 0, w1)), (2, (0, 0, 1))]) rfl ?_
                  exact hkc 1 M21 (by omega) hX
            · exfalso; omega
          · refine ax_lump ax_layM ok_kX3 [(70, .iconst 0, 1, 0, 0, 0)] (pc' := 71) (lc' := [(3, (0, 0, y15.1)), (0, (2, 3, 0)), (1, (0, 0, w1)), (2, (0, 0, v2))]) (st' := [(0, 0, 0)]) (M' := y17.2) (C' := True) (by decide +kernel) rfl trivial ?_
            exact ax_zret (by decide +kernel) rfl (by omega) ⟨rfl, rfl, (show (0 : Int) ≤ 0 from by omega), (show 0 ≤ (1 : Int) from by omega)⟩
        · refine ax_lump ax_layM ok_kX3 [(58, .iconst 1, 1, 0, 0, 0)] (pc' := 59) (lc' := [(3, (0, 0, y15.1)), (0, (2, 3, 0)), (1, (0, 0, w1)), (2, (0, 0, v2))]) (st' := [(0, 0, 1)]) (M' := y15.2) (C' := True) (by decide +kernel) rfl trivial ?_
          exact ax_zret (by decide +kernel) rfl (by omega) ⟨rfl, rfl, (show (0 : Int) ≤ 1 from by omega), (show 1 ≤ (1 : Int) from by omega)⟩
    · refine ax_lump ax_layM ok_kX3 [(33, .ldc 96, 2, 1, 1, 0), (35, .goto 15, 3, 50, 0, 0)] (pc' := 50) (lc' := [(0, (2, 3, 0)), (1, (0, 0, w1)), (2, (0, 0, v2))]) (st' := [(7, 1, 0), (2, 3, 0)]) (M' := M) (C' := True) (by decide +kernel) rfl trivial ?_
      refine ax_cVm_r hX (G1 := gX3_takesOf) (d1 := d + 4) (i := 89) (n := 1) (as := [(7, 1, 0)]) (st := []) (c := 3) (a := 0) (by decide +kernel) ax_cls3 calX3_takesOf (by omega) rfl wt_922 wt_924 ws_77 (Nat.le_of_ble_eq_true rfl) rfl (fun hY => c_X3_takesOf d 1 M hY) (fun y23 h_y23 hX => ?_)
      refine ax_lump ax_layM ok_kX3 [(53, .istore_n 3, 1, 0, 0, 0), (54, .iload_n 3, 1, 0, 0, 0)] (pc' := 55) (lc' := [(3, (0, 0, y23.1)), (0, (2, 3, 0)), (1, (0, 0, w1)), (2, (0, 0, v2))]) (st' := [(0, 0, y23.1)]) (M' := y23.2) (C' := True) (by decide +kernel) rfl trivial ?_
      refine ax_zge_s hX (off := 5) (tgt := 60) (by decide +kernel) (by decide) (fun h24 hX => ?_) (fun h24 hX => ?_)
      · refine ax_lump ax_layM ok_kX3 [(60, .aload_n 0, 1, 0, 0, 0), (61, .iload_n 1, 1, 0, 0, 0), (62, .iconst 1, 1, 0, 0, 0), (63, .iadd, 1, 1, 0, 0)] (pc' := 64) (lc' := [(3, (0, 0, y23.1)), (0, (2, 3, 0)), (1, (0, 0, w1)), (2, (0, 0, v2))]) (st' := [(0, 0, (w1 + 1)), (2, 3, 0)]) (M' := y23.2) (C' := (True ∧ ax_r32 (w1 + 1))) (by decide +kernel) rfl ⟨trivial, ⟨by omega, by omega⟩⟩ ?_
        refine ax_cVm_r hX (G1 := gX3_readsRank) (d1 := d + hh) (i := 93) (n := 1) (as := [(0, 0, (w1 + 1))]) (st := []) (c := 3) (a := 0) (by decide +kernel) ax_cls3 calX3_readsRank (by omega) rfl wt_892 wt_894 ws_71 (Nat.le_of_ble_eq_true rfl) rfl (fun hY => hR d (w1 + 1) y23.2 (by omega) hY) (fun y25 h_y25 hX => ?_)
        refine ax_zne_s hX (off := 5) (tgt := 72) (by decide +kernel) (by decide) (fun h26 hX => ?_) (fun h26 hX => ?_)
        · refine ax_lump ax_layM ok_kX3 [(72, .aload_n 0, 1, 0, 0, 0), (73, .sipush 2000, 3, 0, 0, 0), (76, .iload_n 3, 1, 0, 0, 0), (77, .iadd, 1, 1, 0, 0), (78, .iload_n 1, 1, 0, 0, 0)] (pc' := 79) (lc' := [(3, (0, 0, y23.1)), (0, (2, 3, 0)), (1, (0, 0, w1)), (2, (0, 0, v2))]) (st' := [(0, 0, w1), (0, 0, (2000 + y23.1)), (2, 3, 0)]) (M' := y25.2) (C' := (True ∧ ax_r32 (2000 + y23.1))) (by decide +kernel) rfl ⟨trivial, ⟨by omega, by omega⟩⟩ ?_
          refine ax_if_ne (off := 7) (tgt := 86) (by decide +kernel) (by decide) (fun h27 => ?_) (fun h27 => ?_)
          · exfalso; omega
          · refine ax_lump ax_layM ok_kX3 [(82, .iconst 0, 1, 0, 0, 0), (83, .goto 13, 3, 96, 0, 0), (96, .iadd, 1, 1, 0, 0)] (pc' := 97) (lc' := [(3, (0, 0, y23.1)), (0, (2, 3, 0)), (1, (0, 0, w1)), (2, (0, 0, v2))]) (st' := [(0, 0, ((2000 + y23.1) + 0)), (2, 3, 0)]) (M' := y25.2) (C' := (True ∧ ax_r32 ((2000 + y23.1) + 0))) (by decide +kernel) rfl ⟨trivial, ⟨by omega, by omega⟩⟩ ?_
            refine ax_cVv_r hX (G1 := gX3_codes) (d1 := d + 0) (i := 83) (n := 1) (as := [(0, 0, ((2000 + y23.1) + 0))]) (st := []) (c := 3) (a := 0) (by decide +kernel) ax_cls3 calX3_codes (by omega) rfl wt_907 wt_909 ws_74 (Nat.le_of_ble_eq_true rfl) rfl (fun hY => c_X3_codes d ((2000 + y23.1) + 0) y25.2 hY) (fun M28 hX => ?_)
            refine ax_lump ax_layM ok_kX3 [(100, .iload_n 1, 1, 0, 0, 0)] (pc' := 101) (lc' := [(3, (0, 0, y23.1)), (0, (2, 3, 0)), (1, (0, 0, w1)), (2, (0, 0, v2))]) (st' := [(0, 0, w1)]) (M' := M28) (C' := True) (by decide +kernel) rfl trivial ?_
            refine ax_if_le (off := 7) (tgt := 108) (by decide +kernel) (by decide) (fun h29 => ?_) (fun h29 => ?_)
            · refine ax_lump ax_layM ok_kX3 [(108, .iconst 0, 1, 0, 0, 0), (109, .istore_n 2, 1, 0, 0, 0), (110, .goto (-86), 3, 24, 0, 0)] (pc' := 24) (lc' := [(2, (0, 0, 0)), (3, (0, 0, y23.1)), (0, (2, 3, 0)), (1, (0, 0, w1))]) (st' := []) (M' := M28) (C' := True) (by decide +kernel) rfl trivial ?_
              refine ax_pk [2,3,0] (lc' := [(0, (2, 3, 0)), (1, (0, 0, w1)), (2, (0, 0, 0))]) rfl ?_
              exact hkc 0 M28 (by omega) hX
            · exfalso; omega
        · refine ax_lump ax_layM ok_kX3 [(70, .iconst 0, 1, 0, 0, 0)] (pc' := 71) (lc' := [(3, (0, 0, y23.1)), (0, (2, 3, 0)), (1, (0, 0, w1)), (2, (0, 0, v2))]) (st' := [(0, 0, 0)]) (M' := y25.2) (C' := True) (by decide +kernel) rfl trivial ?_
          exact ax_zret (by decide +kernel) rfl (by omega) ⟨rfl, rfl, (show (0 : Int) ≤ 0 from by omega), (show 0 ≤ (1 : Int) from by omega)⟩
      · refine ax_lump ax_layM ok_kX3 [(58, .iconst 1, 1, 0, 0, 0)] (pc' := 59) (lc' := [(3, (0, 0, y23.1)), (0, (2, 3, 0)), (1, (0, 0, w1)), (2, (0, 0, v2))]) (st' := [(0, 0, 1)]) (M' := y23.2) (C' := True) (by decide +kernel) rfl trivial ?_
        exact ax_zret (by decide +kernel) rfl (by omega) ⟨rfl, rfl, (show (0 : Int) ≤ 1 from by omega), (show 1 ≤ (1 : Int) from by omega)⟩
set_option maxRecDepth 100000 in
set_option maxHeartbeats 4000000 in
theorem w_X3_readsRank_L24 (fT : ax_M → Prop × Int × ax_M) (fR : Int → ax_M → Prop × Int × ax_M) (hh : Nat) (hge : 9 ≤ hh) (hT : ∀ (d : Nat) (M : ax_M), (fT M).1 → ax_Met ax_LM gX3_readsThing (d + hh) [(2, 3, 0)] M (ax_qm 0 1 (fT M).2)) (hR : ∀ (d : Nat) (x1 : Int) (M : ax_M), (0 ≤ x1 ∧ x1 ≤ 3) → (fR x1 M).1 → ax_Met ax_LM gX3_readsRank (d + hh) [(2, 3, 0), (0, 0, x1)] M (ax_qm 0 1 (fR x1 M).2)) (d : Nat) (w1 : Int) (kx : ax_M → Prop × Int × ax_M) (hw_w1 : 0 ≤ w1 ∧ w1 ≤ 2) (hkx : ∀ (M9 : ax_M), (True) → (kx M9).1 → ax_W ax_LM gX3_readsRank (d + (hh + 1)) 113 [] [] M9 ((ax_qm 0 1) (kx M9).2)) : ∀ (n : Nat) (v2 : Int) (M : ax_M), 0 ≤ v2 ∧ v2 ≤ 1 → (f_X3_readsRank_L24 fT fR w1 n v2 M kx).1 → ax_W ax_LM gX3_readsRank (d + (hh + 1)) 24 [(0, (2, 3, 0)), (1, (0, 0, w1)), (2, (0, 0, v2))] [] M ((ax_qm 0 1) (f_X3_readsRank_L24 fT fR w1 n v2 M kx).2) := by
  intro n
  induction n with
  | zero =>
    intro v2 M hv2 hX
    exact False.elim hX
  | succ n ih =>
    intro v2 M hv2 hX
    exact wb_X3_readsRank_B24 fT fR hh hge hT hR d w1 v2 M _ kx hw_w1  hv2 (fun u2 M9 hu2 hX => ih u2 M9  hu2 hX) hkx hX
def f_X3_readsRank (fT : ax_M → Prop × Int × ax_M) (fR : Int → ax_M → Prop × Int × ax_M) (x1 : Int) (M : ax_M) : Prop × Int × ax_M := (if x1 ≠ 3 then ax_rc (fR (x1 + 1) M) (fun y2 => (if y2.1 ≠ 0 then f_X3_readsRank_L24 fT fR x1 100  1 y2.2 (fun M30 => (True, (1, M30))) else (True, (0, y2.2)))) else ax_rc (fT M) (fun y31 => (True, (y31.1, y31.2))))
set_option maxRecDepth 100000 in
set_option maxHeartbeats 4000000 in
theorem c_X3_readsRank (fT : ax_M → Prop × Int × ax_M) (fR : Int → ax_M → Prop × Int × ax_M) (hh : Nat) (hge : 9 ≤ hh) (hT : ∀ (d : Nat) (M : ax_M), (fT M).1 → ax_Met ax_LM gX3_readsThing (d + hh) [(2, 3, 0)] M (ax_qm 0 1 (fT M).2)) (hR : ∀ (d : Nat) (x1 : Int) (M : ax_M), (0 ≤ x1 ∧ x1 ≤ 3) → (fR x1 M).1 → ax_Met ax_LM gX3_readsRank (d + hh) [(2, 3, 0), (0, 0, x1)] M (ax_qm 0 1 (fR x1 M).2)) (d : Nat) (x1 : Int) (M : ax_M) (hp0 : 0 ≤ x1 ∧ x1 ≤ 3) (hX : (f_X3_readsRank fT fR x1 M).1) : ax_Met ax_LM gX3_readsRank (d + (hh + 1)) [(2, 3, 0), (0, 0, x1)] M ((ax_qm 0 1) (f_X3_readsRank fT fR x1 M).2) := by
  refine ax_body (by decide) (fun X => Nat.le_of_ble_eq_true rfl) (fun hok => ?_)
  have hr_x1 : (-2147483648) ≤ x1 ∧ x1 ≤ 2147483647 := hok (0, 0, x1) (by simp)
  show ax_W ax_LM gX3_readsRank (d + (hh + 1)) 0 [(0, (2, 3, 0)), (1, (0, 0, x1))] [] M _
  unfold f_X3_readsRank at hX ⊢
  refine ax_lump ax_layM ok_kX3 [(0, .iload_n 1, 1, 0, 0, 0), (1, .iconst 3, 1, 0, 0, 0)] (pc' := 2) (lc' := [(0, (2, 3, 0)), (1, (0, 0, x1))]) (st' := [(0, 0, 3), (0, 0, x1)]) (M' := M) (C' := True) (by decide +kernel) rfl trivial ?_
  refine ax_jne_s hX (off := 8) (tgt := 10) (by decide +kernel) (by decide) (fun h1 hX => ?_) (fun h1 hX => ?_)
  · refine ax_lump ax_layM ok_kX3 [(10, .aload_n 0, 1, 0, 0, 0), (11, .iload_n 1, 1, 0, 0, 0), (12, .iconst 1, 1, 0, 0, 0), (13, .iadd, 1, 1, 0, 0)] (pc' := 14) (lc' := [(0, (2, 3, 0)), (1, (0, 0, x1))]) (st' := [(0, 0, (x1 + 1)), (2, 3, 0)]) (M' := M) (C' := (True ∧ ax_r32 (x1 + 1))) (by decide +kernel) rfl ⟨trivial, ⟨by omega, by omega⟩⟩ ?_
    refine ax_cVm_r hX (G1 := gX3_readsRank) (d1 := d + hh) (i := 93) (n := 1) (as := [(0, 0, (x1 + 1))]) (st := []) (c := 3) (a := 0) (by decide +kernel) ax_cls3 calX3_readsRank (by omega) rfl wt_892 wt_894 ws_71 (Nat.le_of_ble_eq_true rfl) rfl (fun hY => hR d (x1 + 1) M (by omega) hY) (fun y2 h_y2 hX => ?_)
    refine ax_zne_s hX (off := 5) (tgt := 22) (by decide +kernel) (by decide) (fun h3 hX => ?_) (fun h3 hX => ?_)
    · refine ax_lump ax_layM ok_kX3 [(22, .iconst 1, 1, 0, 0, 0), (23, .istore_n 2, 1, 0, 0, 0)] (pc' := 24) (lc' := [(2, (0, 0, 1)), (0, (2, 3, 0)), (1, (0, 0, x1))]) (st' := []) (M' := y2.2) (C' := True) (by decide +kernel) rfl trivial ?_
      refine ax_pk [1,2,0] (lc' := [(0, (2, 3, 0)), (1, (0, 0, x1)), (2, (0, 0, 1))]) rfl ?_
      refine w_X3_readsRank_L24 fT fR hh hge hT hR d x1 _ (by omega) (fun M30 hx_30 hX => ?_) 100  1 y2.2  (by omega) hX
      refine ax_lump ax_layM ok_kX3 [(113, .iconst 1, 1, 0, 0, 0)] (pc' := 114) (lc' := []) (st' := [(0, 0, 1)]) (M' := M30) (C' := True) (by decide +kernel) rfl trivial ?_
      exact ax_zret (by decide +kernel) rfl (by omega) ⟨rfl, rfl, (show (0 : Int) ≤ 1 from by omega), (show 1 ≤ (1 : Int) from by omega)⟩
    · refine ax_lump ax_layM ok_kX3 [(20, .iconst 0, 1, 0, 0, 0)] (pc' := 21) (lc' := [(0, (2, 3, 0)), (1, (0, 0, x1))]) (st' := [(0, 0, 0)]) (M' := y2.2) (C' := True) (by decide +kernel) rfl trivial ?_
      exact ax_zret (by decide +kernel) rfl (by omega) ⟨rfl, rfl, (show (0 : Int) ≤ 0 from by omega), (show 0 ≤ (1 : Int) from by omega)⟩
  · refine ax_lump ax_layM ok_kX3 [(5, .aload_n 0, 1, 0, 0, 0)] (pc' := 6) (lc' := [(0, (2, 3, 0)), (1, (0, 0, x1))]) (st' := [(2, 3, 0)]) (M' := M) (C' := True) (by decide +kernel) rfl trivial ?_
    refine ax_cVm_r hX (G1 := gX3_readsThing) (d1 := d + hh) (i := 80) (n := 0) (as := []) (st := []) (c := 3) (a := 0) (by decide +kernel) ax_cls3 calX3_readsThing (by omega) rfl wt_896 wt_898 ws_72 (Nat.le_of_ble_eq_true rfl) rfl (fun hY => hT d  M hY) (fun y31 h_y31 hX => ?_)
    exact ax_zret (by decide +kernel) rfl (by omega) ⟨rfl, rfl, (show (0 : Int) ≤ y31.1 from by omega), (show y31.1 ≤ (1 : Int) from by omega)⟩
/-- the model's readsThing and readsRank, within n calls -/
def f_X3_rec : Nat → (ax_M → Prop × Int × ax_M) × (Int → ax_M → Prop × Int × ax_M)
  | 0 => (fun _ => (False, (0, fun _ _ => 0)), fun _ _ => (False, (0, fun _ _ => 0)))
  | n + 1 => (f_X3_readsThing (f_X3_rec n).1 (f_X3_rec n).2, f_X3_readsRank (f_X3_rec n).1 (f_X3_rec n).2)
theorem c_X3_rec : ∀ n : Nat, (∀ (d : Nat) (M : ax_M), ((f_X3_rec n).1 M).1 → ax_Met ax_LM gX3_readsThing (d + (10 + n)) [(2, 3, 0)] M (ax_qm 0 1 ((f_X3_rec n).1 M).2)) ∧ (∀ (d : Nat) (x1 : Int) (M : ax_M), (0 ≤ x1 ∧ x1 ≤ 3) → ((f_X3_rec n).2 x1 M).1 → ax_Met ax_LM gX3_readsRank (d + (10 + n)) [(2, 3, 0), (0, 0, x1)] M (ax_qm 0 1 ((f_X3_rec n).2 x1 M).2)) := by
  intro n
  induction n with
  | zero => exact ⟨fun _ _ h => False.elim h, fun _ _ _ _ h => False.elim h⟩
  | succ n ih => exact ⟨fun d M h => c_X3_readsThing (f_X3_rec n).1 (f_X3_rec n).2 (10 + n) (by omega) ih.1 ih.2 d M h, fun d x1 M hp h => c_X3_readsRank (f_X3_rec n).1 (f_X3_rec n).2 (10 + n) (by omega) ih.1 ih.2 d x1 M hp h⟩
def f_X3_rank (x1 : Int) (M : ax_M) : Prop × Int × ax_M := (f_X3_rec 200).2 x1 M
theorem c_X3_rank (d : Nat) (x1 : Int) (M : ax_M) (hp : 0 ≤ x1 ∧ x1 ≤ 3) (hX : (f_X3_rank x1 M).1) : ax_Met ax_LM gX3_readsRank (d + 210) [(2, 3, 0), (0, 0, x1)] M (ax_qm 0 1 (f_X3_rank x1 M).2) := (c_X3_rec 200).2 d x1 M hp hX
