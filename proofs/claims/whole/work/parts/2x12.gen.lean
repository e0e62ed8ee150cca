def f_X2_count_J21 (j1 : Int) (M : ax_M) : Int := (if j1 = 0 then (f_X0_blocksOf 1 0 0 M) else (if j1 = 1 then (-100) else (if j1 = 2 then (-100) else (if j1 = 3 then (-100) else (if j1 = 4 then (-100) else (if j1 = 5 then (-100) else (if j1 = 6 then (-100) else (if j1 = 7 then (f_X0_writtenLeaves 1 M) else (if j1 = 8 then (M 10 0) else (if j1 = 9 then (M 0 15) else (if j1 = 10 then (M 0 4) else (if j1 = 11 then (M 0 12) else (if j1 = 12 then (M 0 10) else (-100))))))))))))))
set_option maxRecDepth 100000 in
set_option maxHeartbeats 4000000 in
theorem w_X2_count_J21 (d : Nat) (j1 : Int) (M : ax_M)  : ax_W ax_LC gX2_count (d + 3) 21 [(0, (2, 2, 0)), (1, (0, 0, j1))] [] M ((ax_qi (-2147483648) 2147483647 M) (f_X2_count_J21 j1 M)) := by
  unfold f_X2_count_J21
  refine ax_lump ax_layC ok_kX2 [(21, .iload_n 1, 1, 0, 0, 0)] (pc' := 22) (lc' := [(0, (2, 2, 0)), (1, (0, 0, j1))]) (st' := [(0, 0, j1)]) (M' := M) (C' := True) (by decide +kernel) rfl trivial ?_
  refine ax_ite (fun h2 => ?_) (fun h2 => ?_)
  · refine ax_swIn (dflt := 114) (lo := 0) (hi := 12) (off := 66) (offs := #[66, 114, 114, 114, 114, 114, 114, 76, 84, 94, 99, 104, 109]) (len := 66) (tgt := 88) (by decide +kernel) (by omega) (by omega) (by rw [h2]; rfl) (by decide) ?_
    refine ax_lump ax_layC ok_kX2 [(88, .aload_n 0, 1, 0, 0, 0), (89, .getfield 12, 3, 2, 0, 0), (92, .iconst 0, 1, 0, 0, 0), (93, .iconst 0, 1, 0, 0, 0)] (pc' := 94) (lc' := [(0, (2, 2, 0)), (1, (0, 0, j1))]) (st' := [(0, 0, 0), (0, 0, 0), (2, 0, 1)]) (M' := M) (C' := True) (by decide +kernel) rfl trivial ?_
    refine ax_cNi (G1 := gX0_blocksOf) (d1 := d + 2) (i := 295) (n := 2) (as := [(0, 0, 0), (0, 0, 0)]) (st := []) (c := 0) (a := 1) (by decide +kernel) ax_cls0 calX0_blocksOf (by omega) rfl wn_720 wt_722 ws_63 (Nat.le_of_ble_eq_true rfl) rfl (c_X0_blocksOf d 1 0 0 M) (fun hc3 => ?_)
    refine ax_rngS (fun hr => ?_)
    exact ax_iret (by decide +kernel) rfl ⟨rfl, rfl, hr.1, hr.2⟩
  · refine ax_ite (fun h4 => ?_) (fun h4 => ?_)
    · refine ax_swIn (dflt := 114) (lo := 0) (hi := 12) (off := 114) (offs := #[66, 114, 114, 114, 114, 114, 114, 76, 84, 94, 99, 104, 109]) (len := 66) (tgt := 136) (by decide +kernel) (by omega) (by omega) (by rw [h4]; rfl) (by decide) ?_
      refine ax_lump ax_layC ok_kX2 [(136, .bipush (-100), 2, 0, 0, 0)] (pc' := 138) (lc' := [(0, (2, 2, 0)), (1, (0, 0, j1))]) (st' := [(0, 0, (-100))]) (M' := M) (C' := True) (by decide +kernel) rfl trivial ?_
      refine ax_rngS (fun hr => ?_)
      exact ax_iret (by decide +kernel) rfl ⟨rfl, rfl, hr.1, hr.2⟩
    · refine ax_ite (fun h5 => ?_) (fun h5 => ?_)
      · refine ax_swIn (dflt := 114) (lo := 0) (hi := 12) (off := 114) (offs := #[66, 114, 114, 114, 114, 114, 114, 76, 84, 94, 99, 104, 109]) (len := 66) (tgt := 136) (by decide +kernel) (by omega) (by omega) (by rw [h5]; rfl) (by decide) ?_
        refine ax_lump ax_layC ok_kX2 [(136, .bipush (-100), 2, 0, 0, 0)] (pc' := 138) (lc' := [(0, (2, 2, 0)), (1, (0, 0, j1))]) (st' := [(0, 0, (-100))]) (M' := M) (C' := True) (by decide +kernel) rfl trivial ?_
        refine ax_rngS (fun hr => ?_)
        exact ax_iret (by decide +kernel) rfl ⟨rfl, rfl, hr.1, hr.2⟩
      · refine ax_ite (fun h6 => ?_) (fun h6 => ?_)
        · refine ax_swIn (dflt := 114) (lo := 0) (hi := 12) (off := 114) (offs := #[66, 114, 114, 114, 114, 114, 114, 76, 84, 94, 99, 104, 109]) (len := 66) (tgt := 136) (by decide +kernel) (by omega) (by omega) (by rw [h6]; rfl) (by decide) ?_
          refine ax_lump ax_layC ok_kX2 [(136, .bipush (-100), 2, 0, 0, 0)] (pc' := 138) (lc' := [(0, (2, 2, 0)), (1, (0, 0, j1))]) (st' := [(0, 0, (-100))]) (M' := M) (C' := True) (by decide +kernel) rfl trivial ?_
          refine ax_rngS (fun hr => ?_)
          exact ax_iret (by decide +kernel) rfl ⟨rfl, rfl, hr.1, hr.2⟩
        · refine ax_ite (fun h7 => ?_) (fun h7 => ?_)
          · refine ax_swIn (dflt := 114) (lo := 0) (hi := 12) (off := 114) (offs := #[66, 114, 114, 114, 114, 114, 114, 76, 84, 94, 99, 104, 109]) (len := 66) (tgt := 136) (by decide +kernel) (by omega) (by omega) (by rw [h7]; rfl) (by decide) ?_
            refine ax_lump ax_layC ok_kX2 [(136, .bipush (-100), 2, 0, 0, 0)] (pc' := 138) (lc' := [(0, (2, 2, 0)), (1, (0, 0, j1))]) (st' := [(0, 0, (-100))]) (M' := M) (C' := True) (by decide +kernel) rfl trivial ?_
            refine ax_rngS (fun hr => ?_)
            exact ax_iret (by decide +kernel) rfl ⟨rfl, rfl, hr.1, hr.2⟩
          · refine ax_ite (fun h8 => ?_) (fun h8 => ?_)
            · refine ax_swIn (dflt := 114) (lo := 0) (hi := 12) (off := 114) (offs := #[66, 114, 114, 114, 114, 114, 114, 76, 84, 94, 99, 104, 109]) (len := 66) (tgt := 136) (by decide +kernel) (by omega) (by omega) (by rw [h8]; rfl) (by decide) ?_
              refine ax_lump ax_layC ok_kX2 [(136, .bipush (-100), 2, 0, 0, 0)] (pc' := 138) (lc' := [(0, (2, 2, 0)), (1, (0, 0, j1))]) (st' := [(0, 0, (-100))]) (M' := M) (C' := True) (by decide +kernel) rfl trivial ?_
              refine ax_rngS (fun hr => ?_)
              exact ax_iret (by decide +kernel) rfl ⟨rfl, rfl, hr.1, hr.2⟩
            · refine ax_ite (fun h9 => ?_) (fun h9 => ?_)
              · refine ax_swIn (dflt := 114) (lo := 0) (hi := 12) (off := 114) (offs := #[66, 114, 114, 114, 114, 114, 114, 76, 84, 94, 99, 104, 109]) (len := 66) (tgt := 136) (by decide +kernel) (by omega) (by omega) (by rw [h9]; rfl) (by decide) ?_
                refine ax_lump ax_layC ok_kX2 [(136, .bipush (-100), 2, 0, 0, 0)] (pc' := 138) (lc' := [(0, (2, 2, 0)), (1, (0, 0, j1))]) (st' := [(0, 0, (-100))]) (M' := M) (C' := True) (by decide +kernel) rfl trivial ?_
                refine ax_rngS (fun hr => ?_)
                exact ax_iret (by decide +kernel) rfl ⟨rfl, rfl, hr.1, hr.2⟩
              · refine ax_ite (fun h10 => ?_) (fun h10 => ?_)
                · refine ax_swIn (dflt := 114) (lo := 0) (hi := 12) (off := 76) (offs := #[66, 114, 114, 114, 114, 114, 114, 76, 84, 94, 99, 104, 109]) (len := 66) (tgt := 98) (by decide +kernel) (by omega) (by omega) (by rw [h10]; rfl) (by decide) ?_
                  refine ax_lump ax_layC ok_kX2 [(98, .aload_n 0, 1, 0, 0, 0), (99, .getfield 12, 3, 2, 0, 0)] (pc' := 102) (lc' := [(0, (2, 2, 0)), (1, (0, 0, j1))]) (st' := [(2, 0, 1)]) (M' := M) (C' := True) (by decide +kernel) rfl trivial ?_
                  refine ax_cNi (G1 := gX0_writtenLeaves) (d1 := d + 0) (i := 308) (n := 0) (as := []) (st := []) (c := 0) (a := 1) (by decide +kernel) ax_cls0 calX0_writtenLeaves (by omega) rfl wn_769 wt_492 ws_41 (Nat.le_of_ble_eq_true rfl) rfl (c_X0_writtenLeaves d 1 M) (fun hc11 => ?_)
                  refine ax_rngS (fun hr => ?_)
                  exact ax_iret (by decide +kernel) rfl ⟨rfl, rfl, hr.1, hr.2⟩
                · refine ax_ite (fun h12 => ?_) (fun h12 => ?_)
                  · refine ax_swIn (dflt := 114) (lo := 0) (hi := 12) (off := 84) (offs := #[66, 114, 114, 114, 114, 114, 114, 76, 84, 94, 99, 104, 109]) (len := 66) (tgt := 106) (by decide +kernel) (by omega) (by omega) (by rw [h12]; rfl) (by decide) ?_
                    refine ax_lump ax_layC ok_kX2 [(106, .aload_n 0, 1, 0, 0, 0), (107, .getfield 12, 3, 2, 0, 0), (110, .getfield 283, 3, 0, 8, 0), (113, .iconst 0, 1, 0, 0, 0), (114, .iaload, 1, 0, 0, 0)] (pc' := 115) (lc' := [(0, (2, 2, 0)), (1, (0, 0, j1))]) (st' := [(0, 0, (M 10 0))]) (M' := M) (C' := (True ∧ (0 ≤ 0 ∧ 0 < ((7 : Nat) : Int)))) (by decide +kernel) rfl ⟨trivial, by omega⟩ ?_
                    refine ax_rngS (fun hr => ?_)
                    exact ax_iret (by decide +kernel) rfl ⟨rfl, rfl, hr.1, hr.2⟩
                  · refine ax_ite (fun h13 => ?_) (fun h13 => ?_)
                    · refine ax_swIn (dflt := 114) (lo := 0) (hi := 12) (off := 94) (offs := #[66, 114, 114, 114, 114, 114, 114, 76, 84, 94, 99, 104, 109]) (len := 66) (tgt := 116) (by decide +kernel) (by omega) (by omega) (by rw [h13]; rfl) (by decide) ?_
                      refine ax_fact (i := 0) (c := 2) (f := 15) (hi := 12) (s := 0) (by simp) rfl rfl rfl (fun hf14 => ?_)
                      have hf14 : 0 ≤ (M 0 15) ∧ (M 0 15) ≤ 12 := hf14
                      refine ax_lump ax_layC ok_kX2 [(116, .aload_n 0, 1, 0, 0, 0), (117, .getfield 67, 3, 2, 15, 0)] (pc' := 120) (lc' := [(0, (2, 2, 0)), (1, (0, 0, j1))]) (st' := [(0, 0, (M 0 15))]) (M' := M) (C' := True) (by decide +kernel) rfl trivial ?_
                      refine ax_rngS (fun hr => ?_)
                      exact ax_iret (by decide +kernel) rfl ⟨rfl, rfl, hr.1, hr.2⟩
                    · refine ax_ite (fun h15 => ?_) (fun h15 => ?_)
                      · refine ax_swIn (dflt := 114) (lo := 0) (hi := 12) (off := 99) (offs := #[66, 114, 114, 114, 114, 114, 114, 76, 84, 94, 99, 104, 109]) (len := 66) (tgt := 121) (by decide +kernel) (by omega) (by omega) (by rw [h15]; rfl) (by decide) ?_
                        refine ax_fact (i := 0) (c := 2) (f := 4) (hi := 8) (s := 0) (by simp) rfl rfl rfl (fun hf16 => ?_)
                        have hf16 : 0 ≤ (M 0 4) ∧ (M 0 4) ≤ 8 := hf16
                        refine ax_lump ax_layC ok_kX2 [(121, .aload_n 0, 1, 0, 0, 0), (122, .getfield 27, 3, 2, 4, 0)] (pc' := 125) (lc' := [(0, (2, 2, 0)), (1, (0, 0, j1))]) (st' := [(0, 0, (M 0 4))]) (M' := M) (C' := True) (by decide +kernel) rfl trivial ?_
                        refine ax_rngS (fun hr => ?_)
                        exact ax_iret (by decide +kernel) rfl ⟨rfl, rfl, hr.1, hr.2⟩
                      · refine ax_ite (fun h17 => ?_) (fun h17 => ?_)
                        · refine ax_swIn (dflt := 114) (lo := 0) (hi := 12) (off := 104) (offs := #[66, 114, 114, 114, 114, 114, 114, 76, 84, 94, 99, 104, 109]) (len := 66) (tgt := 126) (by decide +kernel) (by omega) (by omega) (by rw [h17]; rfl) (by decide) ?_
                          refine ax_fact (i := 0) (c := 2) (f := 12) (hi := 12) (s := 0) (by simp) rfl rfl rfl (fun hf18 => ?_)
                          have hf18 : 0 ≤ (M 0 12) ∧ (M 0 12) ≤ 12 := hf18
                          refine ax_lump ax_layC ok_kX2 [(126, .aload_n 0, 1, 0, 0, 0), (127, .getfield 58, 3, 2, 12, 0)] (pc' := 130) (lc' := [(0, (2, 2, 0)), (1, (0, 0, j1))]) (st' := [(0, 0, (M 0 12))]) (M' := M) (C' := True) (by decide +kernel) rfl trivial ?_
                          refine ax_rngS (fun hr => ?_)
                          exact ax_iret (by decide +kernel) rfl ⟨rfl, rfl, hr.1, hr.2⟩
                        · refine ax_ite (fun h19 => ?_) (fun h19 => ?_)
                          · refine ax_swIn (dflt := 114) (lo := 0) (hi := 12) (off := 109) (offs := #[66, 114, 114, 114, 114, 114, 114, 76, 84, 94, 99, 104, 109]) (len := 66) (tgt := 131) (by decide +kernel) (by omega) (by omega) (by rw [h19]; rfl) (by decide) ?_
                            refine ax_fact (i := 0) (c := 2) (f := 10) (hi := 80) (s := 0) (by simp) rfl rfl rfl (fun hf20 => ?_)
                            have hf20 : 0 ≤ (M 0 10) ∧ (M 0 10) ≤ 80 := hf20
                            refine ax_lump ax_layC ok_kX2 [(131, .aload_n 0, 1, 0, 0, 0), (132, .getfield 51, 3, 2, 10, 0)] (pc' := 135) (lc' := [(0, (2, 2, 0)), (1, (0, 0, j1))]) (st' := [(0, 0, (M 0 10))]) (M' := M) (C' := True) (by decide +kernel) rfl trivial ?_
                            refine ax_rngS (fun hr => ?_)
                            exact ax_iret (by decide +kernel) rfl ⟨rfl, rfl, hr.1, hr.2⟩
                          · refine ax_swOut (dflt := 114) (lo := 0) (hi := 12) (offs := #[66, 114, 114, 114, 114, 114, 114, 76, 84, 94, 99, 104, 109]) (len := 66) (tgt := 136) (by decide +kernel) (by omega) (by decide) ?_
                            refine ax_lump ax_layC ok_kX2 [(136, .bipush (-100), 2, 0, 0, 0)] (pc' := 138) (lc' := [(0, (2, 2, 0)), (1, (0, 0, j1))]) (st' := [(0, 0, (-100))]) (M' := M) (C' := True) (by decide +kernel) rfl trivial ?_
                            refine ax_rngS (fun hr => ?_)
                            exact ax_iret (by decide +kernel) rfl ⟨rfl, rfl, hr.1, hr.2⟩
def f_X2_count (x1 : Int) (M : ax_M) : Int := (if x1 < 1 then f_X2_count_J21 x1 M else (if 6 < x1 then f_X2_count_J21 x1 M else (M 10 x1.toNat)))
set_option maxRecDepth 100000 in
set_option maxHeartbeats 4000000 in
theorem c_X2_count (d : Nat) (x1 : Int) (M : ax_M)  : ax_Met ax_LC gX2_count (d + 3) [(2, 2, 0), (0, 0, x1)] M ((ax_qi (-2147483648) 2147483647 M) (f_X2_count x1 M)) := by
  refine ax_body (by decide) (fun X => Nat.le_of_ble_eq_true rfl) (fun hok => ?_)
  have hr_x1 : (-2147483648) ≤ x1 ∧ x1 ≤ 2147483647 := hok (0, 0, x1) (by simp)
  show ax_W ax_LC gX2_count (d + 3) 0 [(0, (2, 2, 0)), (1, (0, 0, x1))] [] M _
  unfold f_X2_count
  refine ax_lump ax_layC ok_kX2 [(0, .iload_n 1, 1, 0, 0, 0), (1, .iconst 1, 1, 0, 0, 0)] (pc' := 2) (lc' := [(0, (2, 2, 0)), (1, (0, 0, x1))]) (st' := [(0, 0, 1), (0, 0, x1)]) (M' := M) (C' := True) (by decide +kernel) rfl trivial ?_
  refine ax_jlt (off := 19) (tgt := 21) (by decide +kernel) (by decide) (fun h1 => ?_) (fun h1 => ?_)
  · exact w_X2_count_J21 d x1 M 
  · refine ax_lump ax_layC ok_kX2 [(5, .iload_n 1, 1, 0, 0, 0), (6, .bipush 6, 2, 0, 0, 0)] (pc' := 8) (lc' := [(0, (2, 2, 0)), (1, (0, 0, x1))]) (st' := [(0, 0, 6), (0, 0, x1)]) (M' := M) (C' := True) (by decide +kernel) rfl trivial ?_
    refine ax_jgt (off := 13) (tgt := 21) (by decide +kernel) (by decide) (fun h21 => ?_) (fun h21 => ?_)
    · exact w_X2_count_J21 d x1 M 
    · refine ax_lump ax_layC ok_kX2 [(11, .aload_n 0, 1, 0, 0, 0), (12, .getfield 12, 3, 2, 0, 0), (15, .getfield 283, 3, 0, 8, 0), (18, .iload_n 1, 1, 0, 0, 0), (19, .iaload, 1, 0, 0, 0)] (pc' := 20) (lc' := [(0, (2, 2, 0)), (1, (0, 0, x1))]) (st' := [(0, 0, (M 10 x1.toNat))]) (M' := M) (C' := (True ∧ (0 ≤ x1 ∧ x1 < ((7 : Nat) : Int)))) (by decide +kernel) rfl ⟨trivial, by omega⟩ ?_
      refine ax_rngS (fun hr => ?_)
      exact ax_iret (by decide +kernel) rfl ⟨rfl, rfl, hr.1, hr.2⟩
def f_X2_begin  (M : ax_M) : ax_M := ax_bd (f_X0_mark 1 M) (fun M1 => ax_bd (f_X0_save 1 2466 25 (f_X2_pastSlot M1) M1) (fun M3 => M3))
set_option maxRecDepth 100000 in
set_option maxHeartbeats 4000000 in
theorem c_X2_begin (d : Nat)  (M : ax_M)  : ax_Met ax_LC gX2_begin (d + 4) [(2, 2, 0)] M (ax_qv (f_X2_begin  M)) := by
  refine ax_body (by decide) (fun X => Nat.le_of_ble_eq_true rfl) (fun hok => ?_)
  show ax_W ax_LC gX2_begin (d + 4) 0 [(0, (2, 2, 0))] [] M _
  unfold f_X2_begin
  refine ax_lump ax_layC ok_kX2 [(0, .aload_n 0, 1, 0, 0, 0), (1, .getfield 12, 3, 2, 0, 0)] (pc' := 4) (lc' := [(0, (2, 2, 0))]) (st' := [(2, 0, 1)]) (M' := M) (C' := True) (by decide +kernel) rfl trivial ?_
  refine ax_cNv (G1 := gX0_mark) (d1 := d + 1) (i := 313) (n := 0) (as := []) (st := []) (c := 0) (a := 1) (by decide +kernel) ax_cls0 calX0_mark (by omega) rfl wn_355 wt_357 ws_11 (Nat.le_of_ble_eq_true rfl) rfl (c_X0_mark d 1 M) (fun M1 => ?_)
  refine ax_lump ax_layC ok_kX2 [(7, .aload_n 0, 1, 0, 0, 0), (8, .getfield 12, 3, 2, 0, 0), (11, .aload_n 0, 1, 0, 0, 0), (12, .getfield 19, 3, 2, 2, 0), (15, .aload_n 0, 1, 0, 0, 0)] (pc' := 16) (lc' := [(0, (2, 2, 0))]) (st' := [(2, 2, 0), (3, 2466, 25), (2, 0, 1)]) (M' := M1) (C' := True) (by decide +kernel) rfl trivial ?_
  refine ax_cVi (G1 := gX2_pastSlot) (d1 := d + 0) (i := 220) (n := 0) (as := []) (st := [(3, 2466, 25), (2, 0, 1)]) (c := 2) (a := 0) (by decide +kernel) ax_cls2 calX2_pastSlot (by omega) rfl wt_362 wt_364 ws_12 (Nat.le_of_ble_eq_true rfl) rfl (c_X2_pastSlot d  M1) (fun hc2 => ?_)
  refine ax_cNv (G1 := gX0_save) (d1 := d + 3) (i := 305) (n := 2) (as := [(3, 2466, 25), (0, 0, (f_X2_pastSlot M1))]) (st := []) (c := 0) (a := 1) (by decide +kernel) ax_cls0 calX0_save (by omega) rfl wn_366 wt_368 ws_13 (Nat.le_of_ble_eq_true rfl) rfl (c_X0_save d 1 2466 25 (f_X2_pastSlot M1) M1 (by omega)) (fun M3 => ?_)
  exact ax_vret (by decide +kernel) rfl ⟨rfl, rfl⟩
def f_X2_beginTrial  (M : ax_M) : ax_M := ax_bd (f_X0_load 13 2466 25 (f_X2_pastSlot M) M) (fun M2 => ax_bd (f_X0_mark 13 M2) (fun M3 => M3))
set_option maxRecDepth 100000 in
set_option maxHeartbeats 4000000 in
theorem c_X2_beginTrial (d : Nat)  (M : ax_M)  : ax_Met ax_LC gX2_beginTrial (d + 4) [(2, 2, 0)] M (ax_qv (f_X2_beginTrial  M)) := by
  refine ax_body (by decide) (fun X => Nat.le_of_ble_eq_true rfl) (fun hok => ?_)
  show ax_W ax_LC gX2_beginTrial (d + 4) 0 [(0, (2, 2, 0))] [] M _
  unfold f_X2_beginTrial
  refine ax_lump ax_layC ok_kX2 [(0, .aload_n 0, 1, 0, 0, 0), (1, .getfield 16, 3, 2, 1, 0), (4, .aload_n 0, 1, 0, 0, 0), (5, .getfield 19, 3, 2, 2, 0), (8, .aload_n 0, 1, 0, 0, 0)] (pc' := 9) (lc' := [(0, (2, 2, 0))]) (st' := [(2, 2, 0), (3, 2466, 25), (2, 0, 13)]) (M' := M) (C' := True) (by decide +kernel) rfl trivial ?_
  refine ax_cVi (G1 := gX2_pastSlot) (d1 := d + 0) (i := 220) (n := 0) (as := []) (st := [(3, 2466, 25), (2, 0, 13)]) (c := 2) (a := 0) (by decide +kernel) ax_cls2 calX2_pastSlot (by omega) rfl wt_362 wt_364 ws_12 (Nat.le_of_ble_eq_true rfl) rfl (c_X2_pastSlot d  M) (fun hc1 => ?_)
  refine ax_cNv (G1 := gX0_load) (d1 := d + 3) (i := 223) (n := 2) (as := [(3, 2466, 25), (0, 0, (f_X2_pastSlot M))]) (st := []) (c := 0) (a := 13) (by decide +kernel) ax_cls0 calX0_load (by omega) rfl wn_611 wt_613 ws_57 (Nat.le_of_ble_eq_true rfl) rfl (c_X0_load d 13 2466 25 (f_X2_pastSlot M) M (by omega)) (fun M2 => ?_)
  refine ax_lump ax_layC ok_kX2 [(15, .aload_n 0, 1, 0, 0, 0), (16, .getfield 16, 3, 2, 1, 0)] (pc' := 19) (lc' := [(0, (2, 2, 0))]) (st' := [(2, 0, 13)]) (M' := M2) (C' := True) (by decide +kernel) rfl trivial ?_
  refine ax_cNv (G1 := gX0_mark) (d1 := d + 1) (i := 313) (n := 0) (as := []) (st := []) (c := 0) (a := 13) (by decide +kernel) ax_cls0 calX0_mark (by omega) rfl wn_355 wt_357 ws_11 (Nat.le_of_ble_eq_true rfl) rfl (c_X0_mark d 13 M2) (fun M3 => ?_)
  exact ax_vret (by decide +kernel) rfl ⟨rfl, rfl⟩
def f_X2_fitting_B6  (M : ax_M) (i : Int) (v1 : Int) (kc : Int → Int) (kx : Int → Int) : Int := ax_bd (ax_and v1 (f_X0_blocksOf 1 (M 36 i.toNat) (M 37 i.toNat) M)) (fun y3 => kc y3)
def f_X2_fitting_L6  (M : ax_M) : Nat → Int → Int → (Int → Int) → Int
  | 0, i, v1, kx => kx v1
  | n + 1, i, v1, kx => f_X2_fitting_B6  M i v1 (fun u1 => f_X2_fitting_L6  M n (i + 1) u1 kx) kx
set_option maxRecDepth 100000 in
set_option maxHeartbeats 4000000 in
theorem wb_X2_fitting_B6 (d : Nat)  (M : ax_M) (i : Int) (v1 : Int) (kc : Int → Int) (kx : Int → Int)  (hi : 0 ≤ i ∧ i < (M 0 15))  (hkc : ∀ (u1 : Int), ax_W ax_LC gX2_fitting (d + 3) 6 [(0, (2, 2, 0)), (1, (0, 0, u1)), (2, (0, 0, (i + 1)))] [] M ((ax_qi (-2147483648) 2147483647 M) (kc u1))) (hkx : ∀ (x1 : Int), (True) → ax_W ax_LC gX2_fitting (d + 3) 48 [(1, (0, 0, x1))] [] M ((ax_qi (-2147483648) 2147483647 M) (kx x1))) : ax_W ax_LC gX2_fitting (d + 3) 14 [(0, (2, 2, 0)), (1, (0, 0, v1)), (2, (0, 0, i))] [] M ((ax_qi (-2147483648) 2147483647 M) (f_X2_fitting_B6  M i v1 kc kx)) := by
  unfold f_X2_fitting_B6
  refine ax_fact (i := 0) (c := 2) (f := 15) (hi := 12) (s := 0) (by simp) rfl rfl rfl (fun hf4 => ?_)
  have hf4 : 0 ≤ (M 0 15) ∧ (M 0 15) ≤ 12 := hf4
  refine ax_lump ax_layC ok_kX2 [(14, .iload_n 2, 1, 0, 0, 0), (15, .bipush 12, 2, 0, 0, 0)] (pc' := 17) (lc' := [(0, (2, 2, 0)), (1, (0, 0, v1)), (2, (0, 0, i))]) (st' := [(0, 0, 12), (0, 0, i)]) (M' := M) (C' := True) (by decide +kernel) rfl trivial ?_
  refine ax_icmp_ge (off := 31) (tgt := 48) (by decide +kernel) (by decide) (fun h1 => ?_) (fun h1 => ?_)
  · exfalso; omega
  · refine ax_lump ax_layC ok_kX2 [(20, .iload_n 1, 1, 0, 0, 0), (21, .aload_n 0, 1, 0, 0, 0), (22, .getfield 12, 3, 2, 0, 0), (25, .aload_n 0, 1, 0, 0, 0), (26, .getfield 61, 3, 2, 13, 0), (29, .iload_n 2, 1, 0, 0, 0), (30, .iaload, 1, 0, 0, 0), (31, .aload_n 0, 1, 0, 0, 0), (32, .getfield 64, 3, 2, 14, 0), (35, .iload_n 2, 1, 0, 0, 0), (36, .iaload, 1, 0, 0, 0)] (pc' := 37) (lc' := [(0, (2, 2, 0)), (1, (0, 0, v1)), (2, (0, 0, i))]) (st' := [(0, 0, (M 37 i.toNat)), (0, 0, (M 36 i.toNat)), (2, 0, 1), (0, 0, v1)]) (M' := M) (C' := ((True ∧ (0 ≤ i ∧ i < ((12 : Nat) : Int))) ∧ (0 ≤ i ∧ i < ((12 : Nat) : Int)))) (by decide +kernel) rfl ⟨⟨trivial, by omega⟩, by omega⟩ ?_
    refine ax_cNi (G1 := gX0_blocksOf) (d1 := d + 2) (i := 295) (n := 2) (as := [(0, 0, (M 36 i.toNat)), (0, 0, (M 37 i.toNat))]) (st := [(0, 0, v1)]) (c := 0) (a := 1) (by decide +kernel) ax_cls0 calX0_blocksOf (by omega) rfl wn_720 wt_722 ws_63 (Nat.le_of_ble_eq_true rfl) rfl (c_X0_blocksOf d 1 (M 36 i.toNat) (M 37 i.toNat) M) (fun hc2 => ?_)
    refine ax_lump ax_layC ok_kX2 [(40, .iand, 1, 0, 0, 0), (41, .istore_n 1, 1, 0, 0, 0)] (pc' := 42) (lc' := [(1, (0, 0, (ax_and v1 (f_X0_blocksOf 1 (M 36 i.toNat) (M 37 i.toNat) M)))), (0, (2, 2, 0)), (2, (0, 0, i))]) (st' := []) (M' := M) (C' := True) (by decide +kernel) rfl trivial ?_
    refine ax_bdI0 (e := (ax_and v1 (f_X0_blocksOf 1 (M 36 i.toNat) (M 37 i.toNat) M))) (fun y3 => [(1, (0, 0, y3)), (0, (2, 2, 0)), (2, (0, 0, i))]) (fun y3 => []) (fun y3 => ?_)
    refine ax_lump ax_layC ok_kX2 [(42, .iinc 2 1, 3, 1, 0, 0), (45, .goto (-39), 3, 6, 0, 0)] (pc' := 6) (lc' := [(2, (0, 0, (i + 1))), (1, (0, 0, y3)), (0, (2, 2, 0))]) (st' := []) (M' := M) (C' := (True ∧ ax_r32 (i + 1))) (by decide +kernel) rfl ⟨trivial, ⟨by omega, by omega⟩⟩ ?_
    refine ax_pk [2,1,0] (lc' := [(0, (2, 2, 0)), (1, (0, 0, y3)), (2, (0, 0, (i + 1)))]) rfl ?_
    exact hkc y3 
set_option maxRecDepth 100000 in
set_option maxHeartbeats 4000000 in
theorem w_X2_fitting_L6 (d : Nat)  (M : ax_M) (kx : Int → Int)  (hkx : ∀ (x1 : Int), (True) → ax_W ax_LC gX2_fitting (d + 3) 48 [(1, (0, 0, x1))] [] M ((ax_qi (-2147483648) 2147483647 M) (kx x1))) : ∀ (n : Nat) (i : Int) (v1 : Int), 0 ≤ i ∧ n = ((M 0 15) - i).toNat → ax_W ax_LC gX2_fitting (d + 3) 6 [(0, (2, 2, 0)), (1, (0, 0, v1)), (2, (0, 0, i))] [] M ((ax_qi (-2147483648) 2147483647 M) (f_X2_fitting_L6  M n i v1 kx)) := by
  intro n
  induction n with
  | zero =>
    intro i v1 hin
    refine ax_fact (i := 0) (c := 2) (f := 15) (hi := 12) (s := 0) (by simp) rfl rfl rfl (fun hf5 => ?_)
    have hf5 : 0 ≤ (M 0 15) ∧ (M 0 15) ≤ 12 := hf5
    refine ax_lump ax_layC ok_kX2 [(6, .iload_n 2, 1, 0, 0, 0), (7, .aload_n 0, 1, 0, 0, 0), (8, .getfield 67, 3, 2, 15, 0)] (pc' := 11) (lc' := [(0, (2, 2, 0)), (1, (0, 0, v1)), (2, (0, 0, i))]) (st' := [(0, 0, (M 0 15)), (0, 0, i)]) (M' := M) (C' := True) (by decide +kernel) rfl trivial ?_
    refine ax_icmp_ge (off := 37) (tgt := 48) (by decide +kernel) (by decide) (fun h => ?_) (fun h => ?_)
    · refine ax_pk [1] (lc' := [(1, (0, 0, v1))]) rfl ?_
      exact hkx v1 trivial
    · exfalso; omega
  | succ n ih =>
    intro i v1 hin
    refine ax_fact (i := 0) (c := 2) (f := 15) (hi := 12) (s := 0) (by simp) rfl rfl rfl (fun hf5 => ?_)
    have hf5 : 0 ≤ (M 0 15) ∧ (M 0 15) ≤ 12 := hf5
    refine ax_lump ax_layC ok_kX2 [(6, .iload_n 2, 1, 0, 0, 0), (7, .aload_n 0, 1, 0, 0, 0), (8, .getfield 67, 3, 2, 15, 0)] (pc' := 11) (lc' := [(0, (2, 2, 0)), (1, (0, 0, v1)), (2, (0, 0, i))]) (st' := [(0, 0, (M 0 15)), (0, 0, i)]) (M' := M) (C' := True) (by decide +kernel) rfl trivial ?_
    refine ax_icmp_ge (off := 37) (tgt := 48) (by decide +kernel) (by decide) (fun h => ?_) (fun h => ?_)
    · exfalso; omega
    · exact wb_X2_fitting_B6 d  M i v1 _ kx  (by omega)  (fun u1 => ih (i + 1) u1 (by omega) ) hkx
def f_X2_fitting  (M : ax_M) : Int := f_X2_fitting_L6  M ((M 0 15) - 0).toNat 0 65535 (fun z6 => z6)
set_option maxRecDepth 100000 in
set_option maxHeartbeats 4000000 in
theorem c_X2_fitting (d : Nat)  (M : ax_M)  : ax_Met ax_LC gX2_fitting (d + 3) [(2, 2, 0)] M ((ax_qi (-2147483648) 2147483647 M) (f_X2_fitting  M)) := by
  refine ax_body (by decide) (fun X => Nat.le_of_ble_eq_true rfl) (fun hok => ?_)
  show ax_W ax_LC gX2_fitting (d + 3) 0 [(0, (2, 2, 0))] [] M _
  unfold f_X2_fitting
  refine ax_lump ax_layC ok_kX2 [(0, .ldc_w 323, 3, 0, 0, 65535), (3, .istore_n 1, 1, 0, 0, 0), (4, .iconst 0, 1, 0, 0, 0), (5, .istore_n 2, 1, 0, 0, 0)] (pc' := 6) (lc' := [(2, (0, 0, 0)), (1, (0, 0, 65535)), (0, (2, 2, 0))]) (st' := []) (M' := M) (C' := True) (by decide +kernel) rfl trivial ?_
  refine ax_pk [2,1,0] (lc' := [(0, (2, 2, 0)), (1, (0, 0, 65535)), (2, (0, 0, 0))]) rfl ?_
  refine ax_fact (i := 0) (c := 2) (f := 15) (hi := 12) (s := 0) (by simp) rfl rfl rfl (fun hf7 => ?_)
  have hf7 : 0 ≤ (M 0 15) ∧ (M 0 15) ≤ 12 := hf7
  refine w_X2_fitting_L6 d  M _  (fun z6 hx_6 => ?_) ((M 0 15) - 0).toNat 0 65535 (by omega) 
  refine ax_lump ax_layC ok_kX2 [(48, .iload_n 1, 1, 0, 0, 0)] (pc' := 49) (lc' := [(1, (0, 0, z6))]) (st' := [(0, 0, z6)]) (M' := M) (C' := True) (by decide +kernel) rfl trivial ?_
  refine ax_rngS (fun hr => ?_)
  exact ax_iret (by decide +kernel) rfl ⟨rfl, rfl, hr.1, hr.2⟩
def f_X0_mergeFolder (b : Nat) (x1 : Int) (M : ax_M) : Int × ax_M := (if x1 < 0 then ((-1), M) else (if x1 < 6 then (if (f_X0_owned b 1 x1 M) ≠ (-1) then ax_bd (f_X0_fullMerge b x1 M) (fun y5 => (y5.1, y5.2)) else ((-2), M)) else ((-1), M)))
set_option maxRecDepth 100000 in
set_option maxHeartbeats 4000000 in
theorem c_X0_mergeFolder (d : Nat) (b : Nat) (x1 : Int) (M : ax_M)  : ax_Met ax_LC gX0_mergeFolder (d + 4) [(2, 0, (b : Int)), (0, 0, x1)] M ((ax_qm (-2) 15) (f_X0_mergeFolder b x1 M)) := by
  refine ax_body (by decide) (fun X => Nat.le_of_ble_eq_true rfl) (fun hok => ?_)
  have hr_x1 : (-2147483648) ≤ x1 ∧ x1 ≤ 2147483647 := hok (0, 0, x1) (by simp)
  show ax_W ax_LC gX0_mergeFolder (d + 4) 0 [(0, (2, 0, (b : Int))), (1, (0, 0, x1))] [] M _
  unfold f_X0_mergeFolder
  refine ax_lump ax_layC ok_kX0 [(0, .iload_n 1, 1, 0, 0, 0)] (pc' := 1) (lc' := [(0, (2, 0, (b : Int))), (1, (0, 0, x1))]) (st' := [(0, 0, x1)]) (M' := M) (C' := True) (by decide +kernel) rfl trivial ?_
  refine ax_zlt (off := 9) (tgt := 10) (by decide +kernel) (by decide) (fun h1 => ?_) (fun h1 => ?_)
  · refine ax_lump ax_layC ok_kX0 [(10, .iconst (-1), 1, 0, 0, 0)] (pc' := 11) (lc' := [(0, (2, 0, (b : Int))), (1, (0, 0, x1))]) (st' := [(0, 0, (-1))]) (M' := M) (C' := True) (by decide +kernel) rfl trivial ?_
    exact ax_iret (by decide +kernel) rfl ⟨rfl, rfl, (show ((-2) : Int) ≤ (-1) from by omega), (show (-1) ≤ (15 : Int) from by omega)⟩
  · refine ax_lump ax_layC ok_kX0 [(4, .iload_n 1, 1, 0, 0, 0), (5, .bipush 6, 2, 0, 0, 0)] (pc' := 7) (lc' := [(0, (2, 0, (b : Int))), (1, (0, 0, x1))]) (st' := [(0, 0, 6), (0, 0, x1)]) (M' := M) (C' := True) (by decide +kernel) rfl trivial ?_
    refine ax_jlt (off := 5) (tgt := 12) (by decide +kernel) (by decide) (fun h2 => ?_) (fun h2 => ?_)
    · refine ax_lump ax_layC ok_kX0 [(12, .aload_n 0, 1, 0, 0, 0), (13, .iconst 1, 1, 0, 0, 0), (14, .iload_n 1, 1, 0, 0, 0)] (pc' := 15) (lc' := [(0, (2, 0, (b : Int))), (1, (0, 0, x1))]) (st' := [(0, 0, x1), (0, 0, 1), (2, 0, (b : Int))]) (M' := M) (C' := True) (by decide +kernel) rfl trivial ?_
      refine ax_cVi (G1 := gX0_owned) (d1 := d + 0) (i := 110) (n := 2) (as := [(0, 0, 1), (0, 0, x1)]) (st := []) (c := 0) (a := (b : Int)) (by decide +kernel) ax_cls0 calX0_owned (by omega) rfl wt_382 wt_384 ws_16 (Nat.le_of_ble_eq_true rfl) rfl (c_X0_owned d b 1 x1 M) (fun hc3 => ?_)
      refine ax_lump ax_layC ok_kX0 [(18, .iconst (-1), 1, 0, 0, 0)] (pc' := 19) (lc' := [(0, (2, 0, (b : Int))), (1, (0, 0, x1))]) (st' := [(0, 0, (-1)), (0, 0, (f_X0_owned b 1 x1 M))]) (M' := M) (C' := True) (by decide +kernel) rfl trivial ?_
      refine ax_jne (off := 8) (tgt := 27) (by decide +kernel) (by decide) (fun h4 => ?_) (fun h4 => ?_)
      · refine ax_lump ax_layC ok_kX0 [(27, .aload_n 0, 1, 0, 0, 0), (28, .iload_n 1, 1, 0, 0, 0)] (pc' := 29) (lc' := [(0, (2, 0, (b : Int))), (1, (0, 0, x1))]) (st' := [(0, 0, x1), (2, 0, (b : Int))]) (M' := M) (C' := True) (by decide +kernel) rfl trivial ?_
        refine ax_cVm (G1 := gX0_fullMerge) (d1 := d + 3) (i := 153) (n := 1) (as := [(0, 0, x1)]) (st := []) (c := 0) (a := (b : Int)) (by decide +kernel) ax_cls0 calX0_fullMerge (by omega) rfl wt_426 wt_428 ws_27 (Nat.le_of_ble_eq_true rfl) rfl (c_X0_fullMerge d b x1 M) (fun y5 h_y5 => ?_)
        exact ax_iret (by decide +kernel) rfl ⟨rfl, rfl, (show ((-2) : Int) ≤ y5.1 from by omega), (show y5.1 ≤ (15 : Int) from by omega)⟩
      · refine ax_lump ax_layC ok_kX0 [(22, .bipush (-2), 2, 0, 0, 0), (24, .goto 8, 3, 32, 0, 0)] (pc' := 32) (lc' := [(0, (2, 0, (b : Int))), (1, (0, 0, x1))]) (st' := [(0, 0, (-2))]) (M' := M) (C' := True) (by decide +kernel) rfl trivial ?_
        exact ax_iret (by decide +kernel) rfl ⟨rfl, rfl, (show ((-2) : Int) ≤ (-2) from by omega), (show (-2) ≤ (15 : Int) from by omega)⟩
    · refine ax_lump ax_layC ok_kX0 [(10, .iconst (-1), 1, 0, 0, 0)] (pc' := 11) (lc' := [(0, (2, 0, (b : Int))), (1, (0, 0, x1))]) (st' := [(0, 0, (-1))]) (M' := M) (C' := True) (by decide +kernel) rfl trivial ?_
      exact ax_iret (by decide +kernel) rfl ⟨rfl, rfl, (show ((-2) : Int) ≤ (-1) from by omega), (show (-1) ≤ (15 : Int) from by omega)⟩
def f_X0_sealRun_B59 (b : Nat) (w1 : Int) (w2 : Int) (w3 : Int) (w4 : Int) (i : Int)  (M : ax_M) (kc : ax_M → Int × ax_M) (kx : ax_M → Int × ax_M) : Int × ax_M := ax_bd (f_X0_copyLeaf b (f_X0_latestOf b (ax_wr ((ax_wr (w2 * 4)) + i)) M) ((w1 * 4) + i) M) (fun M13 => kc M13)
def f_X0_sealRun_L59 (b : Nat) (w1 : Int) (w2 : Int) (w3 : Int) (w4 : Int) : Nat → Int → ax_M → (ax_M → Int × ax_M) → Int × ax_M
  | 0, i, M, kx => kx M
  | n + 1, i, M, kx => f_X0_sealRun_B59 b w1 w2 w3 w4 i  M (fun M9 => f_X0_sealRun_L59 b w1 w2 w3 w4 n (i + 1) M9 kx) kx
set_option maxRecDepth 100000 in
set_option maxHeartbeats 4000000 in
theorem wb_X0_sealRun_B59 (d : Nat) (b : Nat) (w1 : Int) (w2 : Int) (w3 : Int) (w4 : Int) (i : Int)  (M : ax_M) (kc : ax_M → Int × ax_M) (kx : ax_M → Int × ax_M) (hw_w1 : 0 ≤ w1 ∧ w1 ≤ 15) (hw_w3 : 0 ≤ w3 ∧ w3 ≤ 4) (hw_w4 : (-1) ≤ w4 ∧ w4 ≤ 15) (hi : 0 ≤ i ∧ i < 4)  (hkc : ∀ (M9 : ax_M), ax_W ax_LC gX0_sealRun (d + 4) 59 [(0, (2, 0, (b : Int))), (1, (0, 0, w1)), (2, (0, 0, w2)), (3, (0, 0, w3)), (4, (0, 0, w4)), (5, (0, 0, (i + 1)))] [] M9 ((ax_qm (-2) 2) (kc M9))) (hkx : ∀ (M9 : ax_M), (True) → ax_W ax_LC gX0_sealRun (d + 4) 91 [(0, (2, 0, (b : Int))), (1, (0, 0, w1)), (3, (0, 0, w3)), (4, (0, 0, w4))] [] M9 ((ax_qm (-2) 2) (kx M9))) : ax_W ax_LC gX0_sealRun (d + 4) 65 [(0, (2, 0, (b : Int))), (1, (0, 0, w1)), (2, (0, 0, w2)), (3, (0, 0, w3)), (4, (0, 0, w4)), (5, (0, 0, i))] [] M ((ax_qm (-2) 2) (f_X0_sealRun_B59 b w1 w2 w3 w4 i  M kc kx)) := by
  unfold f_X0_sealRun_B59
  refine ax_lump ax_layC ok_kX0 [(65, .aload_n 0, 1, 0, 0, 0), (66, .aload_n 0, 1, 0, 0, 0), (67, .iload_n 2, 1, 0, 0, 0), (68, .iconst 4, 1, 0, 0, 0), (69, .imul, 1, 0, 0, 0), (70, .iload 5, 2, 0, 0, 0), (72, .iadd, 1, 0, 0, 0)] (pc' := 73) (lc' := [(0, (2, 0, (b : Int))), (1, (0, 0, w1)), (2, (0, 0, w2)), (3, (0, 0, w3)), (4, (0, 0, w4)), (5, (0, 0, i))]) (st' := [(0, 0, (ax_wr ((ax_wr (w2 * 4)) + i))), (2, 0, (b : Int)), (2, 0, (b : Int))]) (M' := M) (C' := True) (by decide +kernel) rfl trivial ?_
  refine ax_cVi (G1 := gX0_latestOf) (d1 := d + 2) (i := 156) (n := 1) (as := [(0, 0, (ax_wr ((ax_wr (w2 * 4)) + i)))]) (st := [(2, 0, (b : Int))]) (c := 0) (a := (b : Int)) (by decide +kernel) ax_cls0 calX0_latestOf (by omega) rfl wt_414 wt_416 ws_24 (Nat.le_of_ble_eq_true rfl) rfl (c_X0_latestOf d b (ax_wr ((ax_wr (w2 * 4)) + i)) M) (fun hc12 => ?_)
  refine ax_lump ax_layC ok_kX0 [(76, .iload_n 1, 1, 0, 0, 0), (77, .iconst 4, 1, 0, 0, 0), (78, .imul, 1, 1, 0, 0), (79, .iload 5, 2, 0, 0, 0), (81, .iadd, 1, 1, 0, 0)] (pc' := 82) (lc' := [(0, (2, 0, (b : Int))), (1, (0, 0, w1)), (2, (0, 0, w2)), (3, (0, 0, w3)), (4, (0, 0, w4)), (5, (0, 0, i))]) (st' := [(0, 0, ((w1 * 4) + i)), (0, 0, (f_X0_latestOf b (ax_wr ((ax_wr (w2 * 4)) + i)) M)), (2, 0, (b : Int))]) (M' := M) (C' := ((True ∧ ax_r32 (w1 * 4)) ∧ ax_r32 ((w1 * 4) + i))) (by decide +kernel) rfl ⟨⟨trivial, ⟨by omega, by omega⟩⟩, ⟨by omega, by omega⟩⟩ ?_
  refine ax_cVv (G1 := gX0_copyLeaf) (d1 := d + 1) (i := 159) (n := 2) (as := [(0, 0, (f_X0_latestOf b (ax_wr ((ax_wr (w2 * 4)) + i)) M)), (0, 0, ((w1 * 4) + i))]) (st := []) (c := 0) (a := (b : Int)) (by decide +kernel) ax_cls0 calX0_copyLeaf (by omega) rfl wt_430 wt_432 ws_28 (Nat.le_of_ble_eq_true rfl) rfl (c_X0_copyLeaf d b (f_X0_latestOf b (ax_wr ((ax_wr (w2 * 4)) + i)) M) ((w1 * 4) + i) M) (fun M13 => ?_)
  refine ax_lump ax_layC ok_kX0 [(85, .iinc 5 1, 3, 1, 0, 0), (88, .goto (-29), 3, 59, 0, 0)] (pc' := 59) (lc' := [(5, (0, 0, (i + 1))), (0, (2, 0, (b : Int))), (1, (0, 0, w1)), (2, (0, 0, w2)), (3, (0, 0, w3)), (4, (0, 0, w4))]) (st' := []) (M' := M13) (C' := (True ∧ ax_r32 (i + 1))) (by decide +kernel) rfl ⟨trivial, ⟨by omega, by omega⟩⟩ ?_
  refine ax_pk [1,2,3,4,5,0] (lc' := [(0, (2, 0, (b : Int))), (1, (0, 0, w1)), (2, (0, 0, w2)), (3, (0, 0, w3)), (4, (0, 0, w4)), (5, (0, 0, (i + 1)))]) rfl ?_
  exact hkc M13 
set_option maxRecDepth 100000 in
set_option maxHeartbeats 4000000 in
theorem w_X0_sealRun_L59 (d : Nat) (b : Nat) (w1 : Int) (w2 : Int) (w3 : Int) (w4 : Int) (kx : ax_M → Int × ax_M) (hw_w1 : 0 ≤ w1 ∧ w1 ≤ 15) (hw_w3 : 0 ≤ w3 ∧ w3 ≤ 4) (hw_w4 : (-1) ≤ w4 ∧ w4 ≤ 15) (hkx : ∀ (M9 : ax_M), (True) → ax_W ax_LC gX0_sealRun (d + 4) 91 [(0, (2, 0, (b : Int))), (1, (0, 0, w1)), (3, (0, 0, w3)), (4, (0, 0, w4))] [] M9 ((ax_qm (-2) 2) (kx M9))) : ∀ (n : Nat) (i : Int) (M : ax_M), 0 ≤ i ∧ n = (4 - i).toNat → ax_W ax_LC gX0_sealRun (d + 4) 59 [(0, (2, 0, (b : Int))), (1, (0, 0, w1)), (2, (0, 0, w2)), (3, (0, 0, w3)), (4, (0, 0, w4)), (5, (0, 0, i))] [] M ((ax_qm (-2) 2) (f_X0_sealRun_L59 b w1 w2 w3 w4 n i  M kx)) := by
  intro n
  induction n with
  | zero =>
    intro i M hin
    refine ax_lump ax_layC ok_kX0 [(59, .iload 5, 2, 0, 0, 0), (61, .iconst 4, 1, 0, 0, 0)] (pc' := 62) (lc' := [(0, (2, 0, (b : Int))), (1, (0, 0, w1)), (2, (0, 0, w2)), (3, (0, 0, w3)), (4, (0, 0, w4)), (5, (0, 0, i))]) (st' := [(0, 0, 4), (0, 0, i)]) (M' := M) (C' := True) (by decide +kernel) rfl trivial ?_
    refine ax_icmp_ge (off := 29) (tgt := 91) (by decide +kernel) (by decide) (fun h => ?_) (fun h => ?_)
    · refine ax_pk [0,1,3,4] (lc' := [(0, (2, 0, (b : Int))), (1, (0, 0, w1)), (3, (0, 0, w3)), (4, (0, 0, w4))]) rfl ?_
      exact hkx M trivial
    · exfalso; omega
  | succ n ih =>
    intro i M hin
    refine ax_lump ax_layC ok_kX0 [(59, .iload 5, 2, 0, 0, 0), (61, .iconst 4, 1, 0, 0, 0)] (pc' := 62) (lc' := [(0, (2, 0, (b : Int))), (1, (0, 0, w1)), (2, (0, 0, w2)), (3, (0, 0, w3)), (4, (0, 0, w4)), (5, (0, 0, i))]) (st' := [(0, 0, 4), (0, 0, i)]) (M' := M) (C' := True) (by decide +kernel) rfl trivial ?_
    refine ax_icmp_ge (off := 29) (tgt := 91) (by decide +kernel) (by decide) (fun h => ?_) (fun h => ?_)
    · exfalso; omega
    · exact wb_X0_sealRun_B59 d b w1 w2 w3 w4 i  M _ kx hw_w1 hw_w3 hw_w4 (by omega)  (fun M9 => ih (i + 1)  M9 (by omega) ) hkx
def f_X0_sealRun (b : Nat) (M : ax_M) : Int × ax_M := ax_bd (f_X0_firstOf b 2 M) (fun y2 => (if y2 ≠ (-1) then ax_bd (M (b + 5) y2.toNat) (fun y4 => ax_bd (f_X0_filled b y2 M) (fun y6 => (if (f_X0_latestIn b y2 M) = (f_X0_writtenIn b y2 M) then ax_bd (f_X0_owned b 1 y4 M) (fun y11 => f_X0_sealRun_L59 b y2 y4 y6 y11 (4 - y6).toNat y6  M (fun M14 => ax_bd (ax_up M14 (b + 4) y2.toNat 1) (fun M15 => ax_bd (f_X0_wipe b y11 M15) (fun M16 => (if y6 ≠ 4 then ax_bd (f_X0_countOne b 5 M16) (fun M18 => (1, M18)) else ax_bd (f_X0_countOne b 4 M16) (fun M20 => (0, M20))))))) else ax_bd (f_X0_fullMerge b y4 M) (fun y22 => (2, y22.2))))) else ((-2), M)))
set_option maxRecDepth 100000 in
set_option maxHeartbeats 4000000 in
theorem c_X0_sealRun (d : Nat) (b : Nat) (M : ax_M)  : ax_Met ax_LC gX0_sealRun (d + 4) [(2, 0, (b : Int))] M ((ax_qm (-2) 2) (f_X0_sealRun b M)) := by
  refine ax_body (by decide) (fun X => Nat.le_of_ble_eq_true rfl) (fun hok => ?_)
  show ax_W ax_LC gX0_sealRun (d + 4) 0 [(0, (2, 0, (b : Int)))] [] M _
  unfold f_X0_sealRun
  refine ax_lump ax_layC ok_kX0 [(0, .aload_n 0, 1, 0, 0, 0), (1, .iconst 2, 1, 0, 0, 0)] (pc' := 2) (lc' := [(0, (2, 0, (b : Int)))]) (st' := [(0, 0, 2), (2, 0, (b : Int))]) (M' := M) (C' := True) (by decide +kernel) rfl trivial ?_
  refine ax_cVi (G1 := gX0_firstOf) (d1 := d + 0) (i := 166) (n := 1) (as := [(0, 0, 2)]) (st := []) (c := 0) (a := (b : Int)) (by decide +kernel) ax_cls0 calX0_firstOf (by omega) rfl wt_402 wt_404 ws_21 (Nat.le_of_ble_eq_true rfl) rfl (c_X0_firstOf d b 2 M) (fun hc1 => ?_)
  refine ax_lump ax_layC ok_kX0 [(5, .istore_n 1, 1, 0, 0, 0)] (pc' := 6) (lc' := [(1, (0, 0, (f_X0_firstOf b 2 M))), (0, (2, 0, (b : Int)))]) (st' := []) (M' := M) (C' := True) (by decide +kernel) rfl trivial ?_
  refine ax_bdI (lo := (-1)) (hi := 15) (e := (f_X0_firstOf b 2 M)) (fun y2 => [(1, (0, 0, y2)), (0, (2, 0, (b : Int)))]) (fun y2 => []) (by omega) (fun y2 h_y2 => ?_)
  refine ax_lump ax_layC ok_kX0 [(6, .iload_n 1, 1, 0, 0, 0), (7, .iconst (-1), 1, 0, 0, 0)] (pc' := 8) (lc' := [(1, (0, 0, y2)), (0, (2, 0, (b : Int)))]) (st' := [(0, 0, (-1)), (0, 0, y2)]) (M' := M) (C' := True) (by decide +kernel) rfl trivial ?_
  refine ax_jne (off := 6) (tgt := 14) (by decide +kernel) (by decide) (fun h3 => ?_) (fun h3 => ?_)
  · refine ax_lump ax_layC ok_kX0 [(14, .aload_n 0, 1, 0, 0, 0), (15, .getfield 24, 3, 0, 4, 0), (18, .iload_n 1, 1, 0, 0, 0), (19, .iaload, 1, 0, 0, 0), (20, .istore_n 2, 1, 0, 0, 0)] (pc' := 21) (lc' := [(2, (0, 0, (M (b + 5) y2.toNat))), (1, (0, 0, y2)), (0, (2, 0, (b : Int)))]) (st' := []) (M' := M) (C' := (True ∧ (0 ≤ y2 ∧ y2 < ((16 : Nat) : Int)))) (by decide +kernel) rfl ⟨trivial, by omega⟩ ?_
    refine ax_bdI0 (e := (M (b + 5) y2.toNat)) (fun y4 => [(2, (0, 0, y4)), (1, (0, 0, y2)), (0, (2, 0, (b : Int)))]) (fun y4 => []) (fun y4 => ?_)
    refine ax_lump ax_layC ok_kX0 [(21, .aload_n 0, 1, 0, 0, 0), (22, .iload_n 1, 1, 0, 0, 0)] (pc' := 23) (lc' := [(2, (0, 0, y4)), (1, (0, 0, y2)), (0, (2, 0, (b : Int)))]) (st' := [(0, 0, y2), (2, 0, (b : Int))]) (M' := M) (C' := True) (by decide +kernel) rfl trivial ?_
    refine ax_cVi (G1 := gX0_filled) (d1 := d + 0) (i := 123) (n := 1) (as := [(0, 0, y2)]) (st := []) (c := 0) (a := (b : Int)) (by decide +kernel) ax_cls0 calX0_filled (by omega) rfl wt_406 wt_408 ws_22 (Nat.le_of_ble_eq_true rfl) rfl (c_X0_filled d b y2 M) (fun hc5 => ?_)
    refine ax_lump ax_layC ok_kX0 [(26, .istore_n 3, 1, 0, 0, 0)] (pc' := 27) (lc' := [(3, (0, 0, (f_X0_filled b y2 M))), (2, (0, 0, y4)), (1, (0, 0, y2)), (0, (2, 0, (b : Int)))]) (st' := []) (M' := M) (C' := True) (by decide +kernel) rfl trivial ?_
    refine ax_bdI (lo := 0) (hi := 4) (e := (f_X0_filled b y2 M)) (fun y6 => [(3, (0, 0, y6)), (2, (0, 0, y4)), (1, (0, 0, y2)), (0, (2, 0, (b : Int)))]) (fun y6 => []) (by omega) (fun y6 h_y6 => ?_)
    refine ax_lump ax_layC ok_kX0 [(27, .aload_n 0, 1, 0, 0, 0), (28, .iload_n 1, 1, 0, 0, 0)] (pc' := 29) (lc' := [(3, (0, 0, y6)), (2, (0, 0, y4)), (1, (0, 0, y2)), (0, (2, 0, (b : Int)))]) (st' := [(0, 0, y2), (2, 0, (b : Int))]) (M' := M) (C' := True) (by decide +kernel) rfl trivial ?_
    refine ax_cVi (G1 := gX0_latestIn) (d1 := d + 3) (i := 169) (n := 1) (as := [(0, 0, y2)]) (st := []) (c := 0) (a := (b : Int)) (by decide +kernel) ax_cls0 calX0_latestIn (by omega) rfl wt_410 wt_412 ws_23 (Nat.le_of_ble_eq_true rfl) rfl (c_X0_latestIn d b y2 M) (fun hc7 => ?_)
    refine ax_lump ax_layC ok_kX0 [(32, .aload_n 0, 1, 0, 0, 0), (33, .iload_n 1, 1, 0, 0, 0)] (pc' := 34) (lc' := [(3, (0, 0, y6)), (2, (0, 0, y4)), (1, (0, 0, y2)), (0, (2, 0, (b : Int)))]) (st' := [(0, 0, y2), (2, 0, (b : Int)), (0, 0, (f_X0_latestIn b y2 M))]) (M' := M) (C' := True) (by decide +kernel) rfl trivial ?_
    refine ax_cVi (G1 := gX0_writtenIn) (d1 := d + 0) (i := 172) (n := 1) (as := [(0, 0, y2)]) (st := [(0, 0, (f_X0_latestIn b y2 M))]) (c := 0) (a := (b : Int)) (by decide +kernel) ax_cls0 calX0_writtenIn (by omega) rfl wt_422 wt_424 ws_26 (Nat.le_of_ble_eq_true rfl) rfl (c_X0_writtenIn d b y2 M) (fun hc8 => ?_)
    refine ax_jeq (off := 11) (tgt := 48) (by decide +kernel) (by decide) (fun h9 => ?_) (fun h9 => ?_)
    · refine ax_lump ax_layC ok_kX0 [(48, .aload_n 0, 1, 0, 0, 0), (49, .iconst 1, 1, 0, 0, 0), (50, .iload_n 2, 1, 0, 0, 0)] (pc' := 51) (lc' := [(3, (0, 0, y6)), (2, (0, 0, y4)), (1, (0, 0, y2)), (0, (2, 0, (b : Int)))]) (st' := [(0, 0, y4), (0, 0, 1), (2, 0, (b : Int))]) (M' := M) (C' := True) (by decide +kernel) rfl trivial ?_
      refine ax_cVi (G1 := gX0_owned) (d1 := d + 0) (i := 110) (n := 2) (as := [(0, 0, 1), (0, 0, y4)]) (st := []) (c := 0) (a := (b : Int)) (by decide +kernel) ax_cls0 calX0_owned (by omega) rfl wt_382 wt_384 ws_16 (Nat.le_of_ble_eq_true rfl) rfl (c_X0_owned d b 1 y4 M) (fun hc10 => ?_)
      refine ax_lump ax_layC ok_kX0 [(54, .istore 4, 2, 0, 0, 0)] (pc' := 56) (lc' := [(4, (0, 0, (f_X0_owned b 1 y4 M))), (3, (0, 0, y6)), (2, (0, 0, y4)), (1, (0, 0, y2)), (0, (2, 0, (b : Int)))]) (st' := []) (M' := M) (C' := True) (by decide +kernel) rfl trivial ?_
      refine ax_bdI (lo := (-1)) (hi := 15) (e := (f_X0_owned b 1 y4 M)) (fun y11 => [(4, (0, 0, y11)), (3, (0, 0, y6)), (2, (0, 0, y4)), (1, (0, 0, y2)), (0, (2, 0, (b : Int)))]) (fun y11 => []) (by omega) (fun y11 h_y11 => ?_)
      refine ax_lump ax_layC ok_kX0 [(56, .iload_n 3, 1, 0, 0, 0), (57, .istore 5, 2, 0, 0, 0)] (pc' := 59) (lc' := [(5, (0, 0, y6)), (4, (0, 0, y11)), (3, (0, 0, y6)), (2, (0, 0, y4)), (1, (0, 0, y2)), (0, (2, 0, (b : Int)))]) (st' := []) (M' := M) (C' := True) (by decide +kernel) rfl trivial ?_
      refine ax_pk [5,4,3,2,1,0] (lc' := [(0, (2, 0, (b : Int))), (1, (0, 0, y2)), (2, (0, 0, y4)), (3, (0, 0, y6)), (4, (0, 0, y11)), (5, (0, 0, y6))]) rfl ?_
      refine w_X0_sealRun_L59 d b y2 y4 y6 y11 _ (by omega) (by omega) (by omega) (fun M14 hx_14 => ?_) (4 - y6).toNat y6  M (by omega) 
      refine ax_lump ax_layC ok_kX0 [(91, .aload_n 0, 1, 0, 0, 0), (92, .getfield 21, 3, 0, 3, 0), (95, .iload_n 1, 1, 0, 0, 0), (96, .iconst 1, 1, 0, 0, 0), (97, .iastore, 1, 0, 0, 0)] (pc' := 98) (lc' := [(0, (2, 0, (b : Int))), (1, (0, 0, y2)), (3, (0, 0, y6)), (4, (0, 0, y11))]) (st' := []) (M' := (ax_up M14 (b + 4) y2.toNat 1)) (C' := (True ∧ (0 ≤ y2 ∧ y2 < ((16 : Nat) : Int)))) (by decide +kernel) rfl ⟨trivial, by omega⟩ ?_
      refine ax_bdMe (fun M15 hM_M15 => ?_)
      refine ax_lump ax_layC ok_kX0 [(98, .aload_n 0, 1, 0, 0, 0), (99, .iload 4, 2, 0, 0, 0)] (pc' := 101) (lc' := [(0, (2, 0, (b : Int))), (1, (0, 0, y2)), (3, (0, 0, y6)), (4, (0, 0, y11))]) (st' := [(0, 0, y11), (2, 0, (b : Int))]) (M' := M15) (C' := True) (by decide +kernel) rfl trivial ?_
      refine ax_cVv (G1 := gX0_wipe) (d1 := d + 1) (i := 163) (n := 1) (as := [(0, 0, y11)]) (st := []) (c := 0) (a := (b : Int)) (by decide +kernel) ax_cls0 calX0_wipe (by omega) rfl wt_443 wt_445 ws_31 (Nat.le_of_ble_eq_true rfl) rfl (c_X0_wipe d b y11 M15) (fun M16 => ?_)
      refine ax_lump ax_layC ok_kX0 [(104, .aload_n 0, 1, 0, 0, 0), (105, .iload_n 3, 1, 0, 0, 0), (106, .iconst 4, 1, 0, 0, 0)] (pc' := 107) (lc' := [(0, (2, 0, (b : Int))), (1, (0, 0, y2)), (3, (0, 0, y6)), (4, (0, 0, y11))]) (st' := [(0, 0, 4), (0, 0, y6), (2, 0, (b : Int))]) (M' := M16) (C' := True) (by decide +kernel) rfl trivial ?_
      refine ax_jne (off := 7) (tgt := 114) (by decide +kernel) (by decide) (fun h17 => ?_) (fun h17 => ?_)
      · refine ax_lump ax_layC ok_kX0 [(114, .iconst 5, 1, 0, 0, 0)] (pc' := 115) (lc' := [(0, (2, 0, (b : Int))), (1, (0, 0, y2)), (3, (0, 0, y6)), (4, (0, 0, y11))]) (st' := [(0, 0, 5), (2, 0, (b : Int))]) (M' := M16) (C' := True) (by decide +kernel) rfl trivial ?_
        refine ax_cVv (G1 := gX0_countOne) (d1 := d + 0) (i := 96) (n := 1) (as := [(0, 0, 5)]) (st := []) (c := 0) (a := (b : Int)) (by decide +kernel) ax_cls0 calX0_countOne (by omega) rfl wt_438 wt_440 ws_30 (Nat.le_of_ble_eq_true rfl) rfl (c_X0_countOne d b 5 M16) (fun M18 => ?_)
        refine ax_lump ax_layC ok_kX0 [(118, .iload_n 3, 1, 0, 0, 0), (119, .iconst 4, 1, 0, 0, 0)] (pc' := 120) (lc' := [(0, (2, 0, (b : Int))), (1, (0, 0, y2)), (3, (0, 0, y6)), (4, (0, 0, y11))]) (st' := [(0, 0, 4), (0, 0, y6)]) (M' := M18) (C' := True) (by decide +kernel) rfl trivial ?_
        refine ax_icmp_ne (off := 7) (tgt := 127) (by decide +kernel) (by decide) (fun h19 => ?_) (fun h19 => ?_)
        · refine ax_lump ax_layC ok_kX0 [(127, .iconst 1, 1, 0, 0, 0)] (pc' := 128) (lc' := [(0, (2, 0, (b : Int))), (1, (0, 0, y2)), (3, (0, 0, y6)), (4, (0, 0, y11))]) (st' := [(0, 0, 1)]) (M' := M18) (C' := True) (by decide +kernel) rfl trivial ?_
          exact ax_iret (by decide +kernel) rfl ⟨rfl, rfl, (show ((-2) : Int) ≤ 1 from by omega), (show 1 ≤ (2 : Int) from by omega)⟩
        · exfalso; omega
      · refine ax_lump ax_layC ok_kX0 [(110, .iconst 4, 1, 0, 0, 0), (111, .goto 4, 3, 115, 0, 0)] (pc' := 115) (lc' := [(0, (2, 0, (b : Int))), (1, (0, 0, y2)), (3, (0, 0, y6)), (4, (0, 0, y11))]) (st' := [(0, 0, 4), (2, 0, (b : Int))]) (M' := M16) (C' := True) (by decide +kernel) rfl trivial ?_
        refine ax_cVv (G1 := gX0_countOne) (d1 := d + 0) (i := 96) (n := 1) (as := [(0, 0, 4)]) (st := []) (c := 0) (a := (b : Int)) (by decide +kernel) ax_cls0 calX0_countOne (by omega) rfl wt_438 wt_440 ws_30 (Nat.le_of_ble_eq_true rfl) rfl (c_X0_countOne d b 4 M16) (fun M20 => ?_)
        refine ax_lump ax_layC ok_kX0 [(118, .iload_n 3, 1, 0, 0, 0), (119, .iconst 4, 1, 0, 0, 0)] (pc' := 120) (lc' := [(0, (2, 0, (b : Int))), (1, (0, 0, y2)), (3, (0, 0, y6)), (4, (0, 0, y11))]) (st' := [(0, 0, 4), (0, 0, y6)]) (M' := M20) (C' := True) (by decide +kernel) rfl trivial ?_
        refine ax_icmp_ne (off := 7) (tgt := 127) (by decide +kernel) (by decide) (fun h21 => ?_) (fun h21 => ?_)
        · exfalso; omega
        · refine ax_lump ax_layC ok_kX0 [(123, .iconst 0, 1, 0, 0, 0), (124, .goto 4, 3, 128, 0, 0)] (pc' := 128) (lc' := [(0, (2, 0, (b : Int))), (1, (0, 0, y2)), (3, (0, 0, y6)), (4, (0, 0, y11))]) (st' := [(0, 0, 0)]) (M' := M20) (C' := True) (by decide +kernel) rfl trivial ?_
          exact ax_iret (by decide +kernel) rfl ⟨rfl, rfl, (show ((-2) : Int) ≤ 0 from by omega), (show 0 ≤ (2 : Int) from by omega)⟩
    · refine ax_lump ax_layC ok_kX0 [(40, .aload_n 0, 1, 0, 0, 0), (41, .iload_n 2, 1, 0, 0, 0)] (pc' := 42) (lc' := [(3, (0, 0, y6)), (2, (0, 0, y4)), (1, (0, 0, y2)), (0, (2, 0, (b : Int)))]) (st' := [(0, 0, y4), (2, 0, (b : Int))]) (M' := M) (C' := True) (by decide +kernel) rfl trivial ?_
      refine ax_cVm (G1 := gX0_fullMerge) (d1 := d + 3) (i := 153) (n := 1) (as := [(0, 0, y4)]) (st := []) (c := 0) (a := (b : Int)) (by decide +kernel) ax_cls0 calX0_fullMerge (by omega) rfl wt_426 wt_428 ws_27 (Nat.le_of_ble_eq_true rfl) rfl (c_X0_fullMerge d b y4 M) (fun y22 h_y22 => ?_)
      refine ax_lump ax_layC ok_kX0 [(45, .pop, 1, 0, 0, 0), (46, .iconst 2, 1, 0, 0, 0)] (pc' := 47) (lc' := [(3, (0, 0, y6)), (2, (0, 0, y4)), (1, (0, 0, y2)), (0, (2, 0, (b : Int)))]) (st' := [(0, 0, 2)]) (M' := y22.2) (C' := True) (by decide +kernel) rfl trivial ?_
      exact ax_iret (by decide +kernel) rfl ⟨rfl, rfl, (show ((-2) : Int) ≤ 2 from by omega), (show 2 ≤ (2 : Int) from by omega)⟩
  · refine ax_lump ax_layC ok_kX0 [(11, .bipush (-2), 2, 0, 0, 0)] (pc' := 13) (lc' := [(1, (0, 0, y2)), (0, (2, 0, (b : Int)))]) (st' := [(0, 0, (-2))]) (M' := M) (C' := True) (by decide +kernel) rfl trivial ?_
    exact ax_iret (by decide +kernel) rfl ⟨rfl, rfl, (show ((-2) : Int) ≤ (-2) from by omega), (show (-2) ≤ (2 : Int) from by omega)⟩
def f_X0_clearFirst_B41 (b : Nat) (w1 : Int) (w2 : Int) (w3 : Int) (i : Nat)  (M : ax_M) (kc : ax_M → Int × ax_M) (kx : ax_M → Int × ax_M) : Int × ax_M := (if (ax_and (ax_shr w3 (i : Int)) 1) = 0 then kc M else ax_bd (f_X0_fullMerge b (i : Int) M) (fun y9 => kc y9.2))
def f_X0_clearFirst_L41 (b : Nat) (w1 : Int) (w2 : Int) (w3 : Int) : Nat → Nat → ax_M → (ax_M → Int × ax_M) → Int × ax_M
  | 0, i, M, kx => kx M
  | n + 1, i, M, kx => f_X0_clearFirst_B41 b w1 w2 w3 i  M (fun M9 => f_X0_clearFirst_L41 b w1 w2 w3 n (i + 1) M9 kx) kx
set_option maxRecDepth 100000 in
set_option maxHeartbeats 4000000 in
theorem wb_X0_clearFirst_B41 (d : Nat) (b : Nat) (w1 : Int) (w2 : Int) (w3 : Int) (i : Nat)  (M : ax_M) (kc : ax_M → Int × ax_M) (kx : ax_M → Int × ax_M) (hw_w1 : 3 ≤ w1 ∧ w1 ≤ 4) (hw_w2 : 0 ≤ w2 ∧ w2 ≤ 15) (hi : 0 ≤ i ∧ i < 6)  (hkc : ∀ (M9 : ax_M), ax_W ax_LC gX0_clearFirst (d + 4) 41 [(0, (2, 0, (b : Int))), (1, (0, 0, w1)), (2, (0, 0, w2)), (3, (0, 0, w3)), (4, (0, 0, ((i : Int) + 1)))] [] M9 ((ax_qm (-2147483648) 2147483647) (kc M9))) (hkx : ∀ (M9 : ax_M), (True) → ax_W ax_LC gX0_clearFirst (d + 4) 70 [(0, (2, 0, (b : Int))), (1, (0, 0, w1)), (2, (0, 0, w2)), (3, (0, 0, w3))] [] M9 ((ax_qm (-2147483648) 2147483647) (kx M9))) : ax_W ax_LC gX0_clearFirst (d + 4) 48 [(0, (2, 0, (b : Int))), (1, (0, 0, w1)), (2, (0, 0, w2)), (3, (0, 0, w3)), (4, (0, 0, (i : Int)))] [] M ((ax_qm (-2147483648) 2147483647) (f_X0_clearFirst_B41 b w1 w2 w3 i  M kc kx)) := by
  unfold f_X0_clearFirst_B41
  refine ax_lump ax_layC ok_kX0 [(48, .iload_n 3, 1, 0, 0, 0), (49, .iload 4, 2, 0, 0, 0), (51, .ishr, 1, 0, 0, 0), (52, .iconst 1, 1, 0, 0, 0), (53, .iand, 1, 0, 0, 0)] (pc' := 54) (lc' := [(0, (2, 0, (b : Int))), (1, (0, 0, w1)), (2, (0, 0, w2)), (3, (0, 0, w3)), (4, (0, 0, (i : Int)))]) (st' := [(0, 0, (ax_and (ax_shr w3 (i : Int)) 1))]) (M' := M) (C' := True) (by decide +kernel) rfl trivial ?_
  refine ax_zeq (off := 10) (tgt := 64) (by decide +kernel) (by decide) (fun h8 => ?_) (fun h8 => ?_)
  · refine ax_lump ax_layC ok_kX0 [(64, .iinc 4 1, 3, 1, 0, 0), (67, .goto (-26), 3, 41, 0, 0)] (pc' := 41) (lc' := [(4, (0, 0, ((i : Int) + 1))), (0, (2, 0, (b : Int))), (1, (0, 0, w1)), (2, (0, 0, w2)), (3, (0, 0, w3))]) (st' := []) (M' := M) (C' := (True ∧ ax_r32 ((i : Int) + 1))) (by decide +kernel) rfl ⟨trivial, ⟨by omega, by omega⟩⟩ ?_
    refine ax_pk [1,2,3,4,0] (lc' := [(0, (2, 0, (b : Int))), (1, (0, 0, w1)), (2, (0, 0, w2)), (3, (0, 0, w3)), (4, (0, 0, ((i : Int) + 1)))]) rfl ?_
    exact hkc M 
  · refine ax_lump ax_layC ok_kX0 [(57, .aload_n 0, 1, 0, 0, 0), (58, .iload 4, 2, 0, 0, 0)] (pc' := 60) (lc' := [(0, (2, 0, (b : Int))), (1, (0, 0, w1)), (2, (0, 0, w2)), (3, (0, 0, w3)), (4, (0, 0, (i : Int)))]) (st' := [(0, 0, (i : Int)), (2, 0, (b : Int))]) (M' := M) (C' := True) (by decide +kernel) rfl trivial ?_
    refine ax_cVm (G1 := gX0_fullMerge) (d1 := d + 3) (i := 153) (n := 1) (as := [(0, 0, (i : Int))]) (st := []) (c := 0) (a := (b : Int)) (by decide +kernel) ax_cls0 calX0_fullMerge (by omega) rfl wt_426 wt_428 ws_27 (Nat.le_of_ble_eq_true rfl) rfl (c_X0_fullMerge d b (i : Int) M) (fun y9 h_y9 => ?_)
    refine ax_lump ax_layC ok_kX0 [(63, .pop, 1, 0, 0, 0), (64, .iinc 4 1, 3, 1, 0, 0), (67, .goto (-26), 3, 41, 0, 0)] (pc' := 41) (lc' := [(4, (0, 0, ((i : Int) + 1))), (0, (2, 0, (b : Int))), (1, (0, 0, w1)), (2, (0, 0, w2)), (3, (0, 0, w3))]) (st' := []) (M' := y9.2) (C' := (True ∧ ax_r32 ((i : Int) + 1))) (by decide +kernel) rfl ⟨trivial, ⟨by omega, by omega⟩⟩ ?_
    refine ax_pk [1,2,3,4,0] (lc' := [(0, (2, 0, (b : Int))), (1, (0, 0, w1)), (2, (0, 0, w2)), (3, (0, 0, w3)), (4, (0, 0, ((i : Int) + 1)))]) rfl ?_
    exact hkc y9.2 
set_option maxRecDepth 100000 in
set_option maxHeartbeats 4000000 in
theorem w_X0_clearFirst_L41 (d : Nat) (b : Nat) (w1 : Int) (w2 : Int) (w3 : Int) (kx : ax_M → Int × ax_M) (hw_w1 : 3 ≤ w1 ∧ w1 ≤ 4) (hw_w2 : 0 ≤ w2 ∧ w2 ≤ 15) (hkx : ∀ (M9 : ax_M), (True) → ax_W ax_LC gX0_clearFirst (d + 4) 70 [(0, (2, 0, (b : Int))), (1, (0, 0, w1)), (2, (0, 0, w2)), (3, (0, 0, w3))] [] M9 ((ax_qm (-2147483648) 2147483647) (kx M9))) : ∀ (n : Nat) (i : Nat) (M : ax_M), 0 ≤ i ∧ i + n = 6 → ax_W ax_LC gX0_clearFirst (d + 4) 41 [(0, (2, 0, (b : Int))), (1, (0, 0, w1)), (2, (0, 0, w2)), (3, (0, 0, w3)), (4, (0, 0, (i : Int)))] [] M ((ax_qm (-2147483648) 2147483647) (f_X0_clearFirst_L41 b w1 w2 w3 n i  M kx)) := by
  intro n
  induction n with
  | zero =>
    intro i M hin
    refine ax_lump ax_layC ok_kX0 [(41, .iload 4, 2, 0, 0, 0), (43, .bipush 6, 2, 0, 0, 0)] (pc' := 45) (lc' := [(0, (2, 0, (b : Int))), (1, (0, 0, w1)), (2, (0, 0, w2)), (3, (0, 0, w3)), (4, (0, 0, (i : Int)))]) (st' := [(0, 0, 6), (0, 0, (i : Int))]) (M' := M) (C' := True) (by decide +kernel) rfl trivial ?_
    refine ax_icmp_ge (off := 25) (tgt := 70) (by decide +kernel) (by decide) (fun h => ?_) (fun h => ?_)
    · refine ax_pk [0,1,2,3] (lc' := [(0, (2, 0, (b : Int))), (1, (0, 0, w1)), (2, (0, 0, w2)), (3, (0, 0, w3))]) rfl ?_
      exact hkx M trivial
    · exfalso; omega
  | succ n ih =>
    intro i M hin
    refine ax_lump ax_layC ok_kX0 [(41, .iload 4, 2, 0, 0, 0), (43, .bipush 6, 2, 0, 0, 0)] (pc' := 45) (lc' := [(0, (2, 0, (b : Int))), (1, (0, 0, w1)), (2, (0, 0, w2)), (3, (0, 0, w3)), (4, (0, 0, (i : Int)))]) (st' := [(0, 0, 6), (0, 0, (i : Int))]) (M' := M) (C' := True) (by decide +kernel) rfl trivial ?_
    refine ax_icmp_ge (off := 25) (tgt := 70) (by decide +kernel) (by decide) (fun h => ?_) (fun h => ?_)
    · exfalso; omega
    · exact wb_X0_clearFirst_B41 d b w1 w2 w3 i  M _ kx hw_w1 hw_w2 (by omega)  (fun M9 => ih (i + 1)  M9 (by omega) ) hkx
def f_X0_clearFirst_B78 (b : Nat) (w1 : Int) (w3 : Int) (i : Nat)  (M : ax_M) (kc : ax_M → Int × ax_M) (kx : ax_M → Int × ax_M) : Int × ax_M := (if (M (b + 4) i) ≠ w1 then kc M else ax_bd (ax_up M (b + 5) i (ax_wr ((M (b + 5) i) - 1))) (fun M13 => kc M13))
def f_X0_clearFirst_L78 (b : Nat) (w1 : Int) (w3 : Int) : Nat → Nat → ax_M → (ax_M → Int × ax_M) → Int × ax_M
  | 0, i, M, kx => kx M
  | n + 1, i, M, kx => f_X0_clearFirst_B78 b w1 w3 i  M (fun M9 => f_X0_clearFirst_L78 b w1 w3 n (i + 1) M9 kx) kx
set_option maxRecDepth 100000 in
set_option maxHeartbeats 4000000 in
theorem wb_X0_clearFirst_B78 (d : Nat) (b : Nat) (w1 : Int) (w3 : Int) (i : Nat)  (M : ax_M) (kc : ax_M → Int × ax_M) (kx : ax_M → Int × ax_M) (hw_w1 : 3 ≤ w1 ∧ w1 ≤ 4) (hi : 0 ≤ i ∧ i < 16)  (hkc : ∀ (M9 : ax_M), ax_W ax_LC gX0_clearFirst (d + 4) 78 [(0, (2, 0, (b : Int))), (1, (0, 0, w1)), (3, (0, 0, w3)), (4, (0, 0, ((i : Int) + 1)))] [] M9 ((ax_qm (-2147483648) 2147483647) (kc M9))) (hkx : ∀ (M9 : ax_M), (True) → ax_W ax_LC gX0_clearFirst (d + 4) 113 [(3, (0, 0, w3))] [] M9 ((ax_qm (-2147483648) 2147483647) (kx M9))) : ax_W ax_LC gX0_clearFirst (d + 4) 85 [(0, (2, 0, (b : Int))), (1, (0, 0, w1)), (3, (0, 0, w3)), (4, (0, 0, (i : Int)))] [] M ((ax_qm (-2147483648) 2147483647) (f_X0_clearFirst_B78 b w1 w3 i  M kc kx)) := by
  unfold f_X0_clearFirst_B78
  refine ax_lump ax_layC ok_kX0 [(85, .aload_n 0, 1, 0, 0, 0), (86, .getfield 21, 3, 0, 3, 0), (89, .iload 4, 2, 0, 0, 0), (91, .iaload, 1, 0, 0, 0), (92, .iload_n 1, 1, 0, 0, 0)] (pc' := 93) (lc' := [(0, (2, 0, (b : Int))), (1, (0, 0, w1)), (3, (0, 0, w3)), (4, (0, 0, (i : Int)))]) (st' := [(0, 0, w1), (0, 0, (M (b + 4) i))]) (M' := M) (C' := (True ∧ (0 ≤ (i : Int) ∧ (i : Int) < ((16 : Nat) : Int)))) (by decide +kernel) rfl ⟨trivial, by omega⟩ ?_
  refine ax_jne (off := 14) (tgt := 107) (by decide +kernel) (by decide) (fun h12 => ?_) (fun h12 => ?_)
  · refine ax_lump ax_layC ok_kX0 [(107, .iinc 4 1, 3, 1, 0, 0), (110, .goto (-32), 3, 78, 0, 0)] (pc' := 78) (lc' := [(4, (0, 0, ((i : Int) + 1))), (0, (2, 0, (b : Int))), (1, (0, 0, w1)), (3, (0, 0, w3))]) (st' := []) (M' := M) (C' := (True ∧ ax_r32 ((i : Int) + 1))) (by decide +kernel) rfl ⟨trivial, ⟨by omega, by omega⟩⟩ ?_
    refine ax_pk [1,2,3,0] (lc' := [(0, (2, 0, (b : Int))), (1, (0, 0, w1)), (3, (0, 0, w3)), (4, (0, 0, ((i : Int) + 1)))]) rfl ?_
    exact hkc M 
  · refine ax_lump ax_layC ok_kX0 [(96, .aload_n 0, 1, 0, 0, 0), (97, .getfield 24, 3, 0, 4, 0), (100, .iload 4, 2, 0, 0, 0), (102, .dup2, 1, 0, 0, 0), (103, .iaload, 1, 0, 0, 0), (104, .iconst 1, 1, 0, 0, 0), (105, .isub, 1, 0, 0, 0), (106, .iastore, 1, 0, 0, 0)] (pc' := 107) (lc' := [(0, (2, 0, (b : Int))), (1, (0, 0, w1)), (3, (0, 0, w3)), (4, (0, 0, (i : Int)))]) (st' := []) (M' := (ax_up M (b + 5) i (ax_wr ((M (b + 5) i) - 1)))) (C' := ((True ∧ (0 ≤ (i : Int) ∧ (i : Int) < ((16 : Nat) : Int))) ∧ (0 ≤ (i : Int) ∧ (i : Int) < ((16 : Nat) : Int)))) (by decide +kernel) rfl ⟨⟨trivial, by omega⟩, by omega⟩ ?_
    refine ax_bdMe (fun M13 hM_M13 => ?_)
    refine ax_lump ax_layC ok_kX0 [(107, .iinc 4 1, 3, 1, 0, 0), (110, .goto (-32), 3, 78, 0, 0)] (pc' := 78) (lc' := [(4, (0, 0, ((i : Int) + 1))), (0, (2, 0, (b : Int))), (1, (0, 0, w1)), (3, (0, 0, w3))]) (st' := []) (M' := M13) (C' := (True ∧ ax_r32 ((i : Int) + 1))) (by decide +kernel) rfl ⟨trivial, ⟨by omega, by omega⟩⟩ ?_
    refine ax_pk [1,2,3,0] (lc' := [(0, (2, 0, (b : Int))), (1, (0, 0, w1)), (3, (0, 0, w3)), (4, (0, 0, ((i : Int) + 1)))]) rfl ?_
    exact hkc M13 
set_option maxRecDepth 100000 in
set_option maxHeartbeats 4000000 in
theorem w_X0_clearFirst_L78 (d : Nat) (b : Nat) (w1 : Int) (w3 : Int) (kx : ax_M → Int × ax_M) (hw_w1 : 3 ≤ w1 ∧ w1 ≤ 4) (hkx : ∀ (M9 : ax_M), (True) → ax_W ax_LC gX0_clearFirst (d + 4) 113 [(3, (0, 0, w3))] [] M9 ((ax_qm (-2147483648) 2147483647) (kx M9))) : ∀ (n : Nat) (i : Nat) (M : ax_M), 0 ≤ i ∧ i + n = 16 → ax_W ax_LC gX0_clearFirst (d + 4) 78 [(0, (2, 0, (b : Int))), (1, (0, 0, w1)), (3, (0, 0, w3)), (4, (0, 0, (i : Int)))] [] M ((ax_qm (-2147483648) 2147483647) (f_X0_clearFirst_L78 b w1 w3 n i  M kx)) := by
  intro n
  induction n with
  | zero =>
    intro i M hin
    refine ax_lump ax_layC ok_kX0 [(78, .iload 4, 2, 0, 0, 0), (80, .bipush 16, 2, 0, 0, 0)] (pc' := 82) (lc' := [(0, (2, 0, (b : Int))), (1, (0, 0, w1)), (3, (0, 0, w3)), (4, (0, 0, (i : Int)))]) (st' := [(0, 0, 16), (0, 0, (i : Int))]) (M' := M) (C' := True) (by decide +kernel) rfl trivial ?_
    refine ax_icmp_ge (off := 31) (tgt := 113) (by decide +kernel) (by decide) (fun h => ?_) (fun h => ?_)
    · refine ax_pk [2] (lc' := [(3, (0, 0, w3))]) rfl ?_
      exact hkx M trivial
    · exfalso; omega
  | succ n ih =>
    intro i M hin
    refine ax_lump ax_layC ok_kX0 [(78, .iload 4, 2, 0, 0, 0), (80, .bipush 16, 2, 0, 0, 0)] (pc' := 82) (lc' := [(0, (2, 0, (b : Int))), (1, (0, 0, w1)), (3, (0, 0, w3)), (4, (0, 0, (i : Int)))]) (st' := [(0, 0, 16), (0, 0, (i : Int))]) (M' := M) (C' := True) (by decide +kernel) rfl trivial ?_
    refine ax_icmp_ge (off := 31) (tgt := 113) (by decide +kernel) (by decide) (fun h => ?_) (fun h => ?_)
    · exfalso; omega
    · exact wb_X0_clearFirst_B78 d b w1 w3 i  M _ kx hw_w1 (by omega)  (fun M9 => ih (i + 1)  M9 (by omega) ) hkx
def f_X0_clearFirst_J12 (b : Nat) (j1 : Int) (M : ax_M) : Int × ax_M := ax_bd (f_X0_owned b j1 0 M) (fun y3 => (if y3 ≠ (-1) then ax_bd (f_X0_foldersIn b y3 (f_X0_latestIn b y3 M) M) (fun y7 => f_X0_clearFirst_L41 b j1 y3 y7 6 0  M (fun M10 => ax_bd (f_X0_wipe b y3 M10) (fun M11 => f_X0_clearFirst_L78 b j1 y7 16 0  M11 (fun M14 => ((f_J_bitCount y7 M14), M14))))) else ((-2), M)))
set_option maxRecDepth 100000 in
set_option maxHeartbeats 4000000 in
theorem w_X0_clearFirst_J12 (d : Nat) (b : Nat) (j1 : Int) (M : ax_M) (hw_j1 : 3 ≤ j1 ∧ j1 ≤ 4) : ax_W ax_LC gX0_clearFirst (d + 4) 12 [(0, (2, 0, (b : Int))), (1, (0, 0, j1))] [] M ((ax_qm (-2147483648) 2147483647) (f_X0_clearFirst_J12 b j1 M)) := by
  unfold f_X0_clearFirst_J12
  refine ax_lump ax_layC ok_kX0 [(12, .aload_n 0, 1, 0, 0, 0), (13, .iload_n 1, 1, 0, 0, 0), (14, .iconst 0, 1, 0, 0, 0)] (pc' := 15) (lc' := [(0, (2, 0, (b : Int))), (1, (0, 0, j1))]) (st' := [(0, 0, 0), (0, 0, j1), (2, 0, (b : Int))]) (M' := M) (C' := True) (by decide +kernel) rfl trivial ?_
  refine ax_cVi (G1 := gX0_owned) (d1 := d + 0) (i := 110) (n := 2) (as := [(0, 0, j1), (0, 0, 0)]) (st := []) (c := 0) (a := (b : Int)) (by decide +kernel) ax_cls0 calX0_owned (by omega) rfl wt_382 wt_384 ws_16 (Nat.le_of_ble_eq_true rfl) rfl (c_X0_owned d b j1 0 M) (fun hc2 => ?_)
  refine ax_lump ax_layC ok_kX0 [(18, .istore_n 2, 1, 0, 0, 0)] (pc' := 19) (lc' := [(2, (0, 0, (f_X0_owned b j1 0 M))), (0, (2, 0, (b : Int))), (1, (0, 0, j1))]) (st' := []) (M' := M) (C' := True) (by decide +kernel) rfl trivial ?_
  refine ax_bdI (lo := (-1)) (hi := 15) (e := (f_X0_owned b j1 0 M)) (fun y3 => [(2, (0, 0, y3)), (0, (2, 0, (b : Int))), (1, (0, 0, j1))]) (fun y3 => []) (by omega) (fun y3 h_y3 => ?_)
  refine ax_lump ax_layC ok_kX0 [(19, .iload_n 2, 1, 0, 0, 0), (20, .iconst (-1), 1, 0, 0, 0)] (pc' := 21) (lc' := [(2, (0, 0, y3)), (0, (2, 0, (b : Int))), (1, (0, 0, j1))]) (st' := [(0, 0, (-1)), (0, 0, y3)]) (M' := M) (C' := True) (by decide +kernel) rfl trivial ?_
  refine ax_jne (off := 6) (tgt := 27) (by decide +kernel) (by decide) (fun h4 => ?_) (fun h4 => ?_)
  · refine ax_lump ax_layC ok_kX0 [(27, .aload_n 0, 1, 0, 0, 0), (28, .iload_n 2, 1, 0, 0, 0), (29, .aload_n 0, 1, 0, 0, 0), (30, .iload_n 2, 1, 0, 0, 0)] (pc' := 31) (lc' := [(2, (0, 0, y3)), (0, (2, 0, (b : Int))), (1, (0, 0, j1))]) (st' := [(0, 0, y3), (2, 0, (b : Int)), (0, 0, y3), (2, 0, (b : Int))]) (M' := M) (C' := True) (by decide +kernel) rfl trivial ?_
    refine ax_cVi (G1 := gX0_latestIn) (d1 := d + 3) (i := 169) (n := 1) (as := [(0, 0, y3)]) (st := [(0, 0, y3), (2, 0, (b : Int))]) (c := 0) (a := (b : Int)) (by decide +kernel) ax_cls0 calX0_latestIn (by omega) rfl wt_410 wt_412 ws_23 (Nat.le_of_ble_eq_true rfl) rfl (c_X0_latestIn d b y3 M) (fun hc5 => ?_)
    refine ax_cVi (G1 := gX0_foldersIn) (d1 := d + 0) (i := 175) (n := 2) (as := [(0, 0, y3), (0, 0, (f_X0_latestIn b y3 M))]) (st := []) (c := 0) (a := (b : Int)) (by decide +kernel) ax_cls0 calX0_foldersIn (by omega) rfl wt_463 wt_465 ws_36 (Nat.le_of_ble_eq_true rfl) rfl (c_X0_foldersIn d b y3 (f_X0_latestIn b y3 M) M) (fun hc6 => ?_)
    refine ax_lump ax_layC ok_kX0 [(37, .istore_n 3, 1, 0, 0, 0)] (pc' := 38) (lc' := [(3, (0, 0, (f_X0_foldersIn b y3 (f_X0_latestIn b y3 M) M))), (2, (0, 0, y3)), (0, (2, 0, (b : Int))), (1, (0, 0, j1))]) (st' := []) (M' := M) (C' := True) (by decide +kernel) rfl trivial ?_
    refine ax_bdI0 (e := (f_X0_foldersIn b y3 (f_X0_latestIn b y3 M) M)) (fun y7 => [(3, (0, 0, y7)), (2, (0, 0, y3)), (0, (2, 0, (b : Int))), (1, (0, 0, j1))]) (fun y7 => []) (fun y7 => ?_)
    refine ax_lump ax_layC ok_kX0 [(38, .iconst 0, 1, 0, 0, 0), (39, .istore 4, 2, 0, 0, 0)] (pc' := 41) (lc' := [(4, (0, 0, 0)), (3, (0, 0, y7)), (2, (0, 0, y3)), (0, (2, 0, (b : Int))), (1, (0, 0, j1))]) (st' := []) (M' := M) (C' := True) (by decide +kernel) rfl trivial ?_
    refine ax_pk [3,4,2,1,0] (lc' := [(0, (2, 0, (b : Int))), (1, (0, 0, j1)), (2, (0, 0, y3)), (3, (0, 0, y7)), (4, (0, 0, 0))]) rfl ?_
    refine w_X0_clearFirst_L41 d b j1 y3 y7 _ (by omega) (by omega) (fun M10 hx_10 => ?_) 6 0  M (by omega) 
    refine ax_lump ax_layC ok_kX0 [(70, .aload_n 0, 1, 0, 0, 0), (71, .iload_n 2, 1, 0, 0, 0)] (pc' := 72) (lc' := [(0, (2, 0, (b : Int))), (1, (0, 0, j1)), (2, (0, 0, y3)), (3, (0, 0, y7))]) (st' := [(0, 0, y3), (2, 0, (b : Int))]) (M' := M10) (C' := True) (by decide +kernel) rfl trivial ?_
    refine ax_cVv (G1 := gX0_wipe) (d1 := d + 1) (i := 163) (n := 1) (as := [(0, 0, y3)]) (st := []) (c := 0) (a := (b : Int)) (by decide +kernel) ax_cls0 calX0_wipe (by omega) rfl wt_443 wt_445 ws_31 (Nat.le_of_ble_eq_true rfl) rfl (c_X0_wipe d b y3 M10) (fun M11 => ?_)
    refine ax_lump ax_layC ok_kX0 [(75, .iconst 0, 1, 0, 0, 0), (76, .istore 4, 2, 0, 0, 0)] (pc' := 78) (lc' := [(4, (0, 0, 0)), (0, (2, 0, (b : Int))), (1, (0, 0, j1)), (2, (0, 0, y3)), (3, (0, 0, y7))]) (st' := []) (M' := M11) (C' := True) (by decide +kernel) rfl trivial ?_
    refine ax_pk [1,2,4,0] (lc' := [(0, (2, 0, (b : Int))), (1, (0, 0, j1)), (3, (0, 0, y7)), (4, (0, 0, 0))]) rfl ?_
    refine w_X0_clearFirst_L78 d b j1 y7 _ (by omega) (fun M14 hx_14 => ?_) 16 0  M11 (by omega) 
    refine ax_lump ax_layC ok_kX0 [(113, .iload_n 3, 1, 0, 0, 0)] (pc' := 114) (lc' := [(3, (0, 0, y7))]) (st' := [(0, 0, y7)]) (M' := M14) (C' := True) (by decide +kernel) rfl trivial ?_
    refine ax_cSi (G1 := gJ_bitCount) (d1 := d + 0) (i := 178) (n := 1) (as := [(0, 0, y7)]) (st := []) (by decide +kernel) calJ_bitCount (by omega) rfl wt_467 wt_468 (Nat.le_of_ble_eq_true rfl) rfl (c_J_bitCount ax_LC ax_layC d y7 M14) (fun hc15 => ?_)
    refine ax_rngS (fun hr => ?_)
    exact ax_iret (by decide +kernel) rfl ⟨rfl, rfl, hr.1, hr.2⟩
  · refine ax_lump ax_layC ok_kX0 [(24, .bipush (-2), 2, 0, 0, 0)] (pc' := 26) (lc' := [(2, (0, 0, y3)), (0, (2, 0, (b : Int))), (1, (0, 0, j1))]) (st' := [(0, 0, (-2))]) (M' := M) (C' := True) (by decide +kernel) rfl trivial ?_
    refine ax_rngS (fun hr => ?_)
    exact ax_iret (by decide +kernel) rfl ⟨rfl, rfl, hr.1, hr.2⟩
def f_X0_clearFirst (b : Nat) (x1 : Int) (M : ax_M) : Int × ax_M := (if x1 = 3 then f_X0_clearFirst_J12 b x1 M else (if x1 = 4 then f_X0_clearFirst_J12 b x1 M else ((-1), M)))
set_option maxRecDepth 100000 in
set_option maxHeartbeats 4000000 in
theorem c_X0_clearFirst (d : Nat) (b : Nat) (x1 : Int) (M : ax_M)  : ax_Met ax_LC gX0_clearFirst (d + 4) [(2, 0, (b : Int)), (0, 0, x1)] M ((ax_qm (-2147483648) 2147483647) (f_X0_clearFirst b x1 M)) := by
  refine ax_body (by decide) (fun X => Nat.le_of_ble_eq_true rfl) (fun hok => ?_)
  have hr_x1 : (-2147483648) ≤ x1 ∧ x1 ≤ 2147483647 := hok (0, 0, x1) (by simp)
  show ax_W ax_LC gX0_clearFirst (d + 4) 0 [(0, (2, 0, (b : Int))), (1, (0, 0, x1))] [] M _
  unfold f_X0_clearFirst
  refine ax_lump ax_layC ok_kX0 [(0, .iload_n 1, 1, 0, 0, 0), (1, .iconst 3, 1, 0, 0, 0)] (pc' := 2) (lc' := [(0, (2, 0, (b : Int))), (1, (0, 0, x1))]) (st' := [(0, 0, 3), (0, 0, x1)]) (M' := M) (C' := True) (by decide +kernel) rfl trivial ?_
  refine ax_jeq (off := 10) (tgt := 12) (by decide +kernel) (by decide) (fun h1 => ?_) (fun h1 => ?_)
  · exact w_X0_clearFirst_J12 d b x1 M (by omega)
  · refine ax_lump ax_layC ok_kX0 [(5, .iload_n 1, 1, 0, 0, 0), (6, .iconst 4, 1, 0, 0, 0)] (pc' := 7) (lc' := [(0, (2, 0, (b : Int))), (1, (0, 0, x1))]) (st' := [(0, 0, 4), (0, 0, x1)]) (M' := M) (C' := True) (by decide +kernel) rfl trivial ?_
    refine ax_jeq (off := 5) (tgt := 12) (by decide +kernel) (by decide) (fun h16 => ?_) (fun h16 => ?_)
    · exact w_X0_clearFirst_J12 d b x1 M (by omega)
    · refine ax_lump ax_layC ok_kX0 [(10, .iconst (-1), 1, 0, 0, 0)] (pc' := 11) (lc' := [(0, (2, 0, (b : Int))), (1, (0, 0, x1))]) (st' := [(0, 0, (-1))]) (M' := M) (C' := True) (by decide +kernel) rfl trivial ?_
      refine ax_rngS (fun hr => ?_)
      exact ax_iret (by decide +kernel) rfl ⟨rfl, rfl, hr.1, hr.2⟩
def f_X2_merges (x1 : Int) (M : ax_M) : Int × ax_M := ax_bd (f_X2_begin M) (fun M1 => ax_bd (f_X0_mergeFolder 1 x1 M1) (fun y2 => ax_bd (f_X2_settleMore y2.1 y2.2) (fun y3 => (y3.1, y3.2))))
set_option maxRecDepth 100000 in
set_option maxHeartbeats 4000000 in
theorem c_X2_merges (d : Nat) (x1 : Int) (M : ax_M)  : ax_Met ax_LC gX2_merges (d + 5) [(2, 2, 0), (0, 0, x1)] M ((ax_qm (-2147483648) 2147483647) (f_X2_merges x1 M)) := by
  refine ax_body (by decide) (fun X => Nat.le_of_ble_eq_true rfl) (fun hok => ?_)
  have hr_x1 : (-2147483648) ≤ x1 ∧ x1 ≤ 2147483647 := hok (0, 0, x1) (by simp)
  show ax_W ax_LC gX2_merges (d + 5) 0 [(0, (2, 2, 0)), (1, (0, 0, x1))] [] M _
  unfold f_X2_merges
  refine ax_lump ax_layC ok_kX2 [(0, .aload_n 0, 1, 0, 0, 0)] (pc' := 1) (lc' := [(0, (2, 2, 0)), (1, (0, 0, x1))]) (st' := [(2, 2, 0)]) (M' := M) (C' := True) (by decide +kernel) rfl trivial ?_
  refine ax_cVv (G1 := gX2_begin) (d1 := d + 4) (i := 142) (n := 0) (as := []) (st := []) (c := 2) (a := 0) (by decide +kernel) ax_cls2 calX2_begin (by omega) rfl wt_351 wt_353 ws_10 (Nat.le_of_ble_eq_true rfl) rfl (c_X2_begin d  M) (fun M1 => ?_)
  refine ax_lump ax_layC ok_kX2 [(4, .aload_n 0, 1, 0, 0, 0), (5, .aload_n 0, 1, 0, 0, 0), (6, .getfield 12, 3, 2, 0, 0), (9, .iload_n 1, 1, 0, 0, 0)] (pc' := 10) (lc' := [(0, (2, 2, 0)), (1, (0, 0, x1))]) (st' := [(0, 0, x1), (2, 0, 1), (2, 2, 0)]) (M' := M1) (C' := True) (by decide +kernel) rfl trivial ?_
  refine ax_cNm (G1 := gX0_mergeFolder) (d1 := d + 4) (i := 171) (n := 1) (as := [(0, 0, x1)]) (st := [(2, 2, 0)]) (c := 0) (a := 1) (by decide +kernel) ax_cls0 calX0_mergeFolder (by omega) rfl wn_545 wt_547 ws_51 (Nat.le_of_ble_eq_true rfl) rfl (c_X0_mergeFolder d 1 x1 M1) (fun y2 h_y2 => ?_)
  refine ax_cVm (G1 := gX2_settleMore) (d1 := d + 2) (i := 174) (n := 1) (as := [(0, 0, y2.1)]) (st := []) (c := 2) (a := 0) (by decide +kernel) ax_cls2 calX2_settleMore (by omega) rfl wt_549 wt_551 ws_52 (Nat.le_of_ble_eq_true rfl) rfl (c_X2_settleMore d y2.1 y2.2) (fun y3 h_y3 => ?_)
  refine ax_rngS (fun hr => ?_)
  exact ax_iret (by decide +kernel) rfl ⟨rfl, rfl, hr.1, hr.2⟩
def f_X2_seals  (M : ax_M) : Int × ax_M := ax_bd (f_X2_begin M) (fun M1 => ax_bd (f_X0_sealRun 1 M1) (fun y2 => ax_bd (f_X2_settleMore y2.1 y2.2) (fun y3 => (y3.1, y3.2))))
set_option maxRecDepth 100000 in
set_option maxHeartbeats 4000000 in
theorem c_X2_seals (d : Nat)  (M : ax_M)  : ax_Met ax_LC gX2_seals (d + 5) [(2, 2, 0)] M ((ax_qm (-2147483648) 2147483647) (f_X2_seals  M)) := by
  refine ax_body (by decide) (fun X => Nat.le_of_ble_eq_true rfl) (fun hok => ?_)
  show ax_W ax_LC gX2_seals (d + 5) 0 [(0, (2, 2, 0))] [] M _
  unfold f_X2_seals
  refine ax_lump ax_layC ok_kX2 [(0, .aload_n 0, 1, 0, 0, 0)] (pc' := 1) (lc' := [(0, (2, 2, 0))]) (st' := [(2, 2, 0)]) (M' := M) (C' := True) (by decide +kernel) rfl trivial ?_
  refine ax_cVv (G1 := gX2_begin) (d1 := d + 4) (i := 142) (n := 0) (as := []) (st := []) (c := 2) (a := 0) (by decide +kernel) ax_cls2 calX2_begin (by omega) rfl wt_351 wt_353 ws_10 (Nat.le_of_ble_eq_true rfl) rfl (c_X2_begin d  M) (fun M1 => ?_)
  refine ax_lump ax_layC ok_kX2 [(4, .aload_n 0, 1, 0, 0, 0), (5, .aload_n 0, 1, 0, 0, 0), (6, .getfield 12, 3, 2, 0, 0)] (pc' := 9) (lc' := [(0, (2, 2, 0))]) (st' := [(2, 0, 1), (2, 2, 0)]) (M' := M1) (C' := True) (by decide +kernel) rfl trivial ?_
  refine ax_cNm (G1 := gX0_sealRun) (d1 := d + 4) (i := 177) (n := 0) (as := []) (st := [(2, 2, 0)]) (c := 0) (a := 1) (by decide +kernel) ax_cls0 calX0_sealRun (by omega) rfl wn_557 wt_400 ws_20 (Nat.le_of_ble_eq_true rfl) rfl (c_X0_sealRun d 1 M1) (fun y2 h_y2 => ?_)
  refine ax_cVm (G1 := gX2_settleMore) (d1 := d + 2) (i := 174) (n := 1) (as := [(0, 0, y2.1)]) (st := []) (c := 2) (a := 0) (by decide +kernel) ax_cls2 calX2_settleMore (by omega) rfl wt_549 wt_551 ws_52 (Nat.le_of_ble_eq_true rfl) rfl (c_X2_settleMore d y2.1 y2.2) (fun y3 h_y3 => ?_)
  refine ax_rngS (fun hr => ?_)
  exact ax_iret (by decide +kernel) rfl ⟨rfl, rfl, hr.1, hr.2⟩
def f_X2_clears (x1 : Int) (M : ax_M) : Int × ax_M := ax_bd (f_X2_begin M) (fun M1 => ax_bd (f_X0_clearFirst 1 (f_X2_kindOfRow x1 M1) M1) (fun y3 => ax_bd (f_X2_settleMore y3.1 y3.2) (fun y4 => (y4.1, y4.2))))
set_option maxRecDepth 100000 in
set_option maxHeartbeats 4000000 in
theorem c_X2_clears (d : Nat) (x1 : Int) (M : ax_M)  : ax_Met ax_LC gX2_clears (d + 5) [(2, 2, 0), (0, 0, x1)] M ((ax_qm (-2147483648) 2147483647) (f_X2_clears x1 M)) := by
  refine ax_body (by decide) (fun X => Nat.le_of_ble_eq_true rfl) (fun hok => ?_)
  have hr_x1 : (-2147483648) ≤ x1 ∧ x1 ≤ 2147483647 := hok (0, 0, x1) (by simp)
  show ax_W ax_LC gX2_clears (d + 5) 0 [(0, (2, 2, 0)), (1, (0, 0, x1))] [] M _
  unfold f_X2_clears
  refine ax_lump ax_layC ok_kX2 [(0, .aload_n 0, 1, 0, 0, 0)] (pc' := 1) (lc' := [(0, (2, 2, 0)), (1, (0, 0, x1))]) (st' := [(2, 2, 0)]) (M' := M) (C' := True) (by decide +kernel) rfl trivial ?_
  refine ax_cVv (G1 := gX2_begin) (d1 := d + 4) (i := 142) (n := 0) (as := []) (st := []) (c := 2) (a := 0) (by decide +kernel) ax_cls2 calX2_begin (by omega) rfl wt_351 wt_353 ws_10 (Nat.le_of_ble_eq_true rfl) rfl (c_X2_begin d  M) (fun M1 => ?_)
  refine ax_lump ax_layC ok_kX2 [(4, .aload_n 0, 1, 0, 0, 0), (5, .aload_n 0, 1, 0, 0, 0), (6, .getfield 12, 3, 2, 0, 0), (9, .iload_n 1, 1, 0, 0, 0)] (pc' := 10) (lc' := [(0, (2, 2, 0)), (1, (0, 0, x1))]) (st' := [(0, 0, x1), (2, 0, 1), (2, 2, 0)]) (M' := M1) (C' := True) (by decide +kernel) rfl trivial ?_
  refine ax_cSi (G1 := gX2_kindOfRow) (d1 := d + 0) (i := 180) (n := 1) (as := [(0, 0, x1)]) (st := [(2, 0, 1), (2, 2, 0)]) (by decide +kernel) calX2_kindOfRow (by omega) rfl wt_562 wt_563 (Nat.le_of_ble_eq_true rfl) rfl (c_X2_kindOfRow d x1 M1) (fun hc2 => ?_)
  refine ax_cNm (G1 := gX0_clearFirst) (d1 := d + 4) (i := 183) (n := 1) (as := [(0, 0, (f_X2_kindOfRow x1 M1))]) (st := [(2, 2, 0)]) (c := 0) (a := 1) (by decide +kernel) ax_cls0 calX0_clearFirst (by omega) rfl wn_565 wt_461 ws_35 (Nat.le_of_ble_eq_true rfl) rfl (c_X0_clearFirst d 1 (f_X2_kindOfRow x1 M1) M1) (fun y3 h_y3 => ?_)
  refine ax_cVm (G1 := gX2_settleMore) (d1 := d + 2) (i := 174) (n := 1) (as := [(0, 0, y3.1)]) (st := []) (c := 2) (a := 0) (by decide +kernel) ax_cls2 calX2_settleMore (by omega) rfl wt_549 wt_551 ws_52 (Nat.le_of_ble_eq_true rfl) rfl (c_X2_settleMore d y3.1 y3.2) (fun y4 h_y4 => ?_)
  refine ax_rngS (fun hr => ?_)
  exact ax_iret (by decide +kernel) rfl ⟨rfl, rfl, hr.1, hr.2⟩
def f_X2_levels  (M : ax_M) : Int × ax_M := ax_bd (f_X2_begin M) (fun M1 => ax_bd (f_X0_level 1 M1) (fun y2 => ax_bd (f_X2_settle y2.1 y2.2) (fun y3 => (if y3.1 = 0 then (y2.1, y3.2) else ax_bd (f_X2_tell (y3.2 1 17) y3.2) (fun M5 => (y2.1, M5))))))
set_option maxRecDepth 100000 in
set_option maxHeartbeats 4000000 in
theorem c_X2_levels (d : Nat)  (M : ax_M)  : ax_Met ax_LC gX2_levels (d + 5) [(2, 2, 0)] M ((ax_qm (-2) 15) (f_X2_levels  M)) := by
  refine ax_body (by decide) (fun X => Nat.le_of_ble_eq_true rfl) (fun hok => ?_)
  show ax_W ax_LC gX2_levels (d + 5) 0 [(0, (2, 2, 0))] [] M _
  unfold f_X2_levels
  refine ax_lump ax_layC ok_kX2 [(0, .aload_n 0, 1, 0, 0, 0)] (pc' := 1) (lc' := [(0, (2, 2, 0))]) (st' := [(2, 2, 0)]) (M' := M) (C' := True) (by decide +kernel) rfl trivial ?_
  refine ax_cVv (G1 := gX2_begin) (d1 := d + 4) (i := 142) (n := 0) (as := []) (st := []) (c := 2) (a := 0) (by decide +kernel) ax_cls2 calX2_begin (by omega) rfl wt_351 wt_353 ws_10 (Nat.le_of_ble_eq_true rfl) rfl (c_X2_begin d  M) (fun M1 => ?_)
  refine ax_lump ax_layC ok_kX2 [(4, .aload_n 0, 1, 0, 0, 0), (5, .getfield 12, 3, 2, 0, 0)] (pc' := 8) (lc' := [(0, (2, 2, 0))]) (st' := [(2, 0, 1)]) (M' := M1) (C' := True) (by decide +kernel) rfl trivial ?_
  refine ax_cNm (G1 := gX0_level) (d1 := d + 2) (i := 186) (n := 0) (as := []) (st := []) (c := 0) (a := 1) (by decide +kernel) ax_cls0 calX0_level (by omega) rfl wn_570 wt_507 ws_44 (Nat.le_of_ble_eq_true rfl) rfl (c_X0_level d 1 M1) (fun y2 h_y2 => ?_)
  refine ax_lump ax_layC ok_kX2 [(11, .istore_n 1, 1, 0, 0, 0), (12, .aload_n 0, 1, 0, 0, 0), (13, .iload_n 1, 1, 0, 0, 0)] (pc' := 14) (lc' := [(1, (0, 0, y2.1)), (0, (2, 2, 0))]) (st' := [(0, 0, y2.1), (2, 2, 0)]) (M' := y2.2) (C' := True) (by decide +kernel) rfl trivial ?_
  refine ax_cVm (G1 := gX2_settle) (d1 := d + 1) (i := 149) (n := 1) (as := [(0, 0, y2.1)]) (st := []) (c := 2) (a := 0) (by decide +kernel) ax_cls2 calX2_settle (by omega) rfl wt_509 wt_511 ws_45 (Nat.le_of_ble_eq_true rfl) rfl (c_X2_settle d y2.1 y2.2) (fun y3 h_y3 => ?_)
  refine ax_zeq (off := 15) (tgt := 32) (by decide +kernel) (by decide) (fun h4 => ?_) (fun h4 => ?_)
  · refine ax_lump ax_layC ok_kX2 [(32, .iload_n 1, 1, 0, 0, 0)] (pc' := 33) (lc' := [(1, (0, 0, y2.1)), (0, (2, 2, 0))]) (st' := [(0, 0, y2.1)]) (M' := y3.2) (C' := True) (by decide +kernel) rfl trivial ?_
    exact ax_iret (by decide +kernel) rfl ⟨rfl, rfl, (show ((-2) : Int) ≤ y2.1 from by omega), (show y2.1 ≤ (15 : Int) from by omega)⟩
  · refine ax_lump ax_layC ok_kX2 [(20, .aload_n 0, 1, 0, 0, 0), (21, .aload_n 0, 1, 0, 0, 0), (22, .getfield 12, 3, 2, 0, 0), (25, .getfield 189, 3, 0, 17, 0), (28, .i2l, 1, 0, 0, 0)] (pc' := 29) (lc' := [(1, (0, 0, y2.1)), (0, (2, 2, 0))]) (st' := [(1, 0, (y3.2 1 17)), (2, 2, 0)]) (M' := y3.2) (C' := True) (by decide +kernel) rfl trivial ?_
    refine ax_cVv (G1 := gX2_tell) (d1 := d + 0) (i := 155) (n := 1) (as := [(1, 0, (y3.2 1 17))]) (st := []) (c := 2) (a := 0) (by decide +kernel) ax_cls2 calX2_tell (by omega) rfl wt_521 wt_523 ws_48 (Nat.le_of_ble_eq_true rfl) rfl (c_X2_tell d (y3.2 1 17) y3.2) (fun M5 => ?_)
    refine ax_lump ax_layC ok_kX2 [(32, .iload_n 1, 1, 0, 0, 0)] (pc' := 33) (lc' := [(1, (0, 0, y2.1)), (0, (2, 2, 0))]) (st' := [(0, 0, y2.1)]) (M' := M5) (C' := True) (by decide +kernel) rfl trivial ?_
    exact ax_iret (by decide +kernel) rfl ⟨rfl, rfl, (show ((-2) : Int) ≤ y2.1 from by omega), (show y2.1 ≤ (15 : Int) from by omega)⟩
def f_X2_cools  (M : ax_M) : Int × ax_M := ax_bd (f_X2_begin M) (fun M1 => ax_bd (f_X0_coolAll 1 M1) (fun y2 => ax_bd (f_X2_keepPast y2.2) (fun M3 => (y2.1, M3))))
set_option maxRecDepth 100000 in
set_option maxHeartbeats 4000000 in
theorem c_X2_cools (d : Nat)  (M : ax_M)  : ax_Met ax_LC gX2_cools (d + 5) [(2, 2, 0)] M ((ax_qm 0 24) (f_X2_cools  M)) := by
  refine ax_body (by decide) (fun X => Nat.le_of_ble_eq_true rfl) (fun hok => ?_)
  show ax_W ax_LC gX2_cools (d + 5) 0 [(0, (2, 2, 0))] [] M _
  unfold f_X2_cools
  refine ax_lump ax_layC ok_kX2 [(0, .aload_n 0, 1, 0, 0, 0)] (pc' := 1) (lc' := [(0, (2, 2, 0))]) (st' := [(2, 2, 0)]) (M' := M) (C' := True) (by decide +kernel) rfl trivial ?_
  refine ax_cVv (G1 := gX2_begin) (d1 := d + 4) (i := 142) (n := 0) (as := []) (st := []) (c := 2) (a := 0) (by decide +kernel) ax_cls2 calX2_begin (by omega) rfl wt_351 wt_353 ws_10 (Nat.le_of_ble_eq_true rfl) rfl (c_X2_begin d  M) (fun M1 => ?_)
  refine ax_lump ax_layC ok_kX2 [(4, .aload_n 0, 1, 0, 0, 0), (5, .getfield 12, 3, 2, 0, 0)] (pc' := 8) (lc' := [(0, (2, 2, 0))]) (st' := [(2, 0, 1)]) (M' := M1) (C' := True) (by decide +kernel) rfl trivial ?_
  refine ax_cNm (G1 := gX0_coolAll) (d1 := d + 1) (i := 192) (n := 0) (as := []) (st := []) (c := 0) (a := 1) (by decide +kernel) ax_cls0 calX0_coolAll (by omega) rfl wn_575 wt_577 ws_53 (Nat.le_of_ble_eq_true rfl) rfl (c_X0_coolAll d 1 M1) (fun y2 h_y2 => ?_)
  refine ax_lump ax_layC ok_kX2 [(11, .istore_n 1, 1, 0, 0, 0), (12, .aload_n 0, 1, 0, 0, 0)] (pc' := 13) (lc' := [(1, (0, 0, y2.1)), (0, (2, 2, 0))]) (st' := [(2, 2, 0)]) (M' := y2.2) (C' := True) (by decide +kernel) rfl trivial ?_
  refine ax_cVv (G1 := gX2_keepPast) (d1 := d + 0) (i := 195) (n := 0) (as := []) (st := []) (c := 2) (a := 0) (by decide +kernel) ax_cls2 calX2_keepPast (by omega) rfl wt_513 wt_515 ws_46 (Nat.le_of_ble_eq_true rfl) rfl (c_X2_keepPast d  y2.2) (fun M3 => ?_)
  refine ax_lump ax_layC ok_kX2 [(16, .iload_n 1, 1, 0, 0, 0)] (pc' := 17) (lc' := [(1, (0, 0, y2.1)), (0, (2, 2, 0))]) (st' := [(0, 0, y2.1)]) (M' := M3) (C' := True) (by decide +kernel) rfl trivial ?_
  exact ax_iret (by decide +kernel) rfl ⟨rfl, rfl, (show (0 : Int) ≤ y2.1 from by omega), (show y2.1 ≤ (24 : Int) from by omega)⟩
def f_X2_sets (x1 : Int) (x2 : Int) (M : ax_M) : Int × ax_M := (if x1 < 0 then ((-1), M) else (if 3 ≤ x1 then ((-1), M) else (if x2 < ((ax_cs.getD 0 ("", [])).2.getD x1.toNat 0) then ((-1), M) else (if x2 ≤ ((ax_cs.getD 1 ("", [])).2.getD x1.toNat 0) then ax_bd (M 9 x1.toNat) (fun y5 => (if x2 ≠ y5 then (if x1 = 2 then ax_bd (f_X2_begin M) (fun M8 => ax_bd (ax_up M8 9 x1.toNat x2) (fun M9 => ax_bd (f_X2_keepPast M9) (fun M10 => ((ax_wr (10 + y5)), M10)))) else (if (f_X0_howMany 1 (3 + x1) M) ≤ x2 then ax_bd (f_X2_begin M) (fun M13 => ax_bd (ax_up M13 9 x1.toNat x2) (fun M14 => ax_bd (f_X2_keepPast M14) (fun M15 => ((ax_wr (10 + y5)), M15)))) else ((-3), M))) else ((-2), M))) else ((-1), M)))))
set_option maxRecDepth 100000 in
set_option maxHeartbeats 4000000 in
theorem c_X2_sets (d : Nat) (x1 : Int) (x2 : Int) (M : ax_M)  : ax_Met ax_LC gX2_sets (d + 5) [(2, 2, 0), (0, 0, x1), (0, 0, x2)] M ((ax_qm (-2147483648) 2147483647) (f_X2_sets x1 x2 M)) := by
  refine ax_body (by decide) (fun X => Nat.le_of_ble_eq_true rfl) (fun hok => ?_)
  have hr_x1 : (-2147483648) ≤ x1 ∧ x1 ≤ 2147483647 := hok (0, 0, x1) (by simp)
  have hr_x2 : (-2147483648) ≤ x2 ∧ x2 ≤ 2147483647 := hok (0, 0, x2) (by simp)
  show ax_W ax_LC gX2_sets (d + 5) 0 [(0, (2, 2, 0)), (1, (0, 0, x1)), (2, (0, 0, x2))] [] M _
  unfold f_X2_sets
  refine ax_lump ax_layC ok_kX2 [(0, .iload_n 1, 1, 0, 0, 0)] (pc' := 1) (lc' := [(0, (2, 2, 0)), (1, (0, 0, x1)), (2, (0, 0, x2))]) (st' := [(0, 0, x1)]) (M' := M) (C' := True) (by decide +kernel) rfl trivial ?_
  refine ax_zlt (off := 26) (tgt := 27) (by decide +kernel) (by decide) (fun h1 => ?_) (fun h1 => ?_)
  · refine ax_lump ax_layC ok_kX2 [(27, .iconst (-1), 1, 0, 0, 0)] (pc' := 28) (lc' := [(0, (2, 2, 0)), (1, (0, 0, x1)), (2, (0, 0, x2))]) (st' := [(0, 0, (-1))]) (M' := M) (C' := True) (by decide +kernel) rfl trivial ?_
    refine ax_rngS (fun hr => ?_)
    exact ax_iret (by decide +kernel) rfl ⟨rfl, rfl, hr.1, hr.2⟩
  · refine ax_lump ax_layC ok_kX2 [(4, .iload_n 1, 1, 0, 0, 0), (5, .iconst 3, 1, 0, 0, 0)] (pc' := 6) (lc' := [(0, (2, 2, 0)), (1, (0, 0, x1)), (2, (0, 0, x2))]) (st' := [(0, 0, 3), (0, 0, x1)]) (M' := M) (C' := True) (by decide +kernel) rfl trivial ?_
    refine ax_jge (off := 21) (tgt := 27) (by decide +kernel) (by decide) (fun h2 => ?_) (fun h2 => ?_)
    · refine ax_lump ax_layC ok_kX2 [(27, .iconst (-1), 1, 0, 0, 0)] (pc' := 28) (lc' := [(0, (2, 2, 0)), (1, (0, 0, x1)), (2, (0, 0, x2))]) (st' := [(0, 0, (-1))]) (M' := M) (C' := True) (by decide +kernel) rfl trivial ?_
      refine ax_rngS (fun hr => ?_)
      exact ax_iret (by decide +kernel) rfl ⟨rfl, rfl, hr.1, hr.2⟩
    · refine ax_lump ax_layC ok_kX2 [(9, .iload_n 2, 1, 0, 0, 0), (10, .getstatic 198, 3, 0, 0, 0), (13, .iload_n 1, 1, 0, 0, 0), (14, .iaload, 1, 0, 0, 0)] (pc' := 15) (lc' := [(0, (2, 2, 0)), (1, (0, 0, x1)), (2, (0, 0, x2))]) (st' := [(0, 0, ((ax_cs.getD 0 ("", [])).2.getD x1.toNat 0)), (0, 0, x2)]) (M' := M) (C' := (True ∧ (0 ≤ x1 ∧ x1 < ((ax_cs.getD 0 ("", [])).2.length : Int)))) (by decide +kernel) rfl ⟨trivial, (by have e9 : (ax_cs.getD 0 ("", [])).2.length = 3 := rfl; rw [e9]; omega)⟩ ?_
      refine ax_jlt (off := 12) (tgt := 27) (by decide +kernel) (by decide) (fun h3 => ?_) (fun h3 => ?_)
      · refine ax_lump ax_layC ok_kX2 [(27, .iconst (-1), 1, 0, 0, 0)] (pc' := 28) (lc' := [(0, (2, 2, 0)), (1, (0, 0, x1)), (2, (0, 0, x2))]) (st' := [(0, 0, (-1))]) (M' := M) (C' := True) (by decide +kernel) rfl trivial ?_
        refine ax_rngS (fun hr => ?_)
        exact ax_iret (by decide +kernel) rfl ⟨rfl, rfl, hr.1, hr.2⟩
      · refine ax_lump ax_layC ok_kX2 [(18, .iload_n 2, 1, 0, 0, 0), (19, .getstatic 201, 3, 1, 0, 0), (22, .iload_n 1, 1, 0, 0, 0), (23, .iaload, 1, 0, 0, 0)] (pc' := 24) (lc' := [(0, (2, 2, 0)), (1, (0, 0, x1)), (2, (0, 0, x2))]) (st' := [(0, 0, ((ax_cs.getD 1 ("", [])).2.getD x1.toNat 0)), (0, 0, x2)]) (M' := M) (C' := (True ∧ (0 ≤ x1 ∧ x1 < ((ax_cs.getD 1 ("", [])).2.length : Int)))) (by decide +kernel) rfl ⟨trivial, (by have e9 : (ax_cs.getD 1 ("", [])).2.length = 3 := rfl; rw [e9]; omega)⟩ ?_
        refine ax_jle (off := 5) (tgt := 29) (by decide +kernel) (by decide) (fun h4 => ?_) (fun h4 => ?_)
        · refine ax_lump ax_layC ok_kX2 [(29, .aload_n 0, 1, 0, 0, 0), (30, .getfield 12, 3, 2, 0, 0), (33, .getfield 204, 3, 0, 7, 0), (36, .iload_n 1, 1, 0, 0, 0), (37, .iaload, 1, 0, 0, 0), (38, .istore_n 3, 1, 0, 0, 0)] (pc' := 39) (lc' := [(3, (0, 0, (M 9 x1.toNat))), (0, (2, 2, 0)), (1, (0, 0, x1)), (2, (0, 0, x2))]) (st' := []) (M' := M) (C' := (True ∧ (0 ≤ x1 ∧ x1 < ((3 : Nat) : Int)))) (by decide +kernel) rfl ⟨trivial, by omega⟩ ?_
          refine ax_bdI0 (e := (M 9 x1.toNat)) (fun y5 => [(3, (0, 0, y5)), (0, (2, 2, 0)), (1, (0, 0, x1)), (2, (0, 0, x2))]) (fun y5 => []) (fun y5 => ?_)
          refine ax_lump ax_layC ok_kX2 [(39, .iload_n 2, 1, 0, 0, 0), (40, .iload_n 3, 1, 0, 0, 0)] (pc' := 41) (lc' := [(3, (0, 0, y5)), (0, (2, 2, 0)), (1, (0, 0, x1)), (2, (0, 0, x2))]) (st' := [(0, 0, y5), (0, 0, x2)]) (M' := M) (C' := True) (by decide +kernel) rfl trivial ?_
          refine ax_jne (off := 6) (tgt := 47) (by decide +kernel) (by decide) (fun h6 => ?_) (fun h6 => ?_)
          · refine ax_lump ax_layC ok_kX2 [(47, .iload_n 1, 1, 0, 0, 0), (48, .iconst 2, 1, 0, 0, 0)] (pc' := 49) (lc' := [(3, (0, 0, y5)), (0, (2, 2, 0)), (1, (0, 0, x1)), (2, (0, 0, x2))]) (st' := [(0, 0, 2), (0, 0, x1)]) (M' := M) (C' := True) (by decide +kernel) rfl trivial ?_
            refine ax_jeq (off := 20) (tgt := 69) (by decide +kernel) (by decide) (fun h7 => ?_) (fun h7 => ?_)
            · refine ax_lump ax_layC ok_kX2 [(69, .aload_n 0, 1, 0, 0, 0)] (pc' := 70) (lc' := [(3, (0, 0, y5)), (0, (2, 2, 0)), (1, (0, 0, x1)), (2, (0, 0, x2))]) (st' := [(2, 2, 0)]) (M' := M) (C' := True) (by decide +kernel) rfl trivial ?_
              refine ax_cVv (G1 := gX2_begin) (d1 := d + 4) (i := 142) (n := 0) (as := []) (st := []) (c := 2) (a := 0) (by decide +kernel) ax_cls2 calX2_begin (by omega) rfl wt_351 wt_353 ws_10 (Nat.le_of_ble_eq_true rfl) rfl (c_X2_begin d  M) (fun M8 => ?_)
              refine ax_lump ax_layC ok_kX2 [(73, .aload_n 0, 1, 0, 0, 0), (74, .getfield 12, 3, 2, 0, 0), (77, .getfield 204, 3, 0, 7, 0), (80, .iload_n 1, 1, 0, 0, 0), (81, .iload_n 2, 1, 0, 0, 0), (82, .iastore, 1, 0, 0, 0)] (pc' := 83) (lc' := [(3, (0, 0, y5)), (0, (2, 2, 0)), (1, (0, 0, x1)), (2, (0, 0, x2))]) (st' := []) (M' := (ax_up M8 9 x1.toNat x2)) (C' := (True ∧ (0 ≤ x1 ∧ x1 < ((3 : Nat) : Int)))) (by decide +kernel) rfl ⟨trivial, by omega⟩ ?_
              refine ax_bdMe (fun M9 hM_M9 => ?_)
              refine ax_lump ax_layC ok_kX2 [(83, .aload_n 0, 1, 0, 0, 0)] (pc' := 84) (lc' := [(3, (0, 0, y5)), (0, (2, 2, 0)), (1, (0, 0, x1)), (2, (0, 0, x2))]) (st' := [(2, 2, 0)]) (M' := M9) (C' := True) (by decide +kernel) rfl trivial ?_
              refine ax_cVv (G1 := gX2_keepPast) (d1 := d + 0) (i := 195) (n := 0) (as := []) (st := []) (c := 2) (a := 0) (by decide +kernel) ax_cls2 calX2_keepPast (by omega) rfl wt_513 wt_515 ws_46 (Nat.le_of_ble_eq_true rfl) rfl (c_X2_keepPast d  M9) (fun M10 => ?_)
              refine ax_lump ax_layC ok_kX2 [(87, .bipush 10, 2, 0, 0, 0), (89, .iload_n 3, 1, 0, 0, 0), (90, .iadd, 1, 0, 0, 0)] (pc' := 91) (lc' := [(3, (0, 0, y5)), (0, (2, 2, 0)), (1, (0, 0, x1)), (2, (0, 0, x2))]) (st' := [(0, 0, (ax_wr (10 + y5)))]) (M' := M10) (C' := True) (by decide +kernel) rfl trivial ?_
              refine ax_rngS (fun hr => ?_)
              exact ax_iret (by decide +kernel) rfl ⟨rfl, rfl, hr.1, hr.2⟩
            · refine ax_lump ax_layC ok_kX2 [(52, .aload_n 0, 1, 0, 0, 0), (53, .getfield 12, 3, 2, 0, 0), (56, .iconst 3, 1, 0, 0, 0), (57, .iload_n 1, 1, 0, 0, 0), (58, .iadd, 1, 1, 0, 0)] (pc' := 59) (lc' := [(3, (0, 0, y5)), (0, (2, 2, 0)), (1, (0, 0, x1)), (2, (0, 0, x2))]) (st' := [(0, 0, (3 + x1)), (2, 0, 1)]) (M' := M) (C' := (True ∧ ax_r32 (3 + x1))) (by decide +kernel) rfl ⟨trivial, ⟨by omega, by omega⟩⟩ ?_
              refine ax_cNi (G1 := gX0_howMany) (d1 := d + 0) (i := 207) (n := 1) (as := [(0, 0, (3 + x1))]) (st := []) (c := 0) (a := 1) (by decide +kernel) ax_cls0 calX0_howMany (by omega) rfl wn_587 wt_457 ws_34 (Nat.le_of_ble_eq_true rfl) rfl (c_X0_howMany d 1 (3 + x1) M) (fun hc11 => ?_)
              refine ax_lump ax_layC ok_kX2 [(62, .iload_n 2, 1, 0, 0, 0)] (pc' := 63) (lc' := [(3, (0, 0, y5)), (0, (2, 2, 0)), (1, (0, 0, x1)), (2, (0, 0, x2))]) (st' := [(0, 0, x2), (0, 0, (f_X0_howMany 1 (3 + x1) M))]) (M' := M) (C' := True) (by decide +kernel) rfl trivial ?_
              refine ax_jle (off := 6) (tgt := 69) (by decide +kernel) (by decide) (fun h12 => ?_) (fun h12 => ?_)
              · refine ax_lump ax_layC ok_kX2 [(69, .aload_n 0, 1, 0, 0, 0)] (pc' := 70) (lc' := [(3, (0, 0, y5)), (0, (2, 2, 0)), (1, (0, 0, x1)), (2, (0, 0, x2))]) (st' := [(2, 2, 0)]) (M' := M) (C' := True) (by decide +kernel) rfl trivial ?_
                refine ax_cVv (G1 := gX2_begin) (d1 := d + 4) (i := 142) (n := 0) (as := []) (st := []) (c := 2) (a := 0) (by decide +kernel) ax_cls2 calX2_begin (by omega) rfl wt_351 wt_353 ws_10 (Nat.le_of_ble_eq_true rfl) rfl (c_X2_begin d  M) (fun M13 => ?_)
                refine ax_lump ax_layC ok_kX2 [(73, .aload_n 0, 1, 0, 0, 0), (74, .getfield 12, 3, 2, 0, 0), (77, .getfield 204, 3, 0, 7, 0), (80, .iload_n 1, 1, 0, 0, 0), (81, .iload_n 2, 1, 0, 0, 0), (82, .iastore, 1, 0, 0, 0)] (pc' := 83) (lc' := [(3, (0, 0, y5)), (0, (2, 2, 0)), (1, (0, 0, x1)), (2, (0, 0, x2))]) (st' := []) (M' := (ax_up M13 9 x1.toNat x2)) (C' := (True ∧ (0 ≤ x1 ∧ x1 < ((3 : Nat) : Int)))) (by decide +kernel) rfl ⟨trivial, by omega⟩ ?_
                refine ax_bdMe (fun M14 hM_M14 => ?_)
                refine ax_lump ax_layC ok_kX2 [(83, .aload_n 0, 1, 0, 0, 0)] (pc' := 84) (lc' := [(3, (0, 0, y5)), (0, (2, 2, 0)), (1, (0, 0, x1)), (2, (0, 0, x2))]) (st' := [(2, 2, 0)]) (M' := M14) (C' := True) (by decide +kernel) rfl trivial ?_
                refine ax_cVv (G1 := gX2_keepPast) (d1 := d + 0) (i := 195) (n := 0) (as := []) (st := []) (c := 2) (a := 0) (by decide +kernel) ax_cls2 calX2_keepPast (by omega) rfl wt_513 wt_515 ws_46 (Nat.le_of_ble_eq_true rfl) rfl (c_X2_keepPast d  M14) (fun M15 => ?_)
                refine ax_lump ax_layC ok_kX2 [(87, .bipush 10, 2, 0, 0, 0), (89, .iload_n 3, 1, 0, 0, 0), (90, .iadd, 1, 0, 0, 0)] (pc' := 91) (lc' := [(3, (0, 0, y5)), (0, (2, 2, 0)), (1, (0, 0, x1)), (2, (0, 0, x2))]) (st' := [(0, 0, (ax_wr (10 + y5)))]) (M' := M15) (C' := True) (by decide +kernel) rfl trivial ?_
                refine ax_rngS (fun hr => ?_)
                exact ax_iret (by decide +kernel) rfl ⟨rfl, rfl, hr.1, hr.2⟩
              · refine ax_lump ax_layC ok_kX2 [(66, .bipush (-3), 2, 0, 0, 0)] (pc' := 68) (lc' := [(3, (0, 0, y5)), (0, (2, 2, 0)), (1, (0, 0, x1)), (2, (0, 0, x2))]) (st' := [(0, 0, (-3))]) (M' := M) (C' := True) (by decide +kernel) rfl trivial ?_
                refine ax_rngS (fun hr => ?_)
                exact ax_iret (by decide +kernel) rfl ⟨rfl, rfl, hr.1, hr.2⟩
          · refine ax_lump ax_layC ok_kX2 [(44, .bipush (-2), 2, 0, 0, 0)] (pc' := 46) (lc' := [(3, (0, 0, y5)), (0, (2, 2, 0)), (1, (0, 0, x1)), (2, (0, 0, x2))]) (st' := [(0, 0, (-2))]) (M' := M) (C' := True) (by decide +kernel) rfl trivial ?_
            refine ax_rngS (fun hr => ?_)
            exact ax_iret (by decide +kernel) rfl ⟨rfl, rfl, hr.1, hr.2⟩
        · refine ax_lump ax_layC ok_kX2 [(27, .iconst (-1), 1, 0, 0, 0)] (pc' := 28) (lc' := [(0, (2, 2, 0)), (1, (0, 0, x1)), (2, (0, 0, x2))]) (st' := [(0, 0, (-1))]) (M' := M) (C' := True) (by decide +kernel) rfl trivial ?_
          refine ax_rngS (fun hr => ?_)
          exact ax_iret (by decide +kernel) rfl ⟨rfl, rfl, hr.1, hr.2⟩
def f_X2_holds (x1 : Int) (M : ax_M) : Int × ax_M := ax_bd (f_X2_kindOfRow x1 M) (fun y2 => (if y2 ≠ (-1) then ax_bd (f_X0_owned 1 y2 0 M) (fun y5 => (if y5 ≠ (-1) then ax_bd (f_X0_foldersIn 1 y5 (f_X0_latestIn 1 y5 M) M) (fun y9 => ax_bd (f_X2_begin M) (fun M10 => ax_bd (f_X2_beginTrial M10) (fun M11 => ax_bd (f_X0_clearFirst 13 y2 M11) (fun y12 => ax_bd (f_X2_tellAnew y12.2) (fun M13 => ax_bd (f_X2_tell (f_J_bitCount y9 M13) M13) (fun M15 => ax_bd (f_X2_tell (f_X0_since 13 2 M15) M15) (fun M17 => (y9, M17)))))))) else ((-2), M))) else ((-1), M)))
set_option maxRecDepth 100000 in
set_option maxHeartbeats 4000000 in
theorem c_X2_holds (d : Nat) (x1 : Int) (M : ax_M)  : ax_Met ax_LC gX2_holds (d + 5) [(2, 2, 0), (0, 0, x1)] M ((ax_qm (-2147483648) 2147483647) (f_X2_holds x1 M)) := by
  refine ax_body (by decide) (fun X => Nat.le_of_ble_eq_true rfl) (fun hok => ?_)
  have hr_x1 : (-2147483648) ≤ x1 ∧ x1 ≤ 2147483647 := hok (0, 0, x1) (by simp)
  show ax_W ax_LC gX2_holds (d + 5) 0 [(0, (2, 2, 0)), (1, (0, 0, x1))] [] M _
  unfold f_X2_holds
  refine ax_lump ax_layC ok_kX2 [(0, .iload_n 1, 1, 0, 0, 0)] (pc' := 1) (lc' := [(0, (2, 2, 0)), (1, (0, 0, x1))]) (st' := [(0, 0, x1)]) (M' := M) (C' := True) (by decide +kernel) rfl trivial ?_
  refine ax_cSi (G1 := gX2_kindOfRow) (d1 := d + 0) (i := 180) (n := 1) (as := [(0, 0, x1)]) (st := []) (by decide +kernel) calX2_kindOfRow (by omega) rfl wt_562 wt_563 (Nat.le_of_ble_eq_true rfl) rfl (c_X2_kindOfRow d x1 M) (fun hc1 => ?_)
  refine ax_lump ax_layC ok_kX2 [(4, .istore_n 2, 1, 0, 0, 0)] (pc' := 5) (lc' := [(2, (0, 0, (f_X2_kindOfRow x1 M))), (0, (2, 2, 0)), (1, (0, 0, x1))]) (st' := []) (M' := M) (C' := True) (by decide +kernel) rfl trivial ?_
  refine ax_bdI (lo := (-1)) (hi := 4) (e := (f_X2_kindOfRow x1 M)) (fun y2 => [(2, (0, 0, y2)), (0, (2, 2, 0)), (1, (0, 0, x1))]) (fun y2 => []) (by omega) (fun y2 h_y2 => ?_)
  refine ax_lump ax_layC ok_kX2 [(5, .iload_n 2, 1, 0, 0, 0), (6, .iconst (-1), 1, 0, 0, 0)] (pc' := 7) (lc' := [(2, (0, 0, y2)), (0, (2, 2, 0)), (1, (0, 0, x1))]) (st' := [(0, 0, (-1)), (0, 0, y2)]) (M' := M) (C' := True) (by decide +kernel) rfl trivial ?_
  refine ax_jne (off := 5) (tgt := 12) (by decide +kernel) (by decide) (fun h3 => ?_) (fun h3 => ?_)
  · refine ax_lump ax_layC ok_kX2 [(12, .aload_n 0, 1, 0, 0, 0), (13, .getfield 12, 3, 2, 0, 0), (16, .iload_n 2, 1, 0, 0, 0), (17, .iconst 0, 1, 0, 0, 0)] (pc' := 18) (lc' := [(2, (0, 0, y2)), (0, (2, 2, 0)), (1, (0, 0, x1))]) (st' := [(0, 0, 0), (0, 0, y2), (2, 0, 1)]) (M' := M) (C' := True) (by decide +kernel) rfl trivial ?_
    refine ax_cNi (G1 := gX0_owned) (d1 := d + 0) (i := 243) (n := 2) (as := [(0, 0, y2), (0, 0, 0)]) (st := []) (c := 0) (a := 1) (by decide +kernel) ax_cls0 calX0_owned (by omega) rfl wn_648 wt_384 ws_16 (Nat.le_of_ble_eq_true rfl) rfl (c_X0_owned d 1 y2 0 M) (fun hc4 => ?_)
    refine ax_lump ax_layC ok_kX2 [(21, .istore_n 3, 1, 0, 0, 0)] (pc' := 22) (lc' := [(3, (0, 0, (f_X0_owned 1 y2 0 M))), (2, (0, 0, y2)), (0, (2, 2, 0)), (1, (0, 0, x1))]) (st' := []) (M' := M) (C' := True) (by decide +kernel) rfl trivial ?_
    refine ax_bdI (lo := (-1)) (hi := 15) (e := (f_X0_owned 1 y2 0 M)) (fun y5 => [(3, (0, 0, y5)), (2, (0, 0, y2)), (0, (2, 2, 0)), (1, (0, 0, x1))]) (fun y5 => []) (by omega) (fun y5 h_y5 => ?_)
    refine ax_lump ax_layC ok_kX2 [(22, .iload_n 3, 1, 0, 0, 0), (23, .iconst (-1), 1, 0, 0, 0)] (pc' := 24) (lc' := [(3, (0, 0, y5)), (2, (0, 0, y2)), (0, (2, 2, 0)), (1, (0, 0, x1))]) (st' := [(0, 0, (-1)), (0, 0, y5)]) (M' := M) (C' := True) (by decide +kernel) rfl trivial ?_
    refine ax_jne (off := 6) (tgt := 30) (by decide +kernel) (by decide) (fun h6 => ?_) (fun h6 => ?_)
    · refine ax_lump ax_layC ok_kX2 [(30, .aload_n 0, 1, 0, 0, 0), (31, .getfield 12, 3, 2, 0, 0), (34, .iload_n 3, 1, 0, 0, 0), (35, .aload_n 0, 1, 0, 0, 0), (36, .getfield 12, 3, 2, 0, 0), (39, .iload_n 3, 1, 0, 0, 0)] (pc' := 40) (lc' := [(3, (0, 0, y5)), (2, (0, 0, y2)), (0, (2, 2, 0)), (1, (0, 0, x1))]) (st' := [(0, 0, y5), (2, 0, 1), (0, 0, y5), (2, 0, 1)]) (M' := M) (C' := True) (by decide +kernel) rfl trivial ?_
      refine ax_cNi (G1 := gX0_latestIn) (d1 := d + 3) (i := 94) (n := 1) (as := [(0, 0, y5)]) (st := [(0, 0, y5), (2, 0, 1)]) (c := 0) (a := 1) (by decide +kernel) ax_cls0 calX0_latestIn (by omega) rfl wn_629 wt_412 ws_23 (Nat.le_of_ble_eq_true rfl) rfl (c_X0_latestIn d 1 y5 M) (fun hc7 => ?_)
      refine ax_cNi (G1 := gX0_foldersIn) (d1 := d + 0) (i := 246) (n := 2) (as := [(0, 0, y5), (0, 0, (f_X0_latestIn 1 y5 M))]) (st := []) (c := 0) (a := 1) (by decide +kernel) ax_cls0 calX0_foldersIn (by omega) rfl wn_653 wt_465 ws_36 (Nat.le_of_ble_eq_true rfl) rfl (c_X0_foldersIn d 1 y5 (f_X0_latestIn 1 y5 M) M) (fun hc8 => ?_)
      refine ax_lump ax_layC ok_kX2 [(46, .istore 4, 2, 0, 0, 0)] (pc' := 48) (lc' := [(4, (0, 0, (f_X0_foldersIn 1 y5 (f_X0_latestIn 1 y5 M) M))), (3, (0, 0, y5)), (2, (0, 0, y2)), (0, (2, 2, 0)), (1, (0, 0, x1))]) (st' := []) (M' := M) (C' := True) (by decide +kernel) rfl trivial ?_
      refine ax_bdI0 (e := (f_X0_foldersIn 1 y5 (f_X0_latestIn 1 y5 M) M)) (fun y9 => [(4, (0, 0, y9)), (3, (0, 0, y5)), (2, (0, 0, y2)), (0, (2, 2, 0)), (1, (0, 0, x1))]) (fun y9 => []) (fun y9 => ?_)
      refine ax_lump ax_layC ok_kX2 [(48, .aload_n 0, 1, 0, 0, 0)] (pc' := 49) (lc' := [(4, (0, 0, y9)), (3, (0, 0, y5)), (2, (0, 0, y2)), (0, (2, 2, 0)), (1, (0, 0, x1))]) (st' := [(2, 2, 0)]) (M' := M) (C' := True) (by decide +kernel) rfl trivial ?_
      refine ax_cVv (G1 := gX2_begin) (d1 := d + 4) (i := 142) (n := 0) (as := []) (st := []) (c := 2) (a := 0) (by decide +kernel) ax_cls2 calX2_begin (by omega) rfl wt_351 wt_353 ws_10 (Nat.le_of_ble_eq_true rfl) rfl (c_X2_begin d  M) (fun M10 => ?_)
      refine ax_lump ax_layC ok_kX2 [(52, .aload_n 0, 1, 0, 0, 0)] (pc' := 53) (lc' := [(4, (0, 0, y9)), (3, (0, 0, y5)), (2, (0, 0, y2)), (0, (2, 2, 0)), (1, (0, 0, x1))]) (st' := [(2, 2, 0)]) (M' := M10) (C' := True) (by decide +kernel) rfl trivial ?_
      refine ax_cVv (G1 := gX2_beginTrial) (d1 := d + 4) (i := 249) (n := 0) (as := []) (st := []) (c := 2) (a := 0) (by decide +kernel) ax_cls2 calX2_beginTrial (by omega) rfl wt_654 wt_656 ws_59 (Nat.le_of_ble_eq_true rfl) rfl (c_X2_beginTrial d  M10) (fun M11 => ?_)
      refine ax_lump ax_layC ok_kX2 [(56, .aload_n 0, 1, 0, 0, 0), (57, .getfield 16, 3, 2, 1, 0), (60, .iload_n 2, 1, 0, 0, 0)] (pc' := 61) (lc' := [(4, (0, 0, y9)), (3, (0, 0, y5)), (2, (0, 0, y2)), (0, (2, 2, 0)), (1, (0, 0, x1))]) (st' := [(0, 0, y2), (2, 0, 13)]) (M' := M11) (C' := True) (by decide +kernel) rfl trivial ?_
      refine ax_cNm (G1 := gX0_clearFirst) (d1 := d + 4) (i := 183) (n := 1) (as := [(0, 0, y2)]) (st := []) (c := 0) (a := 13) (by decide +kernel) ax_cls0 calX0_clearFirst (by omega) rfl wn_565 wt_461 ws_35 (Nat.le_of_ble_eq_true rfl) rfl (c_X0_clearFirst d 13 y2 M11) (fun y12 h_y12 => ?_)
      refine ax_lump ax_layC ok_kX2 [(64, .pop, 1, 0, 0, 0), (65, .aload_n 0, 1, 0, 0, 0)] (pc' := 66) (lc' := [(4, (0, 0, y9)), (3, (0, 0, y5)), (2, (0, 0, y2)), (0, (2, 2, 0)), (1, (0, 0, x1))]) (st' := [(2, 2, 0)]) (M' := y12.2) (C' := True) (by decide +kernel) rfl trivial ?_
      refine ax_cVv (G1 := gX2_tellAnew) (d1 := d + 0) (i := 168) (n := 0) (as := []) (st := []) (c := 2) (a := 0) (by decide +kernel) ax_cls2 calX2_tellAnew (by omega) rfl wt_517 wt_519 ws_47 (Nat.le_of_ble_eq_true rfl) rfl (c_X2_tellAnew d  y12.2) (fun M13 => ?_)
      refine ax_lump ax_layC ok_kX2 [(69, .aload_n 0, 1, 0, 0, 0), (70, .iload 4, 2, 0, 0, 0)] (pc' := 72) (lc' := [(4, (0, 0, y9)), (3, (0, 0, y5)), (2, (0, 0, y2)), (0, (2, 2, 0)), (1, (0, 0, x1))]) (st' := [(0, 0, y9), (2, 2, 0)]) (M' := M13) (C' := True) (by decide +kernel) rfl trivial ?_
      refine ax_cSi (G1 := gJ_bitCount) (d1 := d + 0) (i := 229) (n := 1) (as := [(0, 0, y9)]) (st := [(2, 2, 0)]) (by decide +kernel) calJ_bitCount (by omega) rfl wt_628 wt_468 (Nat.le_of_ble_eq_true rfl) rfl (c_J_bitCount ax_LC ax_layC d y9 M13) (fun hc14 => ?_)
      refine ax_lump ax_layC ok_kX2 [(75, .i2l, 1, 0, 0, 0)] (pc' := 76) (lc' := [(4, (0, 0, y9)), (3, (0, 0, y5)), (2, (0, 0, y2)), (0, (2, 2, 0)), (1, (0, 0, x1))]) (st' := [(1, 0, (f_J_bitCount y9 M13)), (2, 2, 0)]) (M' := M13) (C' := True) (by decide +kernel) rfl trivial ?_
      refine ax_cVv (G1 := gX2_tell) (d1 := d + 0) (i := 155) (n := 1) (as := [(1, 0, (f_J_bitCount y9 M13))]) (st := []) (c := 2) (a := 0) (by decide +kernel) ax_cls2 calX2_tell (by omega) rfl wt_521 wt_523 ws_48 (Nat.le_of_ble_eq_true rfl) rfl (c_X2_tell d (f_J_bitCount y9 M13) M13) (fun M15 => ?_)
      refine ax_lump ax_layC ok_kX2 [(79, .aload_n 0, 1, 0, 0, 0), (80, .aload_n 0, 1, 0, 0, 0), (81, .getfield 16, 3, 2, 1, 0), (84, .iconst 2, 1, 0, 0, 0)] (pc' := 85) (lc' := [(4, (0, 0, y9)), (3, (0, 0, y5)), (2, (0, 0, y2)), (0, (2, 2, 0)), (1, (0, 0, x1))]) (st' := [(0, 0, 2), (2, 0, 13), (2, 2, 0)]) (M' := M15) (C' := True) (by decide +kernel) rfl trivial ?_
      refine ax_cNi (G1 := gX0_since) (d1 := d + 0) (i := 252) (n := 1) (as := [(0, 0, 2)]) (st := [(2, 2, 0)]) (c := 0) (a := 13) (by decide +kernel) ax_cls0 calX0_since (by omega) rfl wn_529 wt_531 ws_50 (Nat.le_of_ble_eq_true rfl) rfl (c_X0_since d 13 2 M15) (fun hc16 => ?_)
      refine ax_lump ax_layC ok_kX2 [(88, .i2l, 1, 0, 0, 0)] (pc' := 89) (lc' := [(4, (0, 0, y9)), (3, (0, 0, y5)), (2, (0, 0, y2)), (0, (2, 2, 0)), (1, (0, 0, x1))]) (st' := [(1, 0, (f_X0_since 13 2 M15)), (2, 2, 0)]) (M' := M15) (C' := True) (by decide +kernel) rfl trivial ?_
      refine ax_cVv (G1 := gX2_tell) (d1 := d + 0) (i := 155) (n := 1) (as := [(1, 0, (f_X0_since 13 2 M15))]) (st := []) (c := 2) (a := 0) (by decide +kernel) ax_cls2 calX2_tell (by omega) rfl wt_521 wt_523 ws_48 (Nat.le_of_ble_eq_true rfl) rfl (c_X2_tell d (f_X0_since 13 2 M15) M15) (fun M17 => ?_)
      refine ax_lump ax_layC ok_kX2 [(92, .iload 4, 2, 0, 0, 0)] (pc' := 94) (lc' := [(4, (0, 0, y9)), (3, (0, 0, y5)), (2, (0, 0, y2)), (0, (2, 2, 0)), (1, (0, 0, x1))]) (st' := [(0, 0, y9)]) (M' := M17) (C' := True) (by decide +kernel) rfl trivial ?_
      refine ax_rngS (fun hr => ?_)
      exact ax_iret (by decide +kernel) rfl ⟨rfl, rfl, hr.1, hr.2⟩
    · refine ax_lump ax_layC ok_kX2 [(27, .bipush (-2), 2, 0, 0, 0)] (pc' := 29) (lc' := [(3, (0, 0, y5)), (2, (0, 0, y2)), (0, (2, 2, 0)), (1, (0, 0, x1))]) (st' := [(0, 0, (-2))]) (M' := M) (C' := True) (by decide +kernel) rfl trivial ?_
      refine ax_rngS (fun hr => ?_)
      exact ax_iret (by decide +kernel) rfl ⟨rfl, rfl, hr.1, hr.2⟩
  · refine ax_lump ax_layC ok_kX2 [(10, .iconst (-1), 1, 0, 0, 0)] (pc' := 11) (lc' := [(2, (0, 0, y2)), (0, (2, 2, 0)), (1, (0, 0, x1))]) (st' := [(0, 0, (-1))]) (M' := M) (C' := True) (by decide +kernel) rfl trivial ?_
    refine ax_rngS (fun hr => ?_)
    exact ax_iret (by decide +kernel) rfl ⟨rfl, rfl, hr.1, hr.2⟩
def f_X2_fits  (M : ax_M) : Int × ax_M := ax_bd (f_X2_fitting M) (fun y2 => ax_bd (f_X2_tellAnew M) (fun M3 => ax_bd (f_X2_tell (f_J_bitCount y2 M3) M3) (fun M5 => (y2, M5))))
set_option maxRecDepth 100000 in
set_option maxHeartbeats 4000000 in
theorem c_X2_fits (d : Nat)  (M : ax_M)  : ax_Met ax_LC gX2_fits (d + 4) [(2, 2, 0)] M ((ax_qm (-2147483648) 2147483647) (f_X2_fits  M)) := by
  refine ax_body (by decide) (fun X => Nat.le_of_ble_eq_true rfl) (fun hok => ?_)
  show ax_W ax_LC gX2_fits (d + 4) 0 [(0, (2, 2, 0))] [] M _
  unfold f_X2_fits
  refine ax_lump ax_layC ok_kX2 [(0, .aload_n 0, 1, 0, 0, 0)] (pc' := 1) (lc' := [(0, (2, 2, 0))]) (st' := [(2, 2, 0)]) (M' := M) (C' := True) (by decide +kernel) rfl trivial ?_
  refine ax_cVi (G1 := gX2_fitting) (d1 := d + 3) (i := 292) (n := 0) (as := []) (st := []) (c := 2) (a := 0) (by decide +kernel) ax_cls2 calX2_fitting (by omega) rfl wt_715 wt_717 ws_62 (Nat.le_of_ble_eq_true rfl) rfl (c_X2_fitting d  M) (fun hc1 => ?_)
  refine ax_lump ax_layC ok_kX2 [(4, .istore_n 1, 1, 0, 0, 0)] (pc' := 5) (lc' := [(1, (0, 0, (f_X2_fitting M))), (0, (2, 2, 0))]) (st' := []) (M' := M) (C' := True) (by decide +kernel) rfl trivial ?_
  refine ax_bdI0 (e := (f_X2_fitting M)) (fun y2 => [(1, (0, 0, y2)), (0, (2, 2, 0))]) (fun y2 => []) (fun y2 => ?_)
  refine ax_lump ax_layC ok_kX2 [(5, .aload_n 0, 1, 0, 0, 0)] (pc' := 6) (lc' := [(1, (0, 0, y2)), (0, (2, 2, 0))]) (st' := [(2, 2, 0)]) (M' := M) (C' := True) (by decide +kernel) rfl trivial ?_
  refine ax_cVv (G1 := gX2_tellAnew) (d1 := d + 0) (i := 168) (n := 0) (as := []) (st := []) (c := 2) (a := 0) (by decide +kernel) ax_cls2 calX2_tellAnew (by omega) rfl wt_517 wt_519 ws_47 (Nat.le_of_ble_eq_true rfl) rfl (c_X2_tellAnew d  M) (fun M3 => ?_)
  refine ax_lump ax_layC ok_kX2 [(9, .aload_n 0, 1, 0, 0, 0), (10, .iload_n 1, 1, 0, 0, 0)] (pc' := 11) (lc' := [(1, (0, 0, y2)), (0, (2, 2, 0))]) (st' := [(0, 0, y2), (2, 2, 0)]) (M' := M3) (C' := True) (by decide +kernel) rfl trivial ?_
  refine ax_cSi (G1 := gJ_bitCount) (d1 := d + 0) (i := 229) (n := 1) (as := [(0, 0, y2)]) (st := [(2, 2, 0)]) (by decide +kernel) calJ_bitCount (by omega) rfl wt_628 wt_468 (Nat.le_of_ble_eq_true rfl) rfl (c_J_bitCount ax_LC ax_layC d y2 M3) (fun hc4 => ?_)
  refine ax_lump ax_layC ok_kX2 [(14, .i2l, 1, 0, 0, 0)] (pc' := 15) (lc' := [(1, (0, 0, y2)), (0, (2, 2, 0))]) (st' := [(1, 0, (f_J_bitCount y2 M3)), (2, 2, 0)]) (M' := M3) (C' := True) (by decide +kernel) rfl trivial ?_
  refine ax_cVv (G1 := gX2_tell) (d1 := d + 0) (i := 155) (n := 1) (as := [(1, 0, (f_J_bitCount y2 M3))]) (st := []) (c := 2) (a := 0) (by decide +kernel) ax_cls2 calX2_tell (by omega) rfl wt_521 wt_523 ws_48 (Nat.le_of_ble_eq_true rfl) rfl (c_X2_tell d (f_J_bitCount y2 M3) M3) (fun M5 => ?_)
  refine ax_lump ax_layC ok_kX2 [(18, .iload_n 1, 1, 0, 0, 0)] (pc' := 19) (lc' := [(1, (0, 0, y2)), (0, (2, 2, 0))]) (st' := [(0, 0, y2)]) (M' := M5) (C' := True) (by decide +kernel) rfl trivial ?_
  refine ax_rngS (fun hr => ?_)
  exact ax_iret (by decide +kernel) rfl ⟨rfl, rfl, hr.1, hr.2⟩
theorem ax_csb2 : ∀ i : Nat, 0 ≤ (ax_cs.getD 2 ("", [])).2.getD i 0 ∧ (ax_cs.getD 2 ("", [])).2.getD i 0 ≤ 9
  | 0 => by decide
  | 1 => by decide
  | 2 => by decide
  | 3 => by decide
  | n + 4 => by show (0 : Int) ≤ 0 ∧ (0 : Int) ≤ 9; omega
def f_X2_asks_B35 (w1 : Int) (w2 : Int) (w5 : Int) (M : ax_M) (v3 : Int) (v4 : Int) (v6 : Int) (kc : Int → Int → Int → Prop × Int × ax_M) (kx : Int → Int → Prop × Int × ax_M) : Prop × Int × ax_M := (if ((ax_cs.getD 2 ("", [])).2.getD w5.toNat 0) < v6 then kx v3 v4 else ax_bd (f_J_bitCount (ax_and w1 (f_X0_blocksOf 1 w5 v6 M)) M) (fun y10 => ax_bd (if y10 < (ax_wr (w2 - y10)) then (ax_wr (w2 - y10)) else y10) (fun y11 => (if v4 ≤ y11 then kc v3 v4 (v6 + 1) else ax_bd ((10 * w5) + v6) (fun y15 => kc y15 y11 (v6 + 1))))))
def f_X2_asks_L35 (w1 : Int) (w2 : Int) (w5 : Int) (M : ax_M) : Nat → Int → Int → Int → (Int → Int → Prop × Int × ax_M) → Prop × Int × ax_M
  | 0, _, _, _, _ => (False, (0, fun _ _ => 0))
  | n + 1, v3, v4, v6, kx => f_X2_asks_B35 w1 w2 w5 M v3 v4 v6 (fun u3 u4 u6 => f_X2_asks_L35 w1 w2 w5 M n  u3 u4 u6 kx) kx
set_option maxRecDepth 100000 in
set_option maxHeartbeats 4000000 in
theorem wb_X2_asks_B35 (d : Nat) (w1 : Int) (w2 : Int) (w5 : Int) (M : ax_M) (v3 : Int) (v4 : Int) (v6 : Int) (kc : Int → Int → Int → Prop × Int × ax_M) (kx : Int → Int → Prop × Int × ax_M) (hw_w5 : 0 ≤ w5 ∧ w5 ≤ 3)   (hkc : ∀ (u3 : Int) (u4 : Int) (u6 : Int), (kc u3 u4 u6).1 → ax_W ax_LC gX2_asks (d + 4) 35 [(0, (2, 2, 0)), (1, (0, 0, w1)), (2, (0, 0, w2)), (3, (0, 0, u3)), (4, (0, 0, u4)), (5, (0, 0, w5)), (6, (0, 0, u6))] [] M ((ax_qm (-2147483648) 2147483647) (kc u3 u4 u6).2)) (hkx : ∀ (x3 : Int) (x4 : Int), (True) → (kx x3 x4).1 → ax_W ax_LC gX2_asks (d + 4) 101 [(0, (2, 2, 0)), (1, (0, 0, w1)), (2, (0, 0, w2)), (3, (0, 0, x3)), (4, (0, 0, x4)), (5, (0, 0, w5))] [] M ((ax_qm (-2147483648) 2147483647) (kx x3 x4).2)) (hX : (f_X2_asks_B35 w1 w2 w5 M v3 v4 v6 kc kx).1) : ax_W ax_LC gX2_asks (d + 4) 35 [(0, (2, 2, 0)), (1, (0, 0, w1)), (2, (0, 0, w2)), (3, (0, 0, v3)), (4, (0, 0, v4)), (5, (0, 0, w5)), (6, (0, 0, v6))] [] M ((ax_qm (-2147483648) 2147483647) (f_X2_asks_B35 w1 w2 w5 M v3 v4 v6 kc kx).2) := by
  unfold f_X2_asks_B35 at hX ⊢
  have hcs6 := ax_csb2 (w5.toNat)
  refine ax_lump ax_layC ok_kX2 [(35, .iload 6, 2, 0, 0, 0), (37, .getstatic 289, 3, 2, 0, 0), (40, .iload 5, 2, 0, 0, 0), (42, .iaload, 1, 0, 0, 0)] (pc' := 43) (lc' := [(0, (2, 2, 0)), (1, (0, 0, w1)), (2, (0, 0, w2)), (3, (0, 0, v3)), (4, (0, 0, v4)), (5, (0, 0, w5)), (6, (0, 0, v6))]) (st' := [(0, 0, ((ax_cs.getD 2 ("", [])).2.getD w5.toNat 0)), (0, 0, v6)]) (M' := M) (C' := (True ∧ (0 ≤ w5 ∧ w5 < ((ax_cs.getD 2 ("", [])).2.length : Int)))) (by decide +kernel) rfl ⟨trivial, (by have e9 : (ax_cs.getD 2 ("", [])).2.length = 4 := rfl; rw [e9]; omega)⟩ ?_
  refine ax_jgt_s hX (off := 58) (tgt := 101) (by decide +kernel) (by decide) (fun h7 hX => ?_) (fun h7 hX => ?_)
  · refine ax_pk [0,1,2,3,4,5] (lc' := [(0, (2, 2, 0)), (1, (0, 0, w1)), (2, (0, 0, w2)), (3, (0, 0, v3)), (4, (0, 0, v4)), (5, (0, 0, w5))]) rfl ?_
    exact hkx v3 v4 trivial hX
  · refine ax_lump ax_layC ok_kX2 [(46, .iload_n 1, 1, 0, 0, 0), (47, .aload_n 0, 1, 0, 0, 0), (48, .getfield 12, 3, 2, 0, 0), (51, .iload 5, 2, 0, 0, 0), (53, .iload 6, 2, 0, 0, 0)] (pc' := 55) (lc' := [(0, (2, 2, 0)), (1, (0, 0, w1)), (2, (0, 0, w2)), (3, (0, 0, v3)), (4, (0, 0, v4)), (5, (0, 0, w5)), (6, (0, 0, v6))]) (st' := [(0, 0, v6), (0, 0, w5), (2, 0, 1), (0, 0, w1)]) (M' := M) (C' := True) (by decide +kernel) rfl trivial ?_
    refine ax_cNi (G1 := gX0_blocksOf) (d1 := d + 2) (i := 295) (n := 2) (as := [(0, 0, w5), (0, 0, v6)]) (st := [(0, 0, w1)]) (c := 0) (a := 1) (by decide +kernel) ax_cls0 calX0_blocksOf (by omega) rfl wn_720 wt_722 ws_63 (Nat.le_of_ble_eq_true rfl) rfl (c_X0_blocksOf d 1 w5 v6 M) (fun hc8 => ?_)
    refine ax_lump ax_layC ok_kX2 [(58, .iand, 1, 0, 0, 0)] (pc' := 59) (lc' := [(0, (2, 2, 0)), (1, (0, 0, w1)), (2, (0, 0, w2)), (3, (0, 0, v3)), (4, (0, 0, v4)), (5, (0, 0, w5)), (6, (0, 0, v6))]) (st' := [(0, 0, (ax_and w1 (f_X0_blocksOf 1 w5 v6 M)))]) (M' := M) (C' := True) (by decide +kernel) rfl trivial ?_
    refine ax_cSi (G1 := gJ_bitCount) (d1 := d + 0) (i := 229) (n := 1) (as := [(0, 0, (ax_and w1 (f_X0_blocksOf 1 w5 v6 M)))]) (st := []) (by decide +kernel) calJ_bitCount (by omega) rfl wt_628 wt_468 (Nat.le_of_ble_eq_true rfl) rfl (c_J_bitCount ax_LC ax_layC d (ax_and w1 (f_X0_blocksOf 1 w5 v6 M)) M) (fun hc9 => ?_)
    refine ax_lump ax_layC ok_kX2 [(62, .istore 7, 2, 0, 0, 0)] (pc' := 64) (lc' := [(7, (0, 0, (f_J_bitCount (ax_and w1 (f_X0_blocksOf 1 w5 v6 M)) M))), (0, (2, 2, 0)), (1, (0, 0, w1)), (2, (0, 0, w2)), (3, (0, 0, v3)), (4, (0, 0, v4)), (5, (0, 0, w5)), (6, (0, 0, v6))]) (st' := []) (M' := M) (C' := True) (by decide +kernel) rfl trivial ?_
    refine ax_bdI0_s hX (e := (f_J_bitCount (ax_and w1 (f_X0_blocksOf 1 w5 v6 M)) M)) (fun y10 => [(7, (0, 0, y10)), (0, (2, 2, 0)), (1, (0, 0, w1)), (2, (0, 0, w2)), (3, (0, 0, v3)), (4, (0, 0, v4)), (5, (0, 0, w5)), (6, (0, 0, v6))]) (fun y10 => []) (fun y10 hX => ?_)
    refine ax_lump ax_layC ok_kX2 [(64, .iload 7, 2, 0, 0, 0), (66, .iload_n 2, 1, 0, 0, 0), (67, .iload 7, 2, 0, 0, 0), (69, .isub, 1, 0, 0, 0)] (pc' := 70) (lc' := [(7, (0, 0, y10)), (0, (2, 2, 0)), (1, (0, 0, w1)), (2, (0, 0, w2)), (3, (0, 0, v3)), (4, (0, 0, v4)), (5, (0, 0, w5)), (6, (0, 0, v6))]) (st' := [(0, 0, (ax_wr (w2 - y10))), (0, 0, y10)]) (M' := M) (C' := True) (by decide +kernel) rfl trivial ?_
    refine ax_mmax (i := 139) (by decide +kernel) (by omega) (Nat.le_of_ble_eq_true rfl) wt_342 wt_263 wt_8 wt_264 ?_
    refine ax_lump ax_layC ok_kX2 [(73, .istore 8, 2, 0, 0, 0)] (pc' := 75) (lc' := [(8, (0, 0, (if y10 < (ax_wr (w2 - y10)) then (ax_wr (w2 - y10)) else y10))), (7, (0, 0, y10)), (0, (2, 2, 0)), (1, (0, 0, w1)), (2, (0, 0, w2)), (3, (0, 0, v3)), (4, (0, 0, v4)), (5, (0, 0, w5)), (6, (0, 0, v6))]) (st' := []) (M' := M) (C' := True) (by decide +kernel) rfl trivial ?_
    refine ax_bdI0_s hX (e := (if y10 < (ax_wr (w2 - y10)) then (ax_wr (w2 - y10)) else y10)) (fun y11 => [(8, (0, 0, y11)), (7, (0, 0, y10)), (0, (2, 2, 0)), (1, (0, 0, w1)), (2, (0, 0, w2)), (3, (0, 0, v3)), (4, (0, 0, v4)), (5, (0, 0, w5)), (6, (0, 0, v6))]) (fun y11 => []) (fun y11 hX => ?_)
    refine ax_lump ax_layC ok_kX2 [(75, .iload 8, 2, 0, 0, 0), (77, .iload 4, 2, 0, 0, 0)] (pc' := 79) (lc' := [(8, (0, 0, y11)), (7, (0, 0, y10)), (0, (2, 2, 0)), (1, (0, 0, w1)), (2, (0, 0, w2)), (3, (0, 0, v3)), (4, (0, 0, v4)), (5, (0, 0, w5)), (6, (0, 0, v6))]) (st' := [(0, 0, v4), (0, 0, y11)]) (M' := M) (C' := True) (by decide +kernel) rfl trivial ?_
    refine ax_jge_s hX (off := 16) (tgt := 95) (by decide +kernel) (by decide) (fun h12 hX => ?_) (fun h12 hX => ?_)
    · refine ax_rngL (i := 6) (u := 0) (n := v6) (by simp) (fun hq13 => ?_)
      have hq13 : (-2147483648) ≤ v6 ∧ v6 ≤ 2147483647 := hq13
      refine ax_lump ax_layC ok_kX2 [(95, .iinc 6 1, 3, 1, 0, 0), (98, .goto (-63), 3, 35, 0, 0)] (pc' := 35) (lc' := [(6, (0, 0, (v6 + 1))), (8, (0, 0, y11)), (7, (0, 0, y10)), (0, (2, 2, 0)), (1, (0, 0, w1)), (2, (0, 0, w2)), (3, (0, 0, v3)), (4, (0, 0, v4)), (5, (0, 0, w5))]) (st' := []) (M' := M) (C' := (True ∧ ax_r32 (v6 + 1))) (by decide +kernel) rfl ⟨trivial, ⟨by omega, by omega⟩⟩ ?_
      refine ax_pk [3,4,5,6,7,8,0] (lc' := [(0, (2, 2, 0)), (1, (0, 0, w1)), (2, (0, 0, w2)), (3, (0, 0, v3)), (4, (0, 0, v4)), (5, (0, 0, w5)), (6, (0, 0, (v6 + 1)))]) rfl ?_
      exact hkc v3 v4 (v6 + 1)  hX
    · refine ax_rngL (i := 6) (u := 0) (n := v6) (by simp) (fun hq14 => ?_)
      have hq14 : (-2147483648) ≤ v6 ∧ v6 ≤ 2147483647 := hq14
      refine ax_lump ax_layC ok_kX2 [(82, .bipush 10, 2, 0, 0, 0), (84, .iload 5, 2, 0, 0, 0), (86, .imul, 1, 1, 0, 0), (87, .iload 6, 2, 0, 0, 0), (89, .iadd, 1, 1, 0, 0), (90, .istore_n 3, 1, 0, 0, 0)] (pc' := 91) (lc' := [(3, (0, 0, ((10 * w5) + v6))), (8, (0, 0, y11)), (7, (0, 0, y10)), (0, (2, 2, 0)), (1, (0, 0, w1)), (2, (0, 0, w2)), (4, (0, 0, v4)), (5, (0, 0, w5)), (6, (0, 0, v6))]) (st' := []) (M' := M) (C' := ((True ∧ ax_r32 (10 * w5)) ∧ ax_r32 ((10 * w5) + v6))) (by decide +kernel) rfl ⟨⟨trivial, ⟨by omega, by omega⟩⟩, ⟨by omega, by omega⟩⟩ ?_
      refine ax_bdI0_s hX (e := ((10 * w5) + v6)) (fun y15 => [(3, (0, 0, y15)), (8, (0, 0, y11)), (7, (0, 0, y10)), (0, (2, 2, 0)), (1, (0, 0, w1)), (2, (0, 0, w2)), (4, (0, 0, v4)), (5, (0, 0, w5)), (6, (0, 0, v6))]) (fun y15 => []) (fun y15 hX => ?_)
      refine ax_lump ax_layC ok_kX2 [(91, .iload 8, 2, 0, 0, 0), (93, .istore 4, 2, 0, 0, 0), (95, .iinc 6 1, 3, 1, 0, 0), (98, .goto (-63), 3, 35, 0, 0)] (pc' := 35) (lc' := [(6, (0, 0, (v6 + 1))), (4, (0, 0, y11)), (3, (0, 0, y15)), (8, (0, 0, y11)), (7, (0, 0, y10)), (0, (2, 2, 0)), (1, (0, 0, w1)), (2, (0, 0, w2)), (5, (0, 0, w5))]) (st' := []) (M' := M) (C' := (True ∧ ax_r32 (v6 + 1))) (by decide +kernel) rfl ⟨trivial, ⟨by omega, by omega⟩⟩ ?_
      refine ax_pk [5,6,7,2,1,8,0] (lc' := [(0, (2, 2, 0)), (1, (0, 0, w1)), (2, (0, 0, w2)), (3, (0, 0, y15)), (4, (0, 0, y11)), (5, (0, 0, w5)), (6, (0, 0, (v6 + 1)))]) rfl ?_
      exact hkc y15 y11 (v6 + 1)  hX
set_option maxRecDepth 100000 in
set_option maxHeartbeats 4000000 in
theorem w_X2_asks_L35 (d : Nat) (w1 : Int) (w2 : Int) (w5 : Int) (M : ax_M) (kx : Int → Int → Prop × Int × ax_M) (hw_w5 : 0 ≤ w5 ∧ w5 ≤ 3) (hkx : ∀ (x3 : Int) (x4 : Int), (True) → (kx x3 x4).1 → ax_W ax_LC gX2_asks (d + 4) 101 [(0, (2, 2, 0)), (1, (0, 0, w1)), (2, (0, 0, w2)), (3, (0, 0, x3)), (4, (0, 0, x4)), (5, (0, 0, w5))] [] M ((ax_qm (-2147483648) 2147483647) (kx x3 x4).2)) : ∀ (n : Nat) (v3 : Int) (v4 : Int) (v6 : Int), (f_X2_asks_L35 w1 w2 w5 M n v3 v4 v6 kx).1 → ax_W ax_LC gX2_asks (d + 4) 35 [(0, (2, 2, 0)), (1, (0, 0, w1)), (2, (0, 0, w2)), (3, (0, 0, v3)), (4, (0, 0, v4)), (5, (0, 0, w5)), (6, (0, 0, v6))] [] M ((ax_qm (-2147483648) 2147483647) (f_X2_asks_L35 w1 w2 w5 M n v3 v4 v6 kx).2) := by
  intro n
  induction n with
  | zero =>
    intro v3 v4 v6 hX
    exact False.elim hX
  | succ n ih =>
    intro v3 v4 v6 hX
    exact wb_X2_asks_B35 d w1 w2 w5 M v3 v4 v6 _ kx hw_w5   (fun u3 u4 u6 hX => ih u3 u4 u6   hX) hkx hX
def f_X2_asks_B26 (w1 : Int) (w2 : Int) (M : ax_M) (i : Nat) (v3 : Int) (v4 : Int) (kc : Int → Int → Prop × Int × ax_M) (kx : Int → Int → Prop × Int × ax_M) : Prop × Int × ax_M := f_X2_asks_L35 w1 w2 (i : Int) M 100  v3 v4 0 (fun z16 z17 => kc z16 z17)
def f_X2_asks_L26 (w1 : Int) (w2 : Int) (M : ax_M) : Nat → Nat → Int → Int → (Int → Int → Prop × Int × ax_M) → Prop × Int × ax_M
  | 0, i, v3, v4, kx => kx v3 v4
  | n + 1, i, v3, v4, kx => f_X2_asks_B26 w1 w2 M i v3 v4 (fun u3 u4 => f_X2_asks_L26 w1 w2 M n (i + 1) u3 u4 kx) kx
set_option maxRecDepth 100000 in
set_option maxHeartbeats 4000000 in
theorem wb_X2_asks_B26 (d : Nat) (w1 : Int) (w2 : Int) (M : ax_M) (i : Nat) (v3 : Int) (v4 : Int) (kc : Int → Int → Prop × Int × ax_M) (kx : Int → Int → Prop × Int × ax_M)  (hi : 0 ≤ i ∧ i < 4)  (hkc : ∀ (u3 : Int) (u4 : Int), (kc u3 u4).1 → ax_W ax_LC gX2_asks (d + 4) 26 [(0, (2, 2, 0)), (1, (0, 0, w1)), (2, (0, 0, w2)), (3, (0, 0, u3)), (4, (0, 0, u4)), (5, (0, 0, ((i : Int) + 1)))] [] M ((ax_qm (-2147483648) 2147483647) (kc u3 u4).2)) (hkx : ∀ (x3 : Int) (x4 : Int), (True) → (kx x3 x4).1 → ax_W ax_LC gX2_asks (d + 4) 107 [(0, (2, 2, 0)), (3, (0, 0, x3)), (4, (0, 0, x4))] [] M ((ax_qm (-2147483648) 2147483647) (kx x3 x4).2)) (hX : (f_X2_asks_B26 w1 w2 M i v3 v4 kc kx).1) : ax_W ax_LC gX2_asks (d + 4) 32 [(0, (2, 2, 0)), (1, (0, 0, w1)), (2, (0, 0, w2)), (3, (0, 0, v3)), (4, (0, 0, v4)), (5, (0, 0, (i : Int)))] [] M ((ax_qm (-2147483648) 2147483647) (f_X2_asks_B26 w1 w2 M i v3 v4 kc kx).2) := by
  unfold f_X2_asks_B26 at hX ⊢
  refine ax_lump ax_layC ok_kX2 [(32, .iconst 0, 1, 0, 0, 0), (33, .istore 6, 2, 0, 0, 0)] (pc' := 35) (lc' := [(6, (0, 0, 0)), (0, (2, 2, 0)), (1, (0, 0, w1)), (2, (0, 0, w2)), (3, (0, 0, v3)), (4, (0, 0, v4)), (5, (0, 0, (i : Int)))]) (st' := []) (M' := M) (C' := True) (by decide +kernel) rfl trivial ?_
  refine ax_pk [1,2,3,4,5,6,0] (lc' := [(0, (2, 2, 0)), (1, (0, 0, w1)), (2, (0, 0, w2)), (3, (0, 0, v3)), (4, (0, 0, v4)), (5, (0, 0, (i : Int))), (6, (0, 0, 0))]) rfl ?_
  refine w_X2_asks_L35 d w1 w2 (i : Int) M _ (by omega) (fun z16 z17 hx_17 hX => ?_) 100  v3 v4 0   hX
  refine ax_lump ax_layC ok_kX2 [(101, .iinc 5 1, 3, 1, 0, 0), (104, .goto (-78), 3, 26, 0, 0)] (pc' := 26) (lc' := [(5, (0, 0, ((i : Int) + 1))), (0, (2, 2, 0)), (1, (0, 0, w1)), (2, (0, 0, w2)), (3, (0, 0, z16)), (4, (0, 0, z17))]) (st' := []) (M' := M) (C' := (True ∧ ax_r32 ((i : Int) + 1))) (by decide +kernel) rfl ⟨trivial, ⟨by omega, by omega⟩⟩ ?_
  refine ax_pk [1,2,3,4,5,0] (lc' := [(0, (2, 2, 0)), (1, (0, 0, w1)), (2, (0, 0, w2)), (3, (0, 0, z16)), (4, (0, 0, z17)), (5, (0, 0, ((i : Int) + 1)))]) rfl ?_
  exact hkc z16 z17  hX
set_option maxRecDepth 100000 in
set_option maxHeartbeats 4000000 in
theorem w_X2_asks_L26 (d : Nat) (w1 : Int) (w2 : Int) (M : ax_M) (kx : Int → Int → Prop × Int × ax_M)  (hkx : ∀ (x3 : Int) (x4 : Int), (True) → (kx x3 x4).1 → ax_W ax_LC gX2_asks (d + 4) 107 [(0, (2, 2, 0)), (3, (0, 0, x3)), (4, (0, 0, x4))] [] M ((ax_qm (-2147483648) 2147483647) (kx x3 x4).2)) : ∀ (n : Nat) (i : Nat) (v3 : Int) (v4 : Int), 0 ≤ i ∧ i + n = 4 → (f_X2_asks_L26 w1 w2 M n i v3 v4 kx).1 → ax_W ax_LC gX2_asks (d + 4) 26 [(0, (2, 2, 0)), (1, (0, 0, w1)), (2, (0, 0, w2)), (3, (0, 0, v3)), (4, (0, 0, v4)), (5, (0, 0, (i : Int)))] [] M ((ax_qm (-2147483648) 2147483647) (f_X2_asks_L26 w1 w2 M n i v3 v4 kx).2) := by
  intro n
  induction n with
  | zero =>
    intro i v3 v4 hin hX
    refine ax_lump ax_layC ok_kX2 [(26, .iload 5, 2, 0, 0, 0), (28, .iconst 4, 1, 0, 0, 0)] (pc' := 29) (lc' := [(0, (2, 2, 0)), (1, (0, 0, w1)), (2, (0, 0, w2)), (3, (0, 0, v3)), (4, (0, 0, v4)), (5, (0, 0, (i : Int)))]) (st' := [(0, 0, 4), (0, 0, (i : Int))]) (M' := M) (C' := True) (by decide +kernel) rfl trivial ?_
    refine ax_icmp_ge (off := 78) (tgt := 107) (by decide +kernel) (by decide) (fun h => ?_) (fun h => ?_)
    · refine ax_pk [0,3,4] (lc' := [(0, (2, 2, 0)), (3, (0, 0, v3)), (4, (0, 0, v4))]) rfl ?_
      exact hkx v3 v4 trivial hX
    · exfalso; omega
  | succ n ih =>
    intro i v3 v4 hin hX
    refine ax_lump ax_layC ok_kX2 [(26, .iload 5, 2, 0, 0, 0), (28, .iconst 4, 1, 0, 0, 0)] (pc' := 29) (lc' := [(0, (2, 2, 0)), (1, (0, 0, w1)), (2, (0, 0, w2)), (3, (0, 0, v3)), (4, (0, 0, v4)), (5, (0, 0, (i : Int)))]) (st' := [(0, 0, 4), (0, 0, (i : Int))]) (M' := M) (C' := True) (by decide +kernel) rfl trivial ?_
    refine ax_icmp_ge (off := 78) (tgt := 107) (by decide +kernel) (by decide) (fun h => ?_) (fun h => ?_)
    · exfalso; omega
    · exact wb_X2_asks_B26 d w1 w2 M i v3 v4 _ kx  (by omega)  (fun u3 u4 hX => ih (i + 1) u3 u4 (by omega)  hX) hkx hX
def f_X2_asks  (M : ax_M) : Prop × Int × ax_M := ax_bd (f_X2_fitting M) (fun y2 => (if y2 ≠ 0 then ax_bd (f_J_bitCount y2 M) (fun y5 => f_X2_asks_L26 y2 y5 M 4 0 (-1) 17 (fun z18 z19 => ax_bd (f_X2_tellAnew M) (fun M20 => ax_bd (f_X2_tell z19 M20) (fun M21 => (True, (z18, M21)))))) else (True, ((-2), M))))
set_option maxRecDepth 100000 in
set_option maxHeartbeats 4000000 in
theorem c_X2_asks (d : Nat)  (M : ax_M)  (hX : (f_X2_asks  M).1) : ax_Met ax_LC gX2_asks (d + 4) [(2, 2, 0)] M ((ax_qm (-2147483648) 2147483647) (f_X2_asks  M).2) := by
  refine ax_body (by decide) (fun X => Nat.le_of_ble_eq_true rfl) (fun hok => ?_)
  show ax_W ax_LC gX2_asks (d + 4) 0 [(0, (2, 2, 0))] [] M _
  unfold f_X2_asks at hX ⊢
  refine ax_lump ax_layC ok_kX2 [(0, .aload_n 0, 1, 0, 0, 0)] (pc' := 1) (lc' := [(0, (2, 2, 0))]) (st' := [(2, 2, 0)]) (M' := M) (C' := True) (by decide +kernel) rfl trivial ?_
  refine ax_cVi (G1 := gX2_fitting) (d1 := d + 3) (i := 292) (n := 0) (as := []) (st := []) (c := 2) (a := 0) (by decide +kernel) ax_cls2 calX2_fitting (by omega) rfl wt_715 wt_717 ws_62 (Nat.le_of_ble_eq_true rfl) rfl (c_X2_fitting d  M) (fun hc1 => ?_)
  refine ax_lump ax_layC ok_kX2 [(4, .istore_n 1, 1, 0, 0, 0)] (pc' := 5) (lc' := [(1, (0, 0, (f_X2_fitting M))), (0, (2, 2, 0))]) (st' := []) (M' := M) (C' := True) (by decide +kernel) rfl trivial ?_
  refine ax_bdI0_s hX (e := (f_X2_fitting M)) (fun y2 => [(1, (0, 0, y2)), (0, (2, 2, 0))]) (fun y2 => []) (fun y2 hX => ?_)
  refine ax_lump ax_layC ok_kX2 [(5, .iload_n 1, 1, 0, 0, 0)] (pc' := 6) (lc' := [(1, (0, 0, y2)), (0, (2, 2, 0))]) (st' := [(0, 0, y2)]) (M' := M) (C' := True) (by decide +kernel) rfl trivial ?_
  refine ax_zne_s hX (off := 6) (tgt := 12) (by decide +kernel) (by decide) (fun h3 hX => ?_) (fun h3 hX => ?_)
  · refine ax_lump ax_layC ok_kX2 [(12, .iload_n 1, 1, 0, 0, 0)] (pc' := 13) (lc' := [(1, (0, 0, y2)), (0, (2, 2, 0))]) (st' := [(0, 0, y2)]) (M' := M) (C' := True) (by decide +kernel) rfl trivial ?_
    refine ax_cSi (G1 := gJ_bitCount) (d1 := d + 0) (i := 229) (n := 1) (as := [(0, 0, y2)]) (st := []) (by decide +kernel) calJ_bitCount (by omega) rfl wt_628 wt_468 (Nat.le_of_ble_eq_true rfl) rfl (c_J_bitCount ax_LC ax_layC d y2 M) (fun hc4 => ?_)
    refine ax_lump ax_layC ok_kX2 [(16, .istore_n 2, 1, 0, 0, 0)] (pc' := 17) (lc' := [(2, (0, 0, (f_J_bitCount y2 M))), (1, (0, 0, y2)), (0, (2, 2, 0))]) (st' := []) (M' := M) (C' := True) (by decide +kernel) rfl trivial ?_
    refine ax_bdI0_s hX (e := (f_J_bitCount y2 M)) (fun y5 => [(2, (0, 0, y5)), (1, (0, 0, y2)), (0, (2, 2, 0))]) (fun y5 => []) (fun y5 hX => ?_)
    refine ax_lump ax_layC ok_kX2 [(17, .iconst (-1), 1, 0, 0, 0), (18, .istore_n 3, 1, 0, 0, 0), (19, .bipush 17, 2, 0, 0, 0), (21, .istore 4, 2, 0, 0, 0), (23, .iconst 0, 1, 0, 0, 0), (24, .istore 5, 2, 0, 0, 0)] (pc' := 26) (lc' := [(5, (0, 0, 0)), (4, (0, 0, 17)), (3, (0, 0, (-1))), (2, (0, 0, y5)), (1, (0, 0, y2)), (0, (2, 2, 0))]) (st' := []) (M' := M) (C' := True) (by decide +kernel) rfl trivial ?_
    refine ax_pk [5,4,3,2,1,0] (lc' := [(0, (2, 2, 0)), (1, (0, 0, y2)), (2, (0, 0, y5)), (3, (0, 0, (-1))), (4, (0, 0, 17)), (5, (0, 0, 0))]) rfl ?_
    refine w_X2_asks_L26 d y2 y5 M _  (fun z18 z19 hx_19 hX => ?_) 4 0 (-1) 17 (by omega)  hX
    refine ax_lump ax_layC ok_kX2 [(107, .aload_n 0, 1, 0, 0, 0)] (pc' := 108) (lc' := [(0, (2, 2, 0)), (3, (0, 0, z18)), (4, (0, 0, z19))]) (st' := [(2, 2, 0)]) (M' := M) (C' := True) (by decide +kernel) rfl trivial ?_
    refine ax_cVv_s hX (G1 := gX2_tellAnew) (d1 := d + 0) (i := 168) (n := 0) (as := []) (st := []) (c := 2) (a := 0) (by decide +kernel) ax_cls2 calX2_tellAnew (by omega) rfl wt_517 wt_519 ws_47 (Nat.le_of_ble_eq_true rfl) rfl (c_X2_tellAnew d  M) (fun M20 hX => ?_)
    refine ax_lump ax_layC ok_kX2 [(111, .aload_n 0, 1, 0, 0, 0), (112, .iload 4, 2, 0, 0, 0), (114, .i2l, 1, 0, 0, 0)] (pc' := 115) (lc' := [(0, (2, 2, 0)), (3, (0, 0, z18)), (4, (0, 0, z19))]) (st' := [(1, 0, z19), (2, 2, 0)]) (M' := M20) (C' := True) (by decide +kernel) rfl trivial ?_
    refine ax_cVv_s hX (G1 := gX2_tell) (d1 := d + 0) (i := 155) (n := 1) (as := [(1, 0, z19)]) (st := []) (c := 2) (a := 0) (by decide +kernel) ax_cls2 calX2_tell (by omega) rfl wt_521 wt_523 ws_48 (Nat.le_of_ble_eq_true rfl) rfl (c_X2_tell d z19 M20) (fun M21 hX => ?_)
    refine ax_lump ax_layC ok_kX2 [(118, .iload_n 3, 1, 0, 0, 0)] (pc' := 119) (lc' := [(0, (2, 2, 0)), (3, (0, 0, z18)), (4, (0, 0, z19))]) (st' := [(0, 0, z18)]) (M' := M21) (C' := True) (by decide +kernel) rfl trivial ?_
    refine ax_rngS (fun hr => ?_)
    exact ax_iret (by decide +kernel) rfl ⟨rfl, rfl, hr.1, hr.2⟩
  · refine ax_lump ax_layC ok_kX2 [(9, .bipush (-2), 2, 0, 0, 0)] (pc' := 11) (lc' := [(1, (0, 0, y2)), (0, (2, 2, 0))]) (st' := [(0, 0, (-2))]) (M' := M) (C' := True) (by decide +kernel) rfl trivial ?_
    refine ax_rngS (fun hr => ?_)
    exact ax_iret (by decide +kernel) rfl ⟨rfl, rfl, hr.1, hr.2⟩
