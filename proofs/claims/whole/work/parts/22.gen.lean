def f_X3_wipes_B2 (a1 : Nat) (w2 : Int) (i : Nat)  (M : ax_M) (kc : ax_M → ax_M) (kx : ax_M → ax_M) : ax_M := (if (M a1 (192 + w2).toNat) < 3 then ax_bd (ax_up M a1 (208 + (i : Int)).toNat (ax_wr ((M a1 (208 + (i : Int)).toNat) - (f_X3_flag 0 M)))) (fun M3 => kc M3) else (if (M a1 (192 + (i : Int)).toNat) ≠ (M a1 (192 + w2).toNat) then ax_bd (ax_up M a1 (208 + (i : Int)).toNat (ax_wr ((M a1 (208 + (i : Int)).toNat) - (f_X3_flag 0 M)))) (fun M6 => kc M6) else (if (M a1 (208 + (i : Int)).toNat) ≤ (M a1 (208 + w2).toNat) then ax_bd (ax_up M a1 (208 + (i : Int)).toNat (ax_wr ((M a1 (208 + (i : Int)).toNat) - (f_X3_flag 0 M)))) (fun M9 => kc M9) else ax_bd (ax_up M a1 (208 + (i : Int)).toNat (ax_wr ((M a1 (208 + (i : Int)).toNat) - (f_X3_flag 1 M)))) (fun M11 => kc M11))))
def f_X3_wipes_L2 (a1 : Nat) (w2 : Int) : Nat → Nat → ax_M → (ax_M → ax_M) → ax_M
  | 0, i, M, kx => kx M
  | n + 1, i, M, kx => f_X3_wipes_B2 a1 w2 i  M (fun M9 => f_X3_wipes_L2 a1 w2 n (i + 1) M9 kx) kx
set_option maxRecDepth 100000 in
set_option maxHeartbeats 4000000 in
theorem wb_X3_wipes_B2 (d : Nat) (a1 : Nat) (w2 : Int) (i : Nat)  (M : ax_M) (kc : ax_M → ax_M) (kx : ax_M → ax_M) (hw_w2 : 0 ≤ w2 ∧ w2 ≤ 15) (hi : 0 ≤ i ∧ i < 16)  (hkc : ∀ (M9 : ax_M), ax_W ax_LM gX3_wipes (d + 2) 2 [(0, (2, 3, 0)), (1, (3, 274, (a1 : Int))), (2, (0, 0, w2)), (3, (0, 0, ((i : Int) + 1)))] [] M9 (ax_qv (kc M9))) (hkx : ∀ (M9 : ax_M), (True) → ax_W ax_LM gX3_wipes (d + 2) 81 [(0, (2, 3, 0)), (1, (3, 274, (a1 : Int))), (2, (0, 0, w2))] [] M9 (ax_qv (kx M9))) : ax_W ax_LM gX3_wipes (d + 2) 8 [(0, (2, 3, 0)), (1, (3, 274, (a1 : Int))), (2, (0, 0, w2)), (3, (0, 0, (i : Int)))] [] M (ax_qv (f_X3_wipes_B2 a1 w2 i  M kc kx)) := by
  unfold f_X3_wipes_B2
  refine ax_lump ax_layM ok_kX3 [(8, .aload_n 1, 1, 0, 0, 0), (9, .sipush 192, 3, 0, 0, 0), (12, .iload_n 2, 1, 0, 0, 0), (13, .iadd, 1, 1, 0, 0), (14, .iaload, 1, 0, 0, 0), (15, .iconst 3, 1, 0, 0, 0)] (pc' := 16) (lc' := [(0, (2, 3, 0)), (1, (3, 274, (a1 : Int))), (2, (0, 0, w2)), (3, (0, 0, (i : Int)))]) (st' := [(0, 0, 3), (0, 0, (M a1 (192 + w2).toNat))]) (M' := M) (C' := ((True ∧ ax_r32 (192 + w2)) ∧ (0 ≤ (192 + w2) ∧ (192 + w2) < ((274 : Nat) : Int)))) (by decide +kernel) rfl ⟨⟨trivial, ⟨by omega, by omega⟩⟩, by omega⟩ ?_
  refine ax_jlt (off := 41) (tgt := 57) (by decide +kernel) (by decide) (fun h1 => ?_) (fun h1 => ?_)
  · refine ax_lump ax_layM ok_kX3 [(57, .iconst 0, 1, 0, 0, 0), (58, .istore 4, 2, 0, 0, 0), (60, .aload_n 1, 1, 0, 0, 0), (61, .sipush 208, 3, 0, 0, 0), (64, .iload_n 3, 1, 0, 0, 0), (65, .iadd, 1, 1, 0, 0), (66, .dup2, 1, 0, 0, 0), (67, .iaload, 1, 0, 0, 0), (68, .iload 4, 2, 0, 0, 0)] (pc' := 70) (lc' := [(4, (0, 0, 0)), (0, (2, 3, 0)), (1, (3, 274, (a1 : Int))), (2, (0, 0, w2)), (3, (0, 0, (i : Int)))]) (st' := [(0, 0, 0), (0, 0, (M a1 (208 + (i : Int)).toNat)), (0, 0, (208 + (i : Int))), (3, 274, (a1 : Int))]) (M' := M) (C' := ((True ∧ ax_r32 (208 + (i : Int))) ∧ (0 ≤ (208 + (i : Int)) ∧ (208 + (i : Int)) < ((274 : Nat) : Int)))) (by decide +kernel) rfl ⟨⟨trivial, ⟨by omega, by omega⟩⟩, by omega⟩ ?_
    refine ax_cSi (G1 := gX3_flag) (d1 := d + 0) (i := 44) (n := 1) (as := [(0, 0, 0)]) (st := [(0, 0, (M a1 (208 + (i : Int)).toNat)), (0, 0, (208 + (i : Int))), (3, 274, (a1 : Int))]) (by decide +kernel) calX3_flag (by omega) rfl wt_904 wt_905 (Nat.le_of_ble_eq_true rfl) rfl (c_X3_flag d 0 M (by omega)) (fun hc2 => ?_)
    refine ax_lump ax_layM ok_kX3 [(73, .isub, 1, 0, 0, 0), (74, .iastore, 1, 0, 0, 0)] (pc' := 75) (lc' := [(4, (0, 0, 0)), (0, (2, 3, 0)), (1, (3, 274, (a1 : Int))), (2, (0, 0, w2)), (3, (0, 0, (i : Int)))]) (st' := []) (M' := (ax_up M a1 (208 + (i : Int)).toNat (ax_wr ((M a1 (208 + (i : Int)).toNat) - (f_X3_flag 0 M))))) (C' := (True ∧ (0 ≤ (208 + (i : Int)) ∧ (208 + (i : Int)) < ((274 : Nat) : Int)))) (by decide +kernel) rfl ⟨trivial, by omega⟩ ?_
    refine ax_bdMe (fun M3 hM_M3 => ?_)
    refine ax_lump ax_layM ok_kX3 [(75, .iinc 3 1, 3, 1, 0, 0), (78, .goto (-76), 3, 2, 0, 0)] (pc' := 2) (lc' := [(3, (0, 0, ((i : Int) + 1))), (4, (0, 0, 0)), (0, (2, 3, 0)), (1, (3, 274, (a1 : Int))), (2, (0, 0, w2))]) (st' := []) (M' := M3) (C' := (True ∧ ax_r32 ((i : Int) + 1))) (by decide +kernel) rfl ⟨trivial, ⟨by omega, by omega⟩⟩ ?_
    refine ax_pk [2,3,4,0] (lc' := [(0, (2, 3, 0)), (1, (3, 274, (a1 : Int))), (2, (0, 0, w2)), (3, (0, 0, ((i : Int) + 1)))]) rfl ?_
    exact hkc M3 
  · refine ax_lump ax_layM ok_kX3 [(19, .aload_n 1, 1, 0, 0, 0), (20, .sipush 192, 3, 0, 0, 0), (23, .iload_n 3, 1, 0, 0, 0), (24, .iadd, 1, 1, 0, 0), (25, .iaload, 1, 0, 0, 0), (26, .aload_n 1, 1, 0, 0, 0), (27, .sipush 192, 3, 0, 0, 0), (30, .iload_n 2, 1, 0, 0, 0), (31, .iadd, 1, 1, 0, 0), (32, .iaload, 1, 0, 0, 0)] (pc' := 33) (lc' := [(0, (2, 3, 0)), (1, (3, 274, (a1 : Int))), (2, (0, 0, w2)), (3, (0, 0, (i : Int)))]) (st' := [(0, 0, (M a1 (192 + w2).toNat)), (0, 0, (M a1 (192 + (i : Int)).toNat))]) (M' := M) (C' := ((((True ∧ ax_r32 (192 + (i : Int))) ∧ (0 ≤ (192 + (i : Int)) ∧ (192 + (i : Int)) < ((274 : Nat) : Int))) ∧ ax_r32 (192 + w2)) ∧ (0 ≤ (192 + w2) ∧ (192 + w2) < ((274 : Nat) : Int)))) (by decide +kernel) rfl ⟨⟨⟨⟨trivial, ⟨by omega, by omega⟩⟩, by omega⟩, ⟨by omega, by omega⟩⟩, by omega⟩ ?_
    refine ax_jne (off := 24) (tgt := 57) (by decide +kernel) (by decide) (fun h4 => ?_) (fun h4 => ?_)
    · refine ax_lump ax_layM ok_kX3 [(57, .iconst 0, 1, 0, 0, 0), (58, .istore 4, 2, 0, 0, 0), (60, .aload_n 1, 1, 0, 0, 0), (61, .sipush 208, 3, 0, 0, 0), (64, .iload_n 3, 1, 0, 0, 0), (65, .iadd, 1, 1, 0, 0), (66, .dup2, 1, 0, 0, 0), (67, .iaload, 1, 0, 0, 0), (68, .iload 4, 2, 0, 0, 0)] (pc' := 70) (lc' := [(4, (0, 0, 0)), (0, (2, 3, 0)), (1, (3, 274, (a1 : Int))), (2, (0, 0, w2)), (3, (0, 0, (i : Int)))]) (st' := [(0, 0, 0), (0, 0, (M a1 (208 + (i : Int)).toNat)), (0, 0, (208 + (i : Int))), (3, 274, (a1 : Int))]) (M' := M) (C' := ((True ∧ ax_r32 (208 + (i : Int))) ∧ (0 ≤ (208 + (i : Int)) ∧ (208 + (i : Int)) < ((274 : Nat) : Int)))) (by decide +kernel) rfl ⟨⟨trivial, ⟨by omega, by omega⟩⟩, by omega⟩ ?_
      refine ax_cSi (G1 := gX3_flag) (d1 := d + 0) (i := 44) (n := 1) (as := [(0, 0, 0)]) (st := [(0, 0, (M a1 (208 + (i : Int)).toNat)), (0, 0, (208 + (i : Int))), (3, 274, (a1 : Int))]) (by decide +kernel) calX3_flag (by omega) rfl wt_904 wt_905 (Nat.le_of_ble_eq_true rfl) rfl (c_X3_flag d 0 M (by omega)) (fun hc5 => ?_)
      refine ax_lump ax_layM ok_kX3 [(73, .isub, 1, 0, 0, 0), (74, .iastore, 1, 0, 0, 0)] (pc' := 75) (lc' := [(4, (0, 0, 0)), (0, (2, 3, 0)), (1, (3, 274, (a1 : Int))), (2, (0, 0, w2)), (3, (0, 0, (i : Int)))]) (st' := []) (M' := (ax_up M a1 (208 + (i : Int)).toNat (ax_wr ((M a1 (208 + (i : Int)).toNat) - (f_X3_flag 0 M))))) (C' := (True ∧ (0 ≤ (208 + (i : Int)) ∧ (208 + (i : Int)) < ((274 : Nat) : Int)))) (by decide +kernel) rfl ⟨trivial, by omega⟩ ?_
      refine ax_bdMe (fun M6 hM_M6 => ?_)
      refine ax_lump ax_layM ok_kX3 [(75, .iinc 3 1, 3, 1, 0, 0), (78, .goto (-76), 3, 2, 0, 0)] (pc' := 2) (lc' := [(3, (0, 0, ((i : Int) + 1))), (4, (0, 0, 0)), (0, (2, 3, 0)), (1, (3, 274, (a1 : Int))), (2, (0, 0, w2))]) (st' := []) (M' := M6) (C' := (True ∧ ax_r32 ((i : Int) + 1))) (by decide +kernel) rfl ⟨trivial, ⟨by omega, by omega⟩⟩ ?_
      refine ax_pk [2,3,4,0] (lc' := [(0, (2, 3, 0)), (1, (3, 274, (a1 : Int))), (2, (0, 0, w2)), (3, (0, 0, ((i : Int) + 1)))]) rfl ?_
      exact hkc M6 
    · refine ax_lump ax_layM ok_kX3 [(36, .aload_n 1, 1, 0, 0, 0), (37, .sipush 208, 3, 0, 0, 0), (40, .iload_n 3, 1, 0, 0, 0), (41, .iadd, 1, 1, 0, 0), (42, .iaload, 1, 0, 0, 0), (43, .aload_n 1, 1, 0, 0, 0), (44, .sipush 208, 3, 0, 0, 0), (47, .iload_n 2, 1, 0, 0, 0), (48, .iadd, 1, 1, 0, 0), (49, .iaload, 1, 0, 0, 0)] (pc' := 50) (lc' := [(0, (2, 3, 0)), (1, (3, 274, (a1 : Int))), (2, (0, 0, w2)), (3, (0, 0, (i : Int)))]) (st' := [(0, 0, (M a1 (208 + w2).toNat)), (0, 0, (M a1 (208 + (i : Int)).toNat))]) (M' := M) (C' := ((((True ∧ ax_r32 (208 + (i : Int))) ∧ (0 ≤ (208 + (i : Int)) ∧ (208 + (i : Int)) < ((274 : Nat) : Int))) ∧ ax_r32 (208 + w2)) ∧ (0 ≤ (208 + w2) ∧ (208 + w2) < ((274 : Nat) : Int)))) (by decide +kernel) rfl ⟨⟨⟨⟨trivial, ⟨by omega, by omega⟩⟩, by omega⟩, ⟨by omega, by omega⟩⟩, by omega⟩ ?_
      refine ax_jle (off := 7) (tgt := 57) (by decide +kernel) (by decide) (fun h7 => ?_) (fun h7 => ?_)
      · refine ax_lump ax_layM ok_kX3 [(57, .iconst 0, 1, 0, 0, 0), (58, .istore 4, 2, 0, 0, 0), (60, .aload_n 1, 1, 0, 0, 0), (61, .sipush 208, 3, 0, 0, 0), (64, .iload_n 3, 1, 0, 0, 0), (65, .iadd, 1, 1, 0, 0), (66, .dup2, 1, 0, 0, 0), (67, .iaload, 1, 0, 0, 0), (68, .iload 4, 2, 0, 0, 0)] (pc' := 70) (lc' := [(4, (0, 0, 0)), (0, (2, 3, 0)), (1, (3, 274, (a1 : Int))), (2, (0, 0, w2)), (3, (0, 0, (i : Int)))]) (st' := [(0, 0, 0), (0, 0, (M a1 (208 + (i : Int)).toNat)), (0, 0, (208 + (i : Int))), (3, 274, (a1 : Int))]) (M' := M) (C' := ((True ∧ ax_r32 (208 + (i : Int))) ∧ (0 ≤ (208 + (i : Int)) ∧ (208 + (i : Int)) < ((274 : Nat) : Int)))) (by decide +kernel) rfl ⟨⟨trivial, ⟨by omega, by omega⟩⟩, by omega⟩ ?_
        refine ax_cSi (G1 := gX3_flag) (d1 := d + 0) (i := 44) (n := 1) (as := [(0, 0, 0)]) (st := [(0, 0, (M a1 (208 + (i : Int)).toNat)), (0, 0, (208 + (i : Int))), (3, 274, (a1 : Int))]) (by decide +kernel) calX3_flag (by omega) rfl wt_904 wt_905 (Nat.le_of_ble_eq_true rfl) rfl (c_X3_flag d 0 M (by omega)) (fun hc8 => ?_)
        refine ax_lump ax_layM ok_kX3 [(73, .isub, 1, 0, 0, 0), (74, .iastore, 1, 0, 0, 0)] (pc' := 75) (lc' := [(4, (0, 0, 0)), (0, (2, 3, 0)), (1, (3, 274, (a1 : Int))), (2, (0, 0, w2)), (3, (0, 0, (i : Int)))]) (st' := []) (M' := (ax_up M a1 (208 + (i : Int)).toNat (ax_wr ((M a1 (208 + (i : Int)).toNat) - (f_X3_flag 0 M))))) (C' := (True ∧ (0 ≤ (208 + (i : Int)) ∧ (208 + (i : Int)) < ((274 : Nat) : Int)))) (by decide +kernel) rfl ⟨trivial, by omega⟩ ?_
        refine ax_bdMe (fun M9 hM_M9 => ?_)
        refine ax_lump ax_layM ok_kX3 [(75, .iinc 3 1, 3, 1, 0, 0), (78, .goto (-76), 3, 2, 0, 0)] (pc' := 2) (lc' := [(3, (0, 0, ((i : Int) + 1))), (4, (0, 0, 0)), (0, (2, 3, 0)), (1, (3, 274, (a1 : Int))), (2, (0, 0, w2))]) (st' := []) (M' := M9) (C' := (True ∧ ax_r32 ((i : Int) + 1))) (by decide +kernel) rfl ⟨trivial, ⟨by omega, by omega⟩⟩ ?_
        refine ax_pk [2,3,4,0] (lc' := [(0, (2, 3, 0)), (1, (3, 274, (a1 : Int))), (2, (0, 0, w2)), (3, (0, 0, ((i : Int) + 1)))]) rfl ?_
        exact hkc M9 
      · refine ax_lump ax_layM ok_kX3 [(53, .iconst 1, 1, 0, 0, 0), (54, .goto 4, 3, 58, 0, 0), (58, .istore 4, 2, 0, 0, 0), (60, .aload_n 1, 1, 0, 0, 0), (61, .sipush 208, 3, 0, 0, 0), (64, .iload_n 3, 1, 0, 0, 0), (65, .iadd, 1, 1, 0, 0), (66, .dup2, 1, 0, 0, 0), (67, .iaload, 1, 0, 0, 0), (68, .iload 4, 2, 0, 0, 0)] (pc' := 70) (lc' := [(4, (0, 0, 1)), (0, (2, 3, 0)), (1, (3, 274, (a1 : Int))), (2, (0, 0, w2)), (3, (0, 0, (i : Int)))]) (st' := [(0, 0, 1), (0, 0, (M a1 (208 + (i : Int)).toNat)), (0, 0, (208 + (i : Int))), (3, 274, (a1 : Int))]) (M' := M) (C' := ((True ∧ ax_r32 (208 + (i : Int))) ∧ (0 ≤ (208 + (i : Int)) ∧ (208 + (i : Int)) < ((274 : Nat) : Int)))) (by decide +kernel) rfl ⟨⟨trivial, ⟨by omega, by omega⟩⟩, by omega⟩ ?_
        refine ax_cSi (G1 := gX3_flag) (d1 := d + 0) (i := 44) (n := 1) (as := [(0, 0, 1)]) (st := [(0, 0, (M a1 (208 + (i : Int)).toNat)), (0, 0, (208 + (i : Int))), (3, 274, (a1 : Int))]) (by decide +kernel) calX3_flag (by omega) rfl wt_904 wt_905 (Nat.le_of_ble_eq_true rfl) rfl (c_X3_flag d 1 M (by omega)) (fun hc10 => ?_)
        refine ax_lump ax_layM ok_kX3 [(73, .isub, 1, 0, 0, 0), (74, .iastore, 1, 0, 0, 0)] (pc' := 75) (lc' := [(4, (0, 0, 1)), (0, (2, 3, 0)), (1, (3, 274, (a1 : Int))), (2, (0, 0, w2)), (3, (0, 0, (i : Int)))]) (st' := []) (M' := (ax_up M a1 (208 + (i : Int)).toNat (ax_wr ((M a1 (208 + (i : Int)).toNat) - (f_X3_flag 1 M))))) (C' := (True ∧ (0 ≤ (208 + (i : Int)) ∧ (208 + (i : Int)) < ((274 : Nat) : Int)))) (by decide +kernel) rfl ⟨trivial, by omega⟩ ?_
        refine ax_bdMe (fun M11 hM_M11 => ?_)
        refine ax_lump ax_layM ok_kX3 [(75, .iinc 3 1, 3, 1, 0, 0), (78, .goto (-76), 3, 2, 0, 0)] (pc' := 2) (lc' := [(3, (0, 0, ((i : Int) + 1))), (4, (0, 0, 1)), (0, (2, 3, 0)), (1, (3, 274, (a1 : Int))), (2, (0, 0, w2))]) (st' := []) (M' := M11) (C' := (True ∧ ax_r32 ((i : Int) + 1))) (by decide +kernel) rfl ⟨trivial, ⟨by omega, by omega⟩⟩ ?_
        refine ax_pk [2,3,4,0] (lc' := [(0, (2, 3, 0)), (1, (3, 274, (a1 : Int))), (2, (0, 0, w2)), (3, (0, 0, ((i : Int) + 1)))]) rfl ?_
        exact hkc M11 
set_option maxRecDepth 100000 in
set_option maxHeartbeats 4000000 in
theorem w_X3_wipes_L2 (d : Nat) (a1 : Nat) (w2 : Int) (kx : ax_M → ax_M) (hw_w2 : 0 ≤ w2 ∧ w2 ≤ 15) (hkx : ∀ (M9 : ax_M), (True) → ax_W ax_LM gX3_wipes (d + 2) 81 [(0, (2, 3, 0)), (1, (3, 274, (a1 : Int))), (2, (0, 0, w2))] [] M9 (ax_qv (kx M9))) : ∀ (n : Nat) (i : Nat) (M : ax_M), 0 ≤ i ∧ i + n = 16 → ax_W ax_LM gX3_wipes (d + 2) 2 [(0, (2, 3, 0)), (1, (3, 274, (a1 : Int))), (2, (0, 0, w2)), (3, (0, 0, (i : Int)))] [] M (ax_qv (f_X3_wipes_L2 a1 w2 n i  M kx)) := by
  intro n
  induction n with
  | zero =>
    intro i M hin
    refine ax_lump ax_layM ok_kX3 [(2, .iload_n 3, 1, 0, 0, 0), (3, .bipush 16, 2, 0, 0, 0)] (pc' := 5) (lc' := [(0, (2, 3, 0)), (1, (3, 274, (a1 : Int))), (2, (0, 0, w2)), (3, (0, 0, (i : Int)))]) (st' := [(0, 0, 16), (0, 0, (i : Int))]) (M' := M) (C' := True) (by decide +kernel) rfl trivial ?_
    refine ax_icmp_ge (off := 76) (tgt := 81) (by decide +kernel) (by decide) (fun h => ?_) (fun h => ?_)
    · refine ax_pk [0,1,2] (lc' := [(0, (2, 3, 0)), (1, (3, 274, (a1 : Int))), (2, (0, 0, w2))]) rfl ?_
      exact hkx M trivial
    · exfalso; omega
  | succ n ih =>
    intro i M hin
    refine ax_lump ax_layM ok_kX3 [(2, .iload_n 3, 1, 0, 0, 0), (3, .bipush 16, 2, 0, 0, 0)] (pc' := 5) (lc' := [(0, (2, 3, 0)), (1, (3, 274, (a1 : Int))), (2, (0, 0, w2)), (3, (0, 0, (i : Int)))]) (st' := [(0, 0, 16), (0, 0, (i : Int))]) (M' := M) (C' := True) (by decide +kernel) rfl trivial ?_
    refine ax_icmp_ge (off := 76) (tgt := 81) (by decide +kernel) (by decide) (fun h => ?_) (fun h => ?_)
    · exfalso; omega
    · exact wb_X3_wipes_B2 d a1 w2 i  M _ kx hw_w2 (by omega)  (fun M9 => ih (i + 1)  M9 (by omega) ) hkx
def f_X3_wipes (a1 : Nat) (x2 : Int) (M : ax_M) : ax_M := f_X3_wipes_L2 a1 x2 16 0  M (fun M12 => ax_bd (f_X3_emptiesBlock a1 x2 M12) (fun M13 => ax_bd (ax_up M13 a1 (192 + x2).toNat 0) (fun M14 => ax_bd (ax_up M14 a1 (208 + x2).toNat 0) (fun M15 => ax_bd (ax_up M15 a1 (224 + x2).toNat (if (ax_wr ((M15 a1 (224 + x2).toNat) + 1)) < 999 then (ax_wr ((M15 a1 (224 + x2).toNat) + 1)) else 999)) (fun M16 => ax_bd (f_X3_counts a1 266 M16) (fun M17 => ax_bd (f_X3_tellsStep (64 + x2) 0 0 0 M17) (fun M18 => M18)))))))
set_option maxRecDepth 100000 in
set_option maxHeartbeats 4000000 in
theorem c_X3_wipes (d : Nat) (a1 : Nat) (x2 : Int) (M : ax_M) (hp1 : 0 ≤ x2 ∧ x2 ≤ 15) : ax_Met ax_LM gX3_wipes (d + 2) [(2, 3, 0), (3, 274, (a1 : Int)), (0, 0, x2)] M (ax_qv (f_X3_wipes a1 x2 M)) := by
  refine ax_body (by decide) (fun X => Nat.le_of_ble_eq_true rfl) (fun hok => ?_)
  have hr_x2 : (-2147483648) ≤ x2 ∧ x2 ≤ 2147483647 := hok (0, 0, x2) (by simp)
  show ax_W ax_LM gX3_wipes (d + 2) 0 [(0, (2, 3, 0)), (1, (3, 274, (a1 : Int))), (2, (0, 0, x2))] [] M _
  unfold f_X3_wipes
  refine ax_lump ax_layM ok_kX3 [(0, .iconst 0, 1, 0, 0, 0), (1, .istore_n 3, 1, 0, 0, 0)] (pc' := 2) (lc' := [(3, (0, 0, 0)), (0, (2, 3, 0)), (1, (3, 274, (a1 : Int))), (2, (0, 0, x2))]) (st' := []) (M' := M) (C' := True) (by decide +kernel) rfl trivial ?_
  refine ax_pk [1,2,3,0] (lc' := [(0, (2, 3, 0)), (1, (3, 274, (a1 : Int))), (2, (0, 0, x2)), (3, (0, 0, 0))]) rfl ?_
  refine w_X3_wipes_L2 d a1 x2 _ (by omega) (fun M12 hx_12 => ?_) 16 0  M (by omega) 
  refine ax_lump ax_layM ok_kX3 [(81, .aload_n 1, 1, 0, 0, 0), (82, .iload_n 2, 1, 0, 0, 0)] (pc' := 83) (lc' := [(0, (2, 3, 0)), (1, (3, 274, (a1 : Int))), (2, (0, 0, x2))]) (st' := [(0, 0, x2), (3, 274, (a1 : Int))]) (M' := M12) (C' := True) (by decide +kernel) rfl trivial ?_
  refine ax_cSv (G1 := gX3_emptiesBlock) (d1 := d + 0) (i := 217) (n := 2) (as := [(3, 274, (a1 : Int)), (0, 0, x2)]) (st := []) (by decide +kernel) calX3_emptiesBlock (by omega) rfl wt_1196 wt_1197 (Nat.le_of_ble_eq_true rfl) rfl (c_X3_emptiesBlock d a1 x2 M12 (by omega)) (fun M13 => ?_)
  refine ax_lump ax_layM ok_kX3 [(86, .aload_n 1, 1, 0, 0, 0), (87, .sipush 192, 3, 0, 0, 0), (90, .iload_n 2, 1, 0, 0, 0), (91, .iadd, 1, 1, 0, 0), (92, .iconst 0, 1, 0, 0, 0), (93, .iastore, 1, 0, 0, 0)] (pc' := 94) (lc' := [(0, (2, 3, 0)), (1, (3, 274, (a1 : Int))), (2, (0, 0, x2))]) (st' := []) (M' := (ax_up M13 a1 (192 + x2).toNat 0)) (C' := ((True ∧ ax_r32 (192 + x2)) ∧ (0 ≤ (192 + x2) ∧ (192 + x2) < ((274 : Nat) : Int)))) (by decide +kernel) rfl ⟨⟨trivial, ⟨by omega, by omega⟩⟩, by omega⟩ ?_
  refine ax_bdMe (fun M14 hM_M14 => ?_)
  refine ax_lump ax_layM ok_kX3 [(94, .aload_n 1, 1, 0, 0, 0), (95, .sipush 208, 3, 0, 0, 0), (98, .iload_n 2, 1, 0, 0, 0), (99, .iadd, 1, 1, 0, 0), (100, .iconst 0, 1, 0, 0, 0), (101, .iastore, 1, 0, 0, 0)] (pc' := 102) (lc' := [(0, (2, 3, 0)), (1, (3, 274, (a1 : Int))), (2, (0, 0, x2))]) (st' := []) (M' := (ax_up M14 a1 (208 + x2).toNat 0)) (C' := ((True ∧ ax_r32 (208 + x2)) ∧ (0 ≤ (208 + x2) ∧ (208 + x2) < ((274 : Nat) : Int)))) (by decide +kernel) rfl ⟨⟨trivial, ⟨by omega, by omega⟩⟩, by omega⟩ ?_
  refine ax_bdMe (fun M15 hM_M15 => ?_)
  refine ax_lump ax_layM ok_kX3 [(102, .aload_n 1, 1, 0, 0, 0), (103, .sipush 224, 3, 0, 0, 0), (106, .iload_n 2, 1, 0, 0, 0), (107, .iadd, 1, 1, 0, 0), (108, .sipush 999, 3, 0, 0, 0), (111, .aload_n 1, 1, 0, 0, 0), (112, .sipush 224, 3, 0, 0, 0), (115, .iload_n 2, 1, 0, 0, 0), (116, .iadd, 1, 1, 0, 0), (117, .iaload, 1, 0, 0, 0), (118, .iconst 1, 1, 0, 0, 0), (119, .iadd, 1, 0, 0, 0)] (pc' := 120) (lc' := [(0, (2, 3, 0)), (1, (3, 274, (a1 : Int))), (2, (0, 0, x2))]) (st' := [(0, 0, (ax_wr ((M15 a1 (224 + x2).toNat) + 1))), (0, 0, 999), (0, 0, (224 + x2)), (3, 274, (a1 : Int))]) (M' := M15) (C' := (((True ∧ ax_r32 (224 + x2)) ∧ ax_r32 (224 + x2)) ∧ (0 ≤ (224 + x2) ∧ (224 + x2) < ((274 : Nat) : Int)))) (by decide +kernel) rfl ⟨⟨⟨trivial, ⟨by omega, by omega⟩⟩, ⟨by omega, by omega⟩⟩, by omega⟩ ?_
  refine ax_mmin (i := 35) (by decide +kernel) (by omega) (Nat.le_of_ble_eq_true rfl) wt_891 wt_266 wt_8 wt_267 ?_
  refine ax_lump ax_layM ok_kX3 [(123, .iastore, 1, 0, 0, 0)] (pc' := 124) (lc' := [(0, (2, 3, 0)), (1, (3, 274, (a1 : Int))), (2, (0, 0, x2))]) (st' := []) (M' := (ax_up M15 a1 (224 + x2).toNat (if (ax_wr ((M15 a1 (224 + x2).toNat) + 1)) < 999 then (ax_wr ((M15 a1 (224 + x2).toNat) + 1)) else 999))) (C' := (True ∧ (0 ≤ (224 + x2) ∧ (224 + x2) < ((274 : Nat) : Int)))) (by decide +kernel) rfl ⟨trivial, by omega⟩ ?_
  refine ax_bdMe (fun M16 hM_M16 => ?_)
  refine ax_lump ax_layM ok_kX3 [(124, .aload_n 1, 1, 0, 0, 0), (125, .sipush 266, 3, 0, 0, 0)] (pc' := 128) (lc' := [(0, (2, 3, 0)), (1, (3, 274, (a1 : Int))), (2, (0, 0, x2))]) (st' := [(0, 0, 266), (3, 274, (a1 : Int))]) (M' := M16) (C' := True) (by decide +kernel) rfl trivial ?_
  refine ax_cSv (G1 := gX3_counts) (d1 := d + 1) (i := 214) (n := 2) (as := [(3, 274, (a1 : Int)), (0, 0, 266)]) (st := []) (by decide +kernel) calX3_counts (by omega) rfl wt_1188 wt_1189 (Nat.le_of_ble_eq_true rfl) rfl (c_X3_counts d a1 266 M16 (by omega)) (fun M17 => ?_)
  refine ax_lump ax_layM ok_kX3 [(131, .aload_n 0, 1, 0, 0, 0), (132, .bipush 64, 2, 0, 0, 0), (134, .iload_n 2, 1, 0, 0, 0), (135, .iadd, 1, 1, 0, 0), (136, .iconst 0, 1, 0, 0, 0), (137, .iconst 0, 1, 0, 0, 0), (138, .iconst 0, 1, 0, 0, 0)] (pc' := 139) (lc' := [(0, (2, 3, 0)), (1, (3, 274, (a1 : Int))), (2, (0, 0, x2))]) (st' := [(0, 0, 0), (0, 0, 0), (0, 0, 0), (0, 0, (64 + x2)), (2, 3, 0)]) (M' := M17) (C' := (True ∧ ax_r32 (64 + x2))) (by decide +kernel) rfl ⟨trivial, ⟨by omega, by omega⟩⟩ ?_
  refine ax_cVv (G1 := gX3_tellsStep) (d1 := d + 0) (i := 206) (n := 4) (as := [(0, 0, (64 + x2)), (0, 0, 0), (0, 0, 0), (0, 0, 0)]) (st := []) (c := 3) (a := 0) (by decide +kernel) ax_cls3 calX3_tellsStep (by omega) rfl wt_1184 wt_1186 ws_90 (Nat.le_of_ble_eq_true rfl) rfl (c_X3_tellsStep d (64 + x2) 0 0 0 M17) (fun M18 => ?_)
  exact ax_vret (by decide +kernel) rfl ⟨rfl, rfl⟩
def f_X3_nextFree_B4 (a0 : Nat) (M : ax_M) (i : Nat) (v1 : Int) (kc : Int → Int) (kx : Int → Int) : Int := (if (M a0 (192 + (i : Int)).toNat) ≠ 0 then kc v1 else (if v1 < 0 then kc (i : Int) else (if (M a0 (224 + v1).toNat) ≤ (M a0 (224 + (i : Int)).toNat) then kc v1 else kc (i : Int))))
def f_X3_nextFree_L4 (a0 : Nat) (M : ax_M) : Nat → Nat → Int → (Int → Int) → Int
  | 0, i, v1, kx => kx v1
  | n + 1, i, v1, kx => f_X3_nextFree_B4 a0 M i v1 (fun u1 => f_X3_nextFree_L4 a0 M n (i + 1) u1 kx) kx
set_option maxRecDepth 100000 in
set_option maxHeartbeats 4000000 in
theorem wb_X3_nextFree_B4 (d : Nat) (a0 : Nat) (M : ax_M) (i : Nat) (v1 : Int) (kc : Int → Int) (kx : Int → Int)  (hi : 0 ≤ i ∧ i < 16) (hv1 : (-1) ≤ v1 ∧ v1 ≤ 15) (hkc : ∀ (u1 : Int), (-1) ≤ u1 ∧ u1 ≤ 15 → ax_W ax_LM gX3_nextFree (d + 0) 4 [(0, (3, 274, (a0 : Int))), (1, (0, 0, u1)), (2, (0, 0, ((i : Int) + 1)))] [] M ((ax_qi (-1) 15 M) (kc u1))) (hkx : ∀ (x1 : Int), (((-1) ≤ x1 ∧ x1 ≤ 15)) → ax_W ax_LM gX3_nextFree (d + 0) 53 [(1, (0, 0, x1))] [] M ((ax_qi (-1) 15 M) (kx x1))) : ax_W ax_LM gX3_nextFree (d + 0) 10 [(0, (3, 274, (a0 : Int))), (1, (0, 0, v1)), (2, (0, 0, (i : Int)))] [] M ((ax_qi (-1) 15 M) (f_X3_nextFree_B4 a0 M i v1 kc kx)) := by
  unfold f_X3_nextFree_B4
  refine ax_lump ax_layM ok_kX3 [(10, .aload_n 0, 1, 0, 0, 0), (11, .sipush 192, 3, 0, 0, 0), (14, .iload_n 2, 1, 0, 0, 0), (15, .iadd, 1, 1, 0, 0), (16, .iaload, 1, 0, 0, 0)] (pc' := 17) (lc' := [(0, (3, 274, (a0 : Int))), (1, (0, 0, v1)), (2, (0, 0, (i : Int)))]) (st' := [(0, 0, (M a0 (192 + (i : Int)).toNat))]) (M' := M) (C' := ((True ∧ ax_r32 (192 + (i : Int))) ∧ (0 ≤ (192 + (i : Int)) ∧ (192 + (i : Int)) < ((274 : Nat) : Int)))) (by decide +kernel) rfl ⟨⟨trivial, ⟨by omega, by omega⟩⟩, by omega⟩ ?_
  refine ax_zne (off := 28) (tgt := 45) (by decide +kernel) (by decide) (fun h1 => ?_) (fun h1 => ?_)
  · refine ax_lump ax_layM ok_kX3 [(45, .iload_n 1, 1, 0, 0, 0), (46, .istore_n 1, 1, 0, 0, 0), (47, .iinc 2 1, 3, 1, 0, 0), (50, .goto (-46), 3, 4, 0, 0)] (pc' := 4) (lc' := [(2, (0, 0, ((i : Int) + 1))), (1, (0, 0, v1)), (0, (3, 274, (a0 : Int)))]) (st' := []) (M' := M) (C' := (True ∧ ax_r32 ((i : Int) + 1))) (by decide +kernel) rfl ⟨trivial, ⟨by omega, by omega⟩⟩ ?_
    refine ax_pk [2,1,0] (lc' := [(0, (3, 274, (a0 : Int))), (1, (0, 0, v1)), (2, (0, 0, ((i : Int) + 1)))]) rfl ?_
    exact hkc v1 (by omega)
  · refine ax_lump ax_layM ok_kX3 [(20, .iload_n 1, 1, 0, 0, 0)] (pc' := 21) (lc' := [(0, (3, 274, (a0 : Int))), (1, (0, 0, v1)), (2, (0, 0, (i : Int)))]) (st' := [(0, 0, v1)]) (M' := M) (C' := True) (by decide +kernel) rfl trivial ?_
    refine ax_zlt (off := 20) (tgt := 41) (by decide +kernel) (by decide) (fun h2 => ?_) (fun h2 => ?_)
    · refine ax_lump ax_layM ok_kX3 [(41, .iload_n 2, 1, 0, 0, 0), (42, .goto 4, 3, 46, 0, 0), (46, .istore_n 1, 1, 0, 0, 0), (47, .iinc 2 1, 3, 1, 0, 0), (50, .goto (-46), 3, 4, 0, 0)] (pc' := 4) (lc' := [(2, (0, 0, ((i : Int) + 1))), (1, (0, 0, (i : Int))), (0, (3, 274, (a0 : Int)))]) (st' := []) (M' := M) (C' := (True ∧ ax_r32 ((i : Int) + 1))) (by decide +kernel) rfl ⟨trivial, ⟨by omega, by omega⟩⟩ ?_
      refine ax_pk [2,1,0] (lc' := [(0, (3, 274, (a0 : Int))), (1, (0, 0, (i : Int))), (2, (0, 0, ((i : Int) + 1)))]) rfl ?_
      exact hkc (i : Int) (by omega)
    · refine ax_lump ax_layM ok_kX3 [(24, .aload_n 0, 1, 0, 0, 0), (25, .sipush 224, 3, 0, 0, 0), (28, .iload_n 2, 1, 0, 0, 0), (29, .iadd, 1, 1, 0, 0), (30, .iaload, 1, 0, 0, 0), (31, .aload_n 0, 1, 0, 0, 0), (32, .sipush 224, 3, 0, 0, 0), (35, .iload_n 1, 1, 0, 0, 0), (36, .iadd, 1, 1, 0, 0), (37, .iaload, 1, 0, 0, 0)] (pc' := 38) (lc' := [(0, (3, 274, (a0 : Int))), (1, (0, 0, v1)), (2, (0, 0, (i : Int)))]) (st' := [(0, 0, (M a0 (224 + v1).toNat)), (0, 0, (M a0 (224 + (i : Int)).toNat))]) (M' := M) (C' := ((((True ∧ ax_r32 (224 + (i : Int))) ∧ (0 ≤ (224 + (i : Int)) ∧ (224 + (i : Int)) < ((274 : Nat) : Int))) ∧ ax_r32 (224 + v1)) ∧ (0 ≤ (224 + v1) ∧ (224 + v1) < ((274 : Nat) : Int)))) (by decide +kernel) rfl ⟨⟨⟨⟨trivial, ⟨by omega, by omega⟩⟩, by omega⟩, ⟨by omega, by omega⟩⟩, by omega⟩ ?_
      refine ax_jge (off := 7) (tgt := 45) (by decide +kernel) (by decide) (fun h3 => ?_) (fun h3 => ?_)
      · refine ax_lump ax_layM ok_kX3 [(45, .iload_n 1, 1, 0, 0, 0), (46, .istore_n 1, 1, 0, 0, 0), (47, .iinc 2 1, 3, 1, 0, 0), (50, .goto (-46), 3, 4, 0, 0)] (pc' := 4) (lc' := [(2, (0, 0, ((i : Int) + 1))), (1, (0, 0, v1)), (0, (3, 274, (a0 : Int)))]) (st' := []) (M' := M) (C' := (True ∧ ax_r32 ((i : Int) + 1))) (by decide +kernel) rfl ⟨trivial, ⟨by omega, by omega⟩⟩ ?_
        refine ax_pk [2,1,0] (lc' := [(0, (3, 274, (a0 : Int))), (1, (0, 0, v1)), (2, (0, 0, ((i : Int) + 1)))]) rfl ?_
        exact hkc v1 (by omega)
      · refine ax_lump ax_layM ok_kX3 [(41, .iload_n 2, 1, 0, 0, 0), (42, .goto 4, 3, 46, 0, 0), (46, .istore_n 1, 1, 0, 0, 0), (47, .iinc 2 1, 3, 1, 0, 0), (50, .goto (-46), 3, 4, 0, 0)] (pc' := 4) (lc' := [(2, (0, 0, ((i : Int) + 1))), (1, (0, 0, (i : Int))), (0, (3, 274, (a0 : Int)))]) (st' := []) (M' := M) (C' := (True ∧ ax_r32 ((i : Int) + 1))) (by decide +kernel) rfl ⟨trivial, ⟨by omega, by omega⟩⟩ ?_
        refine ax_pk [2,1,0] (lc' := [(0, (3, 274, (a0 : Int))), (1, (0, 0, (i : Int))), (2, (0, 0, ((i : Int) + 1)))]) rfl ?_
        exact hkc (i : Int) (by omega)
set_option maxRecDepth 100000 in
set_option maxHeartbeats 4000000 in
theorem w_X3_nextFree_L4 (d : Nat) (a0 : Nat) (M : ax_M) (kx : Int → Int)  (hkx : ∀ (x1 : Int), (((-1) ≤ x1 ∧ x1 ≤ 15)) → ax_W ax_LM gX3_nextFree (d + 0) 53 [(1, (0, 0, x1))] [] M ((ax_qi (-1) 15 M) (kx x1))) : ∀ (n : Nat) (i : Nat) (v1 : Int), 0 ≤ i ∧ i + n = 16 → (-1) ≤ v1 ∧ v1 ≤ 15 → ax_W ax_LM gX3_nextFree (d + 0) 4 [(0, (3, 274, (a0 : Int))), (1, (0, 0, v1)), (2, (0, 0, (i : Int)))] [] M ((ax_qi (-1) 15 M) (f_X3_nextFree_L4 a0 M n i v1 kx)) := by
  intro n
  induction n with
  | zero =>
    intro i v1 hin hv1
    refine ax_lump ax_layM ok_kX3 [(4, .iload_n 2, 1, 0, 0, 0), (5, .bipush 16, 2, 0, 0, 0)] (pc' := 7) (lc' := [(0, (3, 274, (a0 : Int))), (1, (0, 0, v1)), (2, (0, 0, (i : Int)))]) (st' := [(0, 0, 16), (0, 0, (i : Int))]) (M' := M) (C' := True) (by decide +kernel) rfl trivial ?_
    refine ax_icmp_ge (off := 46) (tgt := 53) (by decide +kernel) (by decide) (fun h => ?_) (fun h => ?_)
    · refine ax_pk [1] (lc' := [(1, (0, 0, v1))]) rfl ?_
      exact hkx v1 (by omega)
    · exfalso; omega
  | succ n ih =>
    intro i v1 hin hv1
    refine ax_lump ax_layM ok_kX3 [(4, .iload_n 2, 1, 0, 0, 0), (5, .bipush 16, 2, 0, 0, 0)] (pc' := 7) (lc' := [(0, (3, 274, (a0 : Int))), (1, (0, 0, v1)), (2, (0, 0, (i : Int)))]) (st' := [(0, 0, 16), (0, 0, (i : Int))]) (M' := M) (C' := True) (by decide +kernel) rfl trivial ?_
    refine ax_icmp_ge (off := 46) (tgt := 53) (by decide +kernel) (by decide) (fun h => ?_) (fun h => ?_)
    · exfalso; omega
    · exact wb_X3_nextFree_B4 d a0 M i v1 _ kx  (by omega) hv1 (fun u1 hu1 => ih (i + 1) u1 (by omega) hu1) hkx
def f_X3_nextFree (a0 : Nat) (M : ax_M) : Int := f_X3_nextFree_L4 a0 M 16 0 (-1) (fun z4 => z4)
set_option maxRecDepth 100000 in
set_option maxHeartbeats 4000000 in
theorem c_X3_nextFree (d : Nat) (a0 : Nat) (M : ax_M)  : ax_Met ax_LM gX3_nextFree (d + 0) [(3, 274, (a0 : Int))] M ((ax_qi (-1) 15 M) (f_X3_nextFree a0 M)) := by
  refine ax_body (by decide) (fun X => Nat.le_of_ble_eq_true rfl) (fun hok => ?_)
  show ax_W ax_LM gX3_nextFree (d + 0) 0 [(0, (3, 274, (a0 : Int)))] [] M _
  unfold f_X3_nextFree
  refine ax_lump ax_layM ok_kX3 [(0, .iconst (-1), 1, 0, 0, 0), (1, .istore_n 1, 1, 0, 0, 0), (2, .iconst 0, 1, 0, 0, 0), (3, .istore_n 2, 1, 0, 0, 0)] (pc' := 4) (lc' := [(2, (0, 0, 0)), (1, (0, 0, (-1))), (0, (3, 274, (a0 : Int)))]) (st' := []) (M' := M) (C' := True) (by decide +kernel) rfl trivial ?_
  refine ax_pk [2,1,0] (lc' := [(0, (3, 274, (a0 : Int))), (1, (0, 0, (-1))), (2, (0, 0, 0))]) rfl ?_
  refine w_X3_nextFree_L4 d a0 M _  (fun z4 hx_4 => ?_) 16 0 (-1) (by omega) (by omega)
  refine ax_lump ax_layM ok_kX3 [(53, .iload_n 1, 1, 0, 0, 0)] (pc' := 54) (lc' := [(1, (0, 0, z4))]) (st' := [(0, 0, z4)]) (M' := M) (C' := True) (by decide +kernel) rfl trivial ?_
  exact ax_iret (by decide +kernel) rfl ⟨rfl, rfl, (show ((-1) : Int) ≤ z4 from by omega), (show z4 ≤ (15 : Int) from by omega)⟩
def f_X3_taken (a0 : Nat) (x1 : Int) (x2 : Int) (M : ax_M) : Int × ax_M := ax_bd (f_X3_nextFree a0 M) (fun y2 => ax_bd (ax_up M a0 (192 + y2).toNat x1) (fun M3 => ax_bd (ax_up M3 a0 (208 + y2).toNat x2) (fun M4 => (y2, M4))))
set_option maxRecDepth 100000 in
set_option maxHeartbeats 4000000 in
theorem c_X3_taken (d : Nat) (a0 : Nat) (x1 : Int) (x2 : Int) (M : ax_M)  : ax_Met ax_LM gX3_taken (d + 1) [(3, 274, (a0 : Int)), (0, 0, x1), (0, 0, x2)] M ((ax_qm (-1) 15) (f_X3_taken a0 x1 x2 M)) := by
  refine ax_body (by decide) (fun X => Nat.le_of_ble_eq_true rfl) (fun hok => ?_)
  have hr_x1 : (-2147483648) ≤ x1 ∧ x1 ≤ 2147483647 := hok (0, 0, x1) (by simp)
  have hr_x2 : (-2147483648) ≤ x2 ∧ x2 ≤ 2147483647 := hok (0, 0, x2) (by simp)
  show ax_W ax_LM gX3_taken (d + 1) 0 [(0, (3, 274, (a0 : Int))), (1, (0, 0, x1)), (2, (0, 0, x2))] [] M _
  unfold f_X3_taken
  refine ax_lump ax_layM ok_kX3 [(0, .aload_n 0, 1, 0, 0, 0)] (pc' := 1) (lc' := [(0, (3, 274, (a0 : Int))), (1, (0, 0, x1)), (2, (0, 0, x2))]) (st' := [(3, 274, (a0 : Int))]) (M' := M) (C' := True) (by decide +kernel) rfl trivial ?_
  refine ax_cSi (G1 := gX3_nextFree) (d1 := d + 0) (i := 220) (n := 1) (as := [(3, 274, (a0 : Int))]) (st := []) (by decide +kernel) calX3_nextFree (by omega) rfl wt_1158 wt_1159 (Nat.le_of_ble_eq_true rfl) rfl (c_X3_nextFree d a0 M) (fun hc1 => ?_)
  refine ax_lump ax_layM ok_kX3 [(4, .istore_n 3, 1, 0, 0, 0)] (pc' := 5) (lc' := [(3, (0, 0, (f_X3_nextFree a0 M))), (0, (3, 274, (a0 : Int))), (1, (0, 0, x1)), (2, (0, 0, x2))]) (st' := []) (M' := M) (C' := True) (by decide +kernel) rfl trivial ?_
  refine ax_bdI (lo := (-1)) (hi := 15) (e := (f_X3_nextFree a0 M)) (fun y2 => [(3, (0, 0, y2)), (0, (3, 274, (a0 : Int))), (1, (0, 0, x1)), (2, (0, 0, x2))]) (fun y2 => []) (by omega) (fun y2 h_y2 => ?_)
  refine ax_lump ax_layM ok_kX3 [(5, .aload_n 0, 1, 0, 0, 0), (6, .sipush 192, 3, 0, 0, 0), (9, .iload_n 3, 1, 0, 0, 0), (10, .iadd, 1, 1, 0, 0), (11, .iload_n 1, 1, 0, 0, 0), (12, .iastore, 1, 0, 0, 0)] (pc' := 13) (lc' := [(3, (0, 0, y2)), (0, (3, 274, (a0 : Int))), (1, (0, 0, x1)), (2, (0, 0, x2))]) (st' := []) (M' := (ax_up M a0 (192 + y2).toNat x1)) (C' := ((True ∧ ax_r32 (192 + y2)) ∧ (0 ≤ (192 + y2) ∧ (192 + y2) < ((274 : Nat) : Int)))) (by decide +kernel) rfl ⟨⟨trivial, ⟨by omega, by omega⟩⟩, by omega⟩ ?_
  refine ax_bdMe (fun M3 hM_M3 => ?_)
  refine ax_lump ax_layM ok_kX3 [(13, .aload_n 0, 1, 0, 0, 0), (14, .sipush 208, 3, 0, 0, 0), (17, .iload_n 3, 1, 0, 0, 0), (18, .iadd, 1, 1, 0, 0), (19, .iload_n 2, 1, 0, 0, 0), (20, .iastore, 1, 0, 0, 0)] (pc' := 21) (lc' := [(3, (0, 0, y2)), (0, (3, 274, (a0 : Int))), (1, (0, 0, x1)), (2, (0, 0, x2))]) (st' := []) (M' := (ax_up M3 a0 (208 + y2).toNat x2)) (C' := ((True ∧ ax_r32 (208 + y2)) ∧ (0 ≤ (208 + y2) ∧ (208 + y2) < ((274 : Nat) : Int)))) (by decide +kernel) rfl ⟨⟨trivial, ⟨by omega, by omega⟩⟩, by omega⟩ ?_
  refine ax_bdMe (fun M4 hM_M4 => ?_)
  refine ax_lump ax_layM ok_kX3 [(21, .iload_n 3, 1, 0, 0, 0)] (pc' := 22) (lc' := [(3, (0, 0, y2)), (0, (3, 274, (a0 : Int))), (1, (0, 0, x1)), (2, (0, 0, x2))]) (st' := [(0, 0, y2)]) (M' := M4) (C' := True) (by decide +kernel) rfl trivial ?_
  exact ax_iret (by decide +kernel) rfl ⟨rfl, rfl, (show ((-1) : Int) ≤ y2 from by omega), (show y2 ≤ (15 : Int) from by omega)⟩
def f_X3_isAny_B4 (a0 : Nat) (w1 : Int) (M : ax_M) (i : Nat) (v2 : Int) (kc : Int → Int) (kx : Int → Int) : Int := (if v2 ≠ 0 then kc 1 else (if (f_X3_isWritten a0 (i : Int) M) = 0 then kc 0 else (if (ax_div (f_X3_pageAt a0 (i : Int) M) 4) ≠ w1 then kc 0 else kc 1)))
def f_X3_isAny_L4 (a0 : Nat) (w1 : Int) (M : ax_M) : Nat → Nat → Int → (Int → Int) → Int
  | 0, i, v2, kx => kx v2
  | n + 1, i, v2, kx => f_X3_isAny_B4 a0 w1 M i v2 (fun u2 => f_X3_isAny_L4 a0 w1 M n (i + 1) u2 kx) kx
set_option maxRecDepth 100000 in
set_option maxHeartbeats 4000000 in
theorem wb_X3_isAny_B4 (d : Nat) (a0 : Nat) (w1 : Int) (M : ax_M) (i : Nat) (v2 : Int) (kc : Int → Int) (kx : Int → Int)  (hi : 0 ≤ i ∧ i < 64) (hv2 : 0 ≤ v2 ∧ v2 ≤ 1) (hkc : ∀ (u2 : Int), 0 ≤ u2 ∧ u2 ≤ 1 → ax_W ax_LM gX3_isAny (d + 1) 4 [(0, (3, 274, (a0 : Int))), (1, (0, 0, w1)), (2, (0, 0, u2)), (3, (0, 0, ((i : Int) + 1)))] [] M ((ax_qi 0 1 M) (kc u2))) (hkx : ∀ (x2 : Int), ((0 ≤ x2 ∧ x2 ≤ 1)) → ax_W ax_LM gX3_isAny (d + 1) 45 [(2, (0, 0, x2))] [] M ((ax_qi 0 1 M) (kx x2))) : ax_W ax_LM gX3_isAny (d + 1) 10 [(0, (3, 274, (a0 : Int))), (1, (0, 0, w1)), (2, (0, 0, v2)), (3, (0, 0, (i : Int)))] [] M ((ax_qi 0 1 M) (f_X3_isAny_B4 a0 w1 M i v2 kc kx)) := by
  unfold f_X3_isAny_B4
  refine ax_lump ax_layM ok_kX3 [(10, .iload_n 2, 1, 0, 0, 0)] (pc' := 11) (lc' := [(0, (3, 274, (a0 : Int))), (1, (0, 0, w1)), (2, (0, 0, v2)), (3, (0, 0, (i : Int)))]) (st' := [(0, 0, v2)]) (M' := M) (C' := True) (by decide +kernel) rfl trivial ?_
  refine ax_zne (off := 22) (tgt := 33) (by decide +kernel) (by decide) (fun h1 => ?_) (fun h1 => ?_)
  · refine ax_lump ax_layM ok_kX3 [(33, .iconst 1, 1, 0, 0, 0), (34, .goto 4, 3, 38, 0, 0), (38, .istore_n 2, 1, 0, 0, 0), (39, .iinc 3 1, 3, 1, 0, 0), (42, .goto (-38), 3, 4, 0, 0)] (pc' := 4) (lc' := [(3, (0, 0, ((i : Int) + 1))), (2, (0, 0, 1)), (0, (3, 274, (a0 : Int))), (1, (0, 0, w1))]) (st' := []) (M' := M) (C' := (True ∧ ax_r32 ((i : Int) + 1))) (by decide +kernel) rfl ⟨trivial, ⟨by omega, by omega⟩⟩ ?_
    refine ax_pk [2,3,1,0] (lc' := [(0, (3, 274, (a0 : Int))), (1, (0, 0, w1)), (2, (0, 0, 1)), (3, (0, 0, ((i : Int) + 1)))]) rfl ?_
    exact hkc 1 (by omega)
  · refine ax_lump ax_layM ok_kX3 [(14, .aload_n 0, 1, 0, 0, 0), (15, .iload_n 3, 1, 0, 0, 0)] (pc' := 16) (lc' := [(0, (3, 274, (a0 : Int))), (1, (0, 0, w1)), (2, (0, 0, v2)), (3, (0, 0, (i : Int)))]) (st' := [(0, 0, (i : Int)), (3, 274, (a0 : Int))]) (M' := M) (C' := True) (by decide +kernel) rfl trivial ?_
    refine ax_cSi (G1 := gX3_isWritten) (d1 := d + 0) (i := 195) (n := 2) (as := [(3, 274, (a0 : Int)), (0, 0, (i : Int))]) (st := []) (by decide +kernel) calX3_isWritten (by omega) rfl wt_1098 wt_1099 (Nat.le_of_ble_eq_true rfl) rfl (c_X3_isWritten d a0 (i : Int) M (by omega)) (fun hc2 => ?_)
    refine ax_zeq (off := 18) (tgt := 37) (by decide +kernel) (by decide) (fun h3 => ?_) (fun h3 => ?_)
    · refine ax_lump ax_layM ok_kX3 [(37, .iconst 0, 1, 0, 0, 0), (38, .istore_n 2, 1, 0, 0, 0), (39, .iinc 3 1, 3, 1, 0, 0), (42, .goto (-38), 3, 4, 0, 0)] (pc' := 4) (lc' := [(3, (0, 0, ((i : Int) + 1))), (2, (0, 0, 0)), (0, (3, 274, (a0 : Int))), (1, (0, 0, w1))]) (st' := []) (M' := M) (C' := (True ∧ ax_r32 ((i : Int) + 1))) (by decide +kernel) rfl ⟨trivial, ⟨by omega, by omega⟩⟩ ?_
      refine ax_pk [2,3,1,0] (lc' := [(0, (3, 274, (a0 : Int))), (1, (0, 0, w1)), (2, (0, 0, 0)), (3, (0, 0, ((i : Int) + 1)))]) rfl ?_
      exact hkc 0 (by omega)
    · refine ax_lump ax_layM ok_kX3 [(22, .aload_n 0, 1, 0, 0, 0), (23, .iload_n 3, 1, 0, 0, 0)] (pc' := 24) (lc' := [(0, (3, 274, (a0 : Int))), (1, (0, 0, w1)), (2, (0, 0, v2)), (3, (0, 0, (i : Int)))]) (st' := [(0, 0, (i : Int)), (3, 274, (a0 : Int))]) (M' := M) (C' := True) (by decide +kernel) rfl trivial ?_
      refine ax_cSi (G1 := gX3_pageAt) (d1 := d + 0) (i := 188) (n := 2) (as := [(3, 274, (a0 : Int)), (0, 0, (i : Int))]) (st := []) (by decide +kernel) calX3_pageAt (by omega) rfl wt_1104 wt_1105 (Nat.le_of_ble_eq_true rfl) rfl (c_X3_pageAt d a0 (i : Int) M (by omega)) (fun hc4 => ?_)
      refine ax_lump ax_layM ok_kX3 [(27, .iconst 4, 1, 0, 0, 0), (28, .idiv, 1, 0, 0, 0), (29, .iload_n 1, 1, 0, 0, 0)] (pc' := 30) (lc' := [(0, (3, 274, (a0 : Int))), (1, (0, 0, w1)), (2, (0, 0, v2)), (3, (0, 0, (i : Int)))]) (st' := [(0, 0, w1), (0, 0, (ax_div (f_X3_pageAt a0 (i : Int) M) 4))]) (M' := M) (C' := (True ∧ 4 ≠ 0)) (by decide +kernel) rfl ⟨trivial, by omega⟩ ?_
      refine ax_jne (off := 7) (tgt := 37) (by decide +kernel) (by decide) (fun h5 => ?_) (fun h5 => ?_)
      · refine ax_lump ax_layM ok_kX3 [(37, .iconst 0, 1, 0, 0, 0), (38, .istore_n 2, 1, 0, 0, 0), (39, .iinc 3 1, 3, 1, 0, 0), (42, .goto (-38), 3, 4, 0, 0)] (pc' := 4) (lc' := [(3, (0, 0, ((i : Int) + 1))), (2, (0, 0, 0)), (0, (3, 274, (a0 : Int))), (1, (0, 0, w1))]) (st' := []) (M' := M) (C' := (True ∧ ax_r32 ((i : Int) + 1))) (by decide +kernel) rfl ⟨trivial, ⟨by omega, by omega⟩⟩ ?_
        refine ax_pk [2,3,1,0] (lc' := [(0, (3, 274, (a0 : Int))), (1, (0, 0, w1)), (2, (0, 0, 0)), (3, (0, 0, ((i : Int) + 1)))]) rfl ?_
        exact hkc 0 (by omega)
      · refine ax_lump ax_layM ok_kX3 [(33, .iconst 1, 1, 0, 0, 0), (34, .goto 4, 3, 38, 0, 0), (38, .istore_n 2, 1, 0, 0, 0), (39, .iinc 3 1, 3, 1, 0, 0), (42, .goto (-38), 3, 4, 0, 0)] (pc' := 4) (lc' := [(3, (0, 0, ((i : Int) + 1))), (2, (0, 0, 1)), (0, (3, 274, (a0 : Int))), (1, (0, 0, w1))]) (st' := []) (M' := M) (C' := (True ∧ ax_r32 ((i : Int) + 1))) (by decide +kernel) rfl ⟨trivial, ⟨by omega, by omega⟩⟩ ?_
        refine ax_pk [2,3,1,0] (lc' := [(0, (3, 274, (a0 : Int))), (1, (0, 0, w1)), (2, (0, 0, 1)), (3, (0, 0, ((i : Int) + 1)))]) rfl ?_
        exact hkc 1 (by omega)
set_option maxRecDepth 100000 in
set_option maxHeartbeats 4000000 in
theorem w_X3_isAny_L4 (d : Nat) (a0 : Nat) (w1 : Int) (M : ax_M) (kx : Int → Int)  (hkx : ∀ (x2 : Int), ((0 ≤ x2 ∧ x2 ≤ 1)) → ax_W ax_LM gX3_isAny (d + 1) 45 [(2, (0, 0, x2))] [] M ((ax_qi 0 1 M) (kx x2))) : ∀ (n : Nat) (i : Nat) (v2 : Int), 0 ≤ i ∧ i + n = 64 → 0 ≤ v2 ∧ v2 ≤ 1 → ax_W ax_LM gX3_isAny (d + 1) 4 [(0, (3, 274, (a0 : Int))), (1, (0, 0, w1)), (2, (0, 0, v2)), (3, (0, 0, (i : Int)))] [] M ((ax_qi 0 1 M) (f_X3_isAny_L4 a0 w1 M n i v2 kx)) := by
  intro n
  induction n with
  | zero =>
    intro i v2 hin hv2
    refine ax_lump ax_layM ok_kX3 [(4, .iload_n 3, 1, 0, 0, 0), (5, .bipush 64, 2, 0, 0, 0)] (pc' := 7) (lc' := [(0, (3, 274, (a0 : Int))), (1, (0, 0, w1)), (2, (0, 0, v2)), (3, (0, 0, (i : Int)))]) (st' := [(0, 0, 64), (0, 0, (i : Int))]) (M' := M) (C' := True) (by decide +kernel) rfl trivial ?_
    refine ax_icmp_ge (off := 38) (tgt := 45) (by decide +kernel) (by decide) (fun h => ?_) (fun h => ?_)
    · refine ax_pk [2] (lc' := [(2, (0, 0, v2))]) rfl ?_
      exact hkx v2 (by omega)
    · exfalso; omega
  | succ n ih =>
    intro i v2 hin hv2
    refine ax_lump ax_layM ok_kX3 [(4, .iload_n 3, 1, 0, 0, 0), (5, .bipush 64, 2, 0, 0, 0)] (pc' := 7) (lc' := [(0, (3, 274, (a0 : Int))), (1, (0, 0, w1)), (2, (0, 0, v2)), (3, (0, 0, (i : Int)))]) (st' := [(0, 0, 64), (0, 0, (i : Int))]) (M' := M) (C' := True) (by decide +kernel) rfl trivial ?_
    refine ax_icmp_ge (off := 38) (tgt := 45) (by decide +kernel) (by decide) (fun h => ?_) (fun h => ?_)
    · exfalso; omega
    · exact wb_X3_isAny_B4 d a0 w1 M i v2 _ kx  (by omega) hv2 (fun u2 hu2 => ih (i + 1) u2 (by omega) hu2) hkx
def f_X3_isAny (a0 : Nat) (x1 : Int) (M : ax_M) : Int := f_X3_isAny_L4 a0 x1 M 64 0 0 (fun z6 => z6)
set_option maxRecDepth 100000 in
set_option maxHeartbeats 4000000 in
theorem c_X3_isAny (d : Nat) (a0 : Nat) (x1 : Int) (M : ax_M)  : ax_Met ax_LM gX3_isAny (d + 1) [(3, 274, (a0 : Int)), (0, 0, x1)] M ((ax_qi 0 1 M) (f_X3_isAny a0 x1 M)) := by
  refine ax_body (by decide) (fun X => Nat.le_of_ble_eq_true rfl) (fun hok => ?_)
  have hr_x1 : (-2147483648) ≤ x1 ∧ x1 ≤ 2147483647 := hok (0, 0, x1) (by simp)
  show ax_W ax_LM gX3_isAny (d + 1) 0 [(0, (3, 274, (a0 : Int))), (1, (0, 0, x1))] [] M _
  unfold f_X3_isAny
  refine ax_lump ax_layM ok_kX3 [(0, .iconst 0, 1, 0, 0, 0), (1, .istore_n 2, 1, 0, 0, 0), (2, .iconst 0, 1, 0, 0, 0), (3, .istore_n 3, 1, 0, 0, 0)] (pc' := 4) (lc' := [(3, (0, 0, 0)), (2, (0, 0, 0)), (0, (3, 274, (a0 : Int))), (1, (0, 0, x1))]) (st' := []) (M' := M) (C' := True) (by decide +kernel) rfl trivial ?_
  refine ax_pk [2,3,1,0] (lc' := [(0, (3, 274, (a0 : Int))), (1, (0, 0, x1)), (2, (0, 0, 0)), (3, (0, 0, 0))]) rfl ?_
  refine w_X3_isAny_L4 d a0 x1 M _  (fun z6 hx_6 => ?_) 64 0 0 (by omega) (by omega)
  refine ax_lump ax_layM ok_kX3 [(45, .iload_n 2, 1, 0, 0, 0)] (pc' := 46) (lc' := [(2, (0, 0, z6))]) (st' := [(0, 0, z6)]) (M' := M) (C' := True) (by decide +kernel) rfl trivial ?_
  exact ax_zret (by decide +kernel) rfl (by omega) ⟨rfl, rfl, (show (0 : Int) ≤ z6 from by omega), (show z6 ≤ (1 : Int) from by omega)⟩
def f_X3_copiesLatest_B3 (a1 : Nat) (w2 : Int) (w4 : Int) (i : Int)  (M : ax_M) (kc : ax_M → Prop × ax_M) (kx : ax_M → Prop × ax_M) : Prop × ax_M := ax_bd (f_X3_latest a1 (ax_wr ((ax_wr (4 * w2)) + i)) M) (fun y2 => (if y2 < 0 then kc M else ax_rq ((0 ≤ (ax_wr ((ax_wr (4 * w4)) + i)) ∧ (ax_wr ((ax_wr (4 * w4)) + i)) ≤ 63)) (ax_bd (f_X3_copiesLeaf a1 y2 (ax_wr ((ax_wr (4 * w4)) + i)) M) (fun M5 => kc M5))))
def f_X3_copiesLatest_L3 (a1 : Nat) (w2 : Int) (w4 : Int) : Nat → Int → ax_M → (ax_M → Prop × ax_M) → Prop × ax_M
  | 0, i, M, kx => kx M
  | n + 1, i, M, kx => f_X3_copiesLatest_B3 a1 w2 w4 i  M (fun M9 => f_X3_copiesLatest_L3 a1 w2 w4 n (i + 1) M9 kx) kx
set_option maxRecDepth 100000 in
set_option maxHeartbeats 4000000 in
theorem wb_X3_copiesLatest_B3 (d : Nat) (a1 : Nat) (w2 : Int) (w4 : Int) (i : Int)  (M : ax_M) (kc : ax_M → Prop × ax_M) (kx : ax_M → Prop × ax_M)  (hi : 0 ≤ i ∧ i < 4)  (hkc : ∀ (M9 : ax_M), (kc M9).1 → ax_W ax_LM gX3_copiesLatest (d + 3) 3 [(0, (2, 3, 0)), (1, (3, 274, (a1 : Int))), (2, (0, 0, w2)), (4, (0, 0, w4)), (5, (0, 0, (i + 1)))] [] M9 (ax_qv (kc M9).2)) (hkx : ∀ (M9 : ax_M), (True) → (kx M9).1 → ax_W ax_LM gX3_copiesLatest (d + 3) 46 [] [] M9 (ax_qv (kx M9).2)) (hX : (f_X3_copiesLatest_B3 a1 w2 w4 i  M kc kx).1) : ax_W ax_LM gX3_copiesLatest (d + 3) 9 [(0, (2, 3, 0)), (1, (3, 274, (a1 : Int))), (2, (0, 0, w2)), (4, (0, 0, w4)), (5, (0, 0, i))] [] M (ax_qv (f_X3_copiesLatest_B3 a1 w2 w4 i  M kc kx).2) := by
  unfold f_X3_copiesLatest_B3 at hX ⊢
  refine ax_lump ax_layM ok_kX3 [(9, .aload_n 1, 1, 0, 0, 0), (10, .iconst 4, 1, 0, 0, 0), (11, .iload_n 2, 1, 0, 0, 0), (12, .imul, 1, 0, 0, 0), (13, .iload 5, 2, 0, 0, 0), (15, .iadd, 1, 0, 0, 0)] (pc' := 16) (lc' := [(0, (2, 3, 0)), (1, (3, 274, (a1 : Int))), (2, (0, 0, w2)), (4, (0, 0, w4)), (5, (0, 0, i))]) (st' := [(0, 0, (ax_wr ((ax_wr (4 * w2)) + i))), (3, 274, (a1 : Int))]) (M' := M) (C' := True) (by decide +kernel) rfl trivial ?_
  refine ax_cSi (G1 := gX3_latest) (d1 := d + 2) (i := 199) (n := 2) (as := [(3, 274, (a1 : Int)), (0, 0, (ax_wr ((ax_wr (4 * w2)) + i)))]) (st := []) (by decide +kernel) calX3_latest (by omega) rfl wt_1107 wt_1108 (Nat.le_of_ble_eq_true rfl) rfl (c_X3_latest d a1 (ax_wr ((ax_wr (4 * w2)) + i)) M) (fun hc1 => ?_)
  refine ax_lump ax_layM ok_kX3 [(19, .istore 6, 2, 0, 0, 0)] (pc' := 21) (lc' := [(6, (0, 0, (f_X3_latest a1 (ax_wr ((ax_wr (4 * w2)) + i)) M))), (0, (2, 3, 0)), (1, (3, 274, (a1 : Int))), (2, (0, 0, w2)), (4, (0, 0, w4)), (5, (0, 0, i))]) (st' := []) (M' := M) (C' := True) (by decide +kernel) rfl trivial ?_
  refine ax_bdI_s hX (lo := (-1)) (hi := 63) (e := (f_X3_latest a1 (ax_wr ((ax_wr (4 * w2)) + i)) M)) (fun y2 => [(6, (0, 0, y2)), (0, (2, 3, 0)), (1, (3, 274, (a1 : Int))), (2, (0, 0, w2)), (4, (0, 0, w4)), (5, (0, 0, i))]) (fun y2 => []) (by omega) (fun y2 h_y2 hX => ?_)
  refine ax_lump ax_layM ok_kX3 [(21, .iload 6, 2, 0, 0, 0)] (pc' := 23) (lc' := [(6, (0, 0, y2)), (0, (2, 3, 0)), (1, (3, 274, (a1 : Int))), (2, (0, 0, w2)), (4, (0, 0, w4)), (5, (0, 0, i))]) (st' := [(0, 0, y2)]) (M' := M) (C' := True) (by decide +kernel) rfl trivial ?_
  refine ax_zlt_s hX (off := 17) (tgt := 40) (by decide +kernel) (by decide) (fun h3 hX => ?_) (fun h3 hX => ?_)
  · refine ax_lump ax_layM ok_kX3 [(40, .iinc 5 1, 3, 1, 0, 0), (43, .goto (-40), 3, 3, 0, 0)] (pc' := 3) (lc' := [(5, (0, 0, (i + 1))), (6, (0, 0, y2)), (0, (2, 3, 0)), (1, (3, 274, (a1 : Int))), (2, (0, 0, w2)), (4, (0, 0, w4))]) (st' := []) (M' := M) (C' := (True ∧ ax_r32 (i + 1))) (by decide +kernel) rfl ⟨trivial, ⟨by omega, by omega⟩⟩ ?_
    refine ax_pk [2,3,4,5,0] (lc' := [(0, (2, 3, 0)), (1, (3, 274, (a1 : Int))), (2, (0, 0, w2)), (4, (0, 0, w4)), (5, (0, 0, (i + 1)))]) rfl ?_
    exact hkc M  hX
  · refine ax_rq_s hX (fun hS4 hX => ?_)
    refine ax_lump ax_layM ok_kX3 [(26, .aload_n 0, 1, 0, 0, 0), (27, .aload_n 1, 1, 0, 0, 0), (28, .iload 6, 2, 0, 0, 0), (30, .iconst 4, 1, 0, 0, 0), (31, .iload 4, 2, 0, 0, 0), (33, .imul, 1, 0, 0, 0), (34, .iload 5, 2, 0, 0, 0), (36, .iadd, 1, 0, 0, 0)] (pc' := 37) (lc' := [(6, (0, 0, y2)), (0, (2, 3, 0)), (1, (3, 274, (a1 : Int))), (2, (0, 0, w2)), (4, (0, 0, w4)), (5, (0, 0, i))]) (st' := [(0, 0, (ax_wr ((ax_wr (4 * w4)) + i))), (0, 0, y2), (3, 274, (a1 : Int)), (2, 3, 0)]) (M' := M) (C' := True) (by decide +kernel) rfl trivial ?_
    refine ax_cVv_s hX (G1 := gX3_copiesLeaf) (d1 := d + 2) (i := 224) (n := 3) (as := [(3, 274, (a1 : Int)), (0, 0, y2), (0, 0, (ax_wr ((ax_wr (4 * w4)) + i)))]) (st := []) (c := 3) (a := 0) (by decide +kernel) ax_cls3 calX3_copiesLeaf (by omega) rfl wt_1176 wt_1178 ws_88 (Nat.le_of_ble_eq_true rfl) rfl (c_X3_copiesLeaf d a1 y2 (ax_wr ((ax_wr (4 * w4)) + i)) M (by omega) (hS4)) (fun M5 hX => ?_)
    refine ax_lump ax_layM ok_kX3 [(40, .iinc 5 1, 3, 1, 0, 0), (43, .goto (-40), 3, 3, 0, 0)] (pc' := 3) (lc' := [(5, (0, 0, (i + 1))), (6, (0, 0, y2)), (0, (2, 3, 0)), (1, (3, 274, (a1 : Int))), (2, (0, 0, w2)), (4, (0, 0, w4))]) (st' := []) (M' := M5) (C' := (True ∧ ax_r32 (i + 1))) (by decide +kernel) rfl ⟨trivial, ⟨by omega, by omega⟩⟩ ?_
    refine ax_pk [2,3,4,5,0] (lc' := [(0, (2, 3, 0)), (1, (3, 274, (a1 : Int))), (2, (0, 0, w2)), (4, (0, 0, w4)), (5, (0, 0, (i + 1)))]) rfl ?_
    exact hkc M5  hX
set_option maxRecDepth 100000 in
set_option maxHeartbeats 4000000 in
theorem w_X3_copiesLatest_L3 (d : Nat) (a1 : Nat) (w2 : Int) (w4 : Int) (kx : ax_M → Prop × ax_M)  (hkx : ∀ (M9 : ax_M), (True) → (kx M9).1 → ax_W ax_LM gX3_copiesLatest (d + 3) 46 [] [] M9 (ax_qv (kx M9).2)) : ∀ (n : Nat) (i : Int) (M : ax_M), 0 ≤ i ∧ n = (4 - i).toNat → (f_X3_copiesLatest_L3 a1 w2 w4 n i  M kx).1 → ax_W ax_LM gX3_copiesLatest (d + 3) 3 [(0, (2, 3, 0)), (1, (3, 274, (a1 : Int))), (2, (0, 0, w2)), (4, (0, 0, w4)), (5, (0, 0, i))] [] M (ax_qv (f_X3_copiesLatest_L3 a1 w2 w4 n i  M kx).2) := by
  intro n
  induction n with
  | zero =>
    intro i M hin hX
    refine ax_lump ax_layM ok_kX3 [(3, .iload 5, 2, 0, 0, 0), (5, .iconst 4, 1, 0, 0, 0)] (pc' := 6) (lc' := [(0, (2, 3, 0)), (1, (3, 274, (a1 : Int))), (2, (0, 0, w2)), (4, (0, 0, w4)), (5, (0, 0, i))]) (st' := [(0, 0, 4), (0, 0, i)]) (M' := M) (C' := True) (by decide +kernel) rfl trivial ?_
    refine ax_icmp_ge (off := 40) (tgt := 46) (by decide +kernel) (by decide) (fun h => ?_) (fun h => ?_)
    · refine ax_pk [] (lc' := []) rfl ?_
      exact hkx M trivial hX
    · exfalso; omega
  | succ n ih =>
    intro i M hin hX
    refine ax_lump ax_layM ok_kX3 [(3, .iload 5, 2, 0, 0, 0), (5, .iconst 4, 1, 0, 0, 0)] (pc' := 6) (lc' := [(0, (2, 3, 0)), (1, (3, 274, (a1 : Int))), (2, (0, 0, w2)), (4, (0, 0, w4)), (5, (0, 0, i))]) (st' := [(0, 0, 4), (0, 0, i)]) (M' := M) (C' := True) (by decide +kernel) rfl trivial ?_
    refine ax_icmp_ge (off := 40) (tgt := 46) (by decide +kernel) (by decide) (fun h => ?_) (fun h => ?_)
    · exfalso; omega
    · exact wb_X3_copiesLatest_B3 d a1 w2 w4 i  M _ kx  (by omega)  (fun M9 hX => ih (i + 1)  M9 (by omega)  hX) hkx hX
def f_X3_copiesLatest (a1 : Nat) (x2 : Int) (x3 : Int) (x4 : Int) (M : ax_M) : Prop × ax_M := f_X3_copiesLatest_L3 a1 x2 x4 (4 - x3).toNat x3  M (fun M6 => (True, M6))
set_option maxRecDepth 100000 in
set_option maxHeartbeats 4000000 in
theorem c_X3_copiesLatest (d : Nat) (a1 : Nat) (x2 : Int) (x3 : Int) (x4 : Int) (M : ax_M) (hp2 : 0 ≤ x3 ∧ x3 ≤ 4) (hX : (f_X3_copiesLatest a1 x2 x3 x4 M).1) : ax_Met ax_LM gX3_copiesLatest (d + 3) [(2, 3, 0), (3, 274, (a1 : Int)), (0, 0, x2), (0, 0, x3), (0, 0, x4)] M (ax_qv (f_X3_copiesLatest a1 x2 x3 x4 M).2) := by
  refine ax_body (by decide) (fun X => Nat.le_of_ble_eq_true rfl) (fun hok => ?_)
  have hr_x2 : (-2147483648) ≤ x2 ∧ x2 ≤ 2147483647 := hok (0, 0, x2) (by simp)
  have hr_x3 : (-2147483648) ≤ x3 ∧ x3 ≤ 2147483647 := hok (0, 0, x3) (by simp)
  have hr_x4 : (-2147483648) ≤ x4 ∧ x4 ≤ 2147483647 := hok (0, 0, x4) (by simp)
  show ax_W ax_LM gX3_copiesLatest (d + 3) 0 [(0, (2, 3, 0)), (1, (3, 274, (a1 : Int))), (2, (0, 0, x2)), (3, (0, 0, x3)), (4, (0, 0, x4))] [] M _
  unfold f_X3_copiesLatest at hX ⊢
  refine ax_lump ax_layM ok_kX3 [(0, .iload_n 3, 1, 0, 0, 0), (1, .istore 5, 2, 0, 0, 0)] (pc' := 3) (lc' := [(5, (0, 0, x3)), (0, (2, 3, 0)), (1, (3, 274, (a1 : Int))), (2, (0, 0, x2)), (3, (0, 0, x3)), (4, (0, 0, x4))]) (st' := []) (M' := M) (C' := True) (by decide +kernel) rfl trivial ?_
  refine ax_pk [1,2,3,5,0] (lc' := [(0, (2, 3, 0)), (1, (3, 274, (a1 : Int))), (2, (0, 0, x2)), (4, (0, 0, x4)), (5, (0, 0, x3))]) rfl ?_
  refine w_X3_copiesLatest_L3 d a1 x2 x4 _  (fun M6 hx_6 hX => ?_) (4 - x3).toNat x3  M (by omega)  hX
  exact ax_vret (by decide +kernel) rfl ⟨rfl, rfl⟩
def f_X3_mergesAll_J36 (a1 : Nat) (j2 : Int) (j3 : Int) (j4 : Int) (j5 : Int) (M : ax_M) : Prop × Int × ax_M := ax_rc (f_X3_copiesLatest a1 j2 0 j5 M) (fun M7 => (if j3 < 0 then (if j4 < 0 then ax_bd (f_X3_counts a1 269 M7) (fun M10 => (True, (j5, M10))) else ax_bd (f_X3_wipes a1 j4 M7) (fun M11 => ax_bd (f_X3_counts a1 269 M11) (fun M12 => (True, (j5, M12))))) else ax_bd (f_X3_wipes a1 j3 M7) (fun M13 => (if j4 < 0 then ax_bd (f_X3_counts a1 269 M13) (fun M15 => (True, (j5, M15))) else ax_bd (f_X3_wipes a1 j4 M13) (fun M16 => ax_bd (f_X3_counts a1 269 M16) (fun M17 => (True, (j5, M17))))))))
set_option maxRecDepth 100000 in
set_option maxHeartbeats 4000000 in
theorem w_X3_mergesAll_J36 (d : Nat) (a1 : Nat) (j2 : Int) (j3 : Int) (j4 : Int) (j5 : Int) (M : ax_M) (hw_j3 : (-1) ≤ j3 ∧ j3 ≤ 15) (hw_j4 : (-1) ≤ j4 ∧ j4 ≤ 15) (hw_j5 : (-1) ≤ j5 ∧ j5 ≤ 15) (hX : (f_X3_mergesAll_J36 a1 j2 j3 j4 j5 M).1) : ax_W ax_LM gX3_mergesAll (d + 4) 36 [(0, (2, 3, 0)), (1, (3, 274, (a1 : Int))), (2, (0, 0, j2)), (3, (0, 0, j3)), (4, (0, 0, j4)), (5, (0, 0, j5))] [] M ((ax_qm (-1) 15) (f_X3_mergesAll_J36 a1 j2 j3 j4 j5 M).2) := by
  unfold f_X3_mergesAll_J36 at hX ⊢
  refine ax_lump ax_layM ok_kX3 [(36, .aload_n 0, 1, 0, 0, 0), (37, .aload_n 1, 1, 0, 0, 0), (38, .iload_n 2, 1, 0, 0, 0), (39, .iconst 0, 1, 0, 0, 0), (40, .iload 5, 2, 0, 0, 0)] (pc' := 42) (lc' := [(0, (2, 3, 0)), (1, (3, 274, (a1 : Int))), (2, (0, 0, j2)), (3, (0, 0, j3)), (4, (0, 0, j4)), (5, (0, 0, j5))]) (st' := [(0, 0, j5), (0, 0, 0), (0, 0, j2), (3, 274, (a1 : Int)), (2, 3, 0)]) (M' := M) (C' := True) (by decide +kernel) rfl trivial ?_
  refine ax_cVv_r hX (G1 := gX3_copiesLatest) (d1 := d + 3) (i := 235) (n := 4) (as := [(3, 274, (a1 : Int)), (0, 0, j2), (0, 0, 0), (0, 0, j5)]) (st := []) (c := 3) (a := 0) (by decide +kernel) ax_cls3 calX3_copiesLatest (by omega) rfl wt_1172 wt_1174 ws_87 (Nat.le_of_ble_eq_true rfl) rfl (fun hY => c_X3_copiesLatest d a1 j2 0 j5 M (by omega) hY) (fun M7 hX => ?_)
  refine ax_lump ax_layM ok_kX3 [(45, .iload_n 3, 1, 0, 0, 0)] (pc' := 46) (lc' := [(0, (2, 3, 0)), (1, (3, 274, (a1 : Int))), (2, (0, 0, j2)), (3, (0, 0, j3)), (4, (0, 0, j4)), (5, (0, 0, j5))]) (st' := [(0, 0, j3)]) (M' := M7) (C' := True) (by decide +kernel) rfl trivial ?_
  refine ax_zlt_s hX (off := 9) (tgt := 55) (by decide +kernel) (by decide) (fun h8 hX => ?_) (fun h8 hX => ?_)
  · refine ax_lump ax_layM ok_kX3 [(55, .iload 4, 2, 0, 0, 0)] (pc' := 57) (lc' := [(0, (2, 3, 0)), (1, (3, 274, (a1 : Int))), (2, (0, 0, j2)), (3, (0, 0, j3)), (4, (0, 0, j4)), (5, (0, 0, j5))]) (st' := [(0, 0, j4)]) (M' := M7) (C' := True) (by decide +kernel) rfl trivial ?_
    refine ax_zlt_s hX (off := 10) (tgt := 67) (by decide +kernel) (by decide) (fun h9 hX => ?_) (fun h9 hX => ?_)
    · refine ax_lump ax_layM ok_kX3 [(67, .aload_n 1, 1, 0, 0, 0), (68, .sipush 269, 3, 0, 0, 0)] (pc' := 71) (lc' := [(0, (2, 3, 0)), (1, (3, 274, (a1 : Int))), (2, (0, 0, j2)), (3, (0, 0, j3)), (4, (0, 0, j4)), (5, (0, 0, j5))]) (st' := [(0, 0, 269), (3, 274, (a1 : Int))]) (M' := M7) (C' := True) (by decide +kernel) rfl trivial ?_
      refine ax_cSv_s hX (G1 := gX3_counts) (d1 := d + 1) (i := 214) (n := 2) (as := [(3, 274, (a1 : Int)), (0, 0, 269)]) (st := []) (by decide +kernel) calX3_counts (by omega) rfl wt_1188 wt_1189 (Nat.le_of_ble_eq_true rfl) rfl (c_X3_counts d a1 269 M7 (by omega)) (fun M10 hX => ?_)
      refine ax_lump ax_layM ok_kX3 [(74, .iload 5, 2, 0, 0, 0)] (pc' := 76) (lc' := [(0, (2, 3, 0)), (1, (3, 274, (a1 : Int))), (2, (0, 0, j2)), (3, (0, 0, j3)), (4, (0, 0, j4)), (5, (0, 0, j5))]) (st' := [(0, 0, j5)]) (M' := M10) (C' := True) (by decide +kernel) rfl trivial ?_
      exact ax_iret (by decide +kernel) rfl ⟨rfl, rfl, (show ((-1) : Int) ≤ j5 from by omega), (show j5 ≤ (15 : Int) from by omega)⟩
    · refine ax_lump ax_layM ok_kX3 [(60, .aload_n 0, 1, 0, 0, 0), (61, .aload_n 1, 1, 0, 0, 0), (62, .iload 4, 2, 0, 0, 0)] (pc' := 64) (lc' := [(0, (2, 3, 0)), (1, (3, 274, (a1 : Int))), (2, (0, 0, j2)), (3, (0, 0, j3)), (4, (0, 0, j4)), (5, (0, 0, j5))]) (st' := [(0, 0, j4), (3, 274, (a1 : Int)), (2, 3, 0)]) (M' := M7) (C' := True) (by decide +kernel) rfl trivial ?_
      refine ax_cVv_s hX (G1 := gX3_wipes) (d1 := d + 2) (i := 239) (n := 2) (as := [(3, 274, (a1 : Int)), (0, 0, j4)]) (st := []) (c := 3) (a := 0) (by decide +kernel) ax_cls3 calX3_wipes (by omega) rfl wt_1192 wt_1194 ws_91 (Nat.le_of_ble_eq_true rfl) rfl (c_X3_wipes d a1 j4 M7 (by omega)) (fun M11 hX => ?_)
      refine ax_lump ax_layM ok_kX3 [(67, .aload_n 1, 1, 0, 0, 0), (68, .sipush 269, 3, 0, 0, 0)] (pc' := 71) (lc' := [(0, (2, 3, 0)), (1, (3, 274, (a1 : Int))), (2, (0, 0, j2)), (3, (0, 0, j3)), (4, (0, 0, j4)), (5, (0, 0, j5))]) (st' := [(0, 0, 269), (3, 274, (a1 : Int))]) (M' := M11) (C' := True) (by decide +kernel) rfl trivial ?_
      refine ax_cSv_s hX (G1 := gX3_counts) (d1 := d + 1) (i := 214) (n := 2) (as := [(3, 274, (a1 : Int)), (0, 0, 269)]) (st := []) (by decide +kernel) calX3_counts (by omega) rfl wt_1188 wt_1189 (Nat.le_of_ble_eq_true rfl) rfl (c_X3_counts d a1 269 M11 (by omega)) (fun M12 hX => ?_)
      refine ax_lump ax_layM ok_kX3 [(74, .iload 5, 2, 0, 0, 0)] (pc' := 76) (lc' := [(0, (2, 3, 0)), (1, (3, 274, (a1 : Int))), (2, (0, 0, j2)), (3, (0, 0, j3)), (4, (0, 0, j4)), (5, (0, 0, j5))]) (st' := [(0, 0, j5)]) (M' := M12) (C' := True) (by decide +kernel) rfl trivial ?_
      exact ax_iret (by decide +kernel) rfl ⟨rfl, rfl, (show ((-1) : Int) ≤ j5 from by omega), (show j5 ≤ (15 : Int) from by omega)⟩
  · refine ax_lump ax_layM ok_kX3 [(49, .aload_n 0, 1, 0, 0, 0), (50, .aload_n 1, 1, 0, 0, 0), (51, .iload_n 3, 1, 0, 0, 0)] (pc' := 52) (lc' := [(0, (2, 3, 0)), (1, (3, 274, (a1 : Int))), (2, (0, 0, j2)), (3, (0, 0, j3)), (4, (0, 0, j4)), (5, (0, 0, j5))]) (st' := [(0, 0, j3), (3, 274, (a1 : Int)), (2, 3, 0)]) (M' := M7) (C' := True) (by decide +kernel) rfl trivial ?_
    refine ax_cVv_s hX (G1 := gX3_wipes) (d1 := d + 2) (i := 239) (n := 2) (as := [(3, 274, (a1 : Int)), (0, 0, j3)]) (st := []) (c := 3) (a := 0) (by decide +kernel) ax_cls3 calX3_wipes (by omega) rfl wt_1192 wt_1194 ws_91 (Nat.le_of_ble_eq_true rfl) rfl (c_X3_wipes d a1 j3 M7 (by omega)) (fun M13 hX => ?_)
    refine ax_lump ax_layM ok_kX3 [(55, .iload 4, 2, 0, 0, 0)] (pc' := 57) (lc' := [(0, (2, 3, 0)), (1, (3, 274, (a1 : Int))), (2, (0, 0, j2)), (3, (0, 0, j3)), (4, (0, 0, j4)), (5, (0, 0, j5))]) (st' := [(0, 0, j4)]) (M' := M13) (C' := True) (by decide +kernel) rfl trivial ?_
    refine ax_zlt_s hX (off := 10) (tgt := 67) (by decide +kernel) (by decide) (fun h14 hX => ?_) (fun h14 hX => ?_)
    · refine ax_lump ax_layM ok_kX3 [(67, .aload_n 1, 1, 0, 0, 0), (68, .sipush 269, 3, 0, 0, 0)] (pc' := 71) (lc' := [(0, (2, 3, 0)), (1, (3, 274, (a1 : Int))), (2, (0, 0, j2)), (3, (0, 0, j3)), (4, (0, 0, j4)), (5, (0, 0, j5))]) (st' := [(0, 0, 269), (3, 274, (a1 : Int))]) (M' := M13) (C' := True) (by decide +kernel) rfl trivial ?_
      refine ax_cSv_s hX (G1 := gX3_counts) (d1 := d + 1) (i := 214) (n := 2) (as := [(3, 274, (a1 : Int)), (0, 0, 269)]) (st := []) (by decide +kernel) calX3_counts (by omega) rfl wt_1188 wt_1189 (Nat.le_of_ble_eq_true rfl) rfl (c_X3_counts d a1 269 M13 (by omega)) (fun M15 hX => ?_)
      refine ax_lump ax_layM ok_kX3 [(74, .iload 5, 2, 0, 0, 0)] (pc' := 76) (lc' := [(0, (2, 3, 0)), (1, (3, 274, (a1 : Int))), (2, (0, 0, j2)), (3, (0, 0, j3)), (4, (0, 0, j4)), (5, (0, 0, j5))]) (st' := [(0, 0, j5)]) (M' := M15) (C' := True) (by decide +kernel) rfl trivial ?_
      exact ax_iret (by decide +kernel) rfl ⟨rfl, rfl, (show ((-1) : Int) ≤ j5 from by omega), (show j5 ≤ (15 : Int) from by omega)⟩
    · refine ax_lump ax_layM ok_kX3 [(60, .aload_n 0, 1, 0, 0, 0), (61, .aload_n 1, 1, 0, 0, 0), (62, .iload 4, 2, 0, 0, 0)] (pc' := 64) (lc' := [(0, (2, 3, 0)), (1, (3, 274, (a1 : Int))), (2, (0, 0, j2)), (3, (0, 0, j3)), (4, (0, 0, j4)), (5, (0, 0, j5))]) (st' := [(0, 0, j4), (3, 274, (a1 : Int)), (2, 3, 0)]) (M' := M13) (C' := True) (by decide +kernel) rfl trivial ?_
      refine ax_cVv_s hX (G1 := gX3_wipes) (d1 := d + 2) (i := 239) (n := 2) (as := [(3, 274, (a1 : Int)), (0, 0, j4)]) (st := []) (c := 3) (a := 0) (by decide +kernel) ax_cls3 calX3_wipes (by omega) rfl wt_1192 wt_1194 ws_91 (Nat.le_of_ble_eq_true rfl) rfl (c_X3_wipes d a1 j4 M13 (by omega)) (fun M16 hX => ?_)
      refine ax_lump ax_layM ok_kX3 [(67, .aload_n 1, 1, 0, 0, 0), (68, .sipush 269, 3, 0, 0, 0)] (pc' := 71) (lc' := [(0, (2, 3, 0)), (1, (3, 274, (a1 : Int))), (2, (0, 0, j2)), (3, (0, 0, j3)), (4, (0, 0, j4)), (5, (0, 0, j5))]) (st' := [(0, 0, 269), (3, 274, (a1 : Int))]) (M' := M16) (C' := True) (by decide +kernel) rfl trivial ?_
      refine ax_cSv_s hX (G1 := gX3_counts) (d1 := d + 1) (i := 214) (n := 2) (as := [(3, 274, (a1 : Int)), (0, 0, 269)]) (st := []) (by decide +kernel) calX3_counts (by omega) rfl wt_1188 wt_1189 (Nat.le_of_ble_eq_true rfl) rfl (c_X3_counts d a1 269 M16 (by omega)) (fun M17 hX => ?_)
      refine ax_lump ax_layM ok_kX3 [(74, .iload 5, 2, 0, 0, 0)] (pc' := 76) (lc' := [(0, (2, 3, 0)), (1, (3, 274, (a1 : Int))), (2, (0, 0, j2)), (3, (0, 0, j3)), (4, (0, 0, j4)), (5, (0, 0, j5))]) (st' := [(0, 0, j5)]) (M' := M17) (C' := True) (by decide +kernel) rfl trivial ?_
      exact ax_iret (by decide +kernel) rfl ⟨rfl, rfl, (show ((-1) : Int) ≤ j5 from by omega), (show j5 ≤ (15 : Int) from by omega)⟩
def f_X3_mergesAll (a1 : Nat) (x2 : Int) (M : ax_M) : Prop × Int × ax_M := ax_bd (f_X3_blockOf a1 1 x2 M) (fun y2 => ax_bd (f_X3_blockOf a1 2 x2 M) (fun y4 => ax_bd (f_X3_taken a1 1 x2 M) (fun y5 => (if y2 < 0 then f_X3_mergesAll_J36 a1 x2 y2 y4 y5.1 y5.2 else ax_bd (ax_up y5.2 a1 (208 + y2).toNat 6) (fun M18 => f_X3_mergesAll_J36 a1 x2 y2 y4 y5.1 M18)))))
set_option maxRecDepth 100000 in
set_option maxHeartbeats 4000000 in
theorem c_X3_mergesAll (d : Nat) (a1 : Nat) (x2 : Int) (M : ax_M)  (hX : (f_X3_mergesAll a1 x2 M).1) : ax_Met ax_LM gX3_mergesAll (d + 4) [(2, 3, 0), (3, 274, (a1 : Int)), (0, 0, x2)] M ((ax_qm (-1) 15) (f_X3_mergesAll a1 x2 M).2) := by
  refine ax_body (by decide) (fun X => Nat.le_of_ble_eq_true rfl) (fun hok => ?_)
  have hr_x2 : (-2147483648) ≤ x2 ∧ x2 ≤ 2147483647 := hok (0, 0, x2) (by simp)
  show ax_W ax_LM gX3_mergesAll (d + 4) 0 [(0, (2, 3, 0)), (1, (3, 274, (a1 : Int))), (2, (0, 0, x2))] [] M _
  unfold f_X3_mergesAll at hX ⊢
  refine ax_lump ax_layM ok_kX3 [(0, .aload_n 1, 1, 0, 0, 0), (1, .iconst 1, 1, 0, 0, 0), (2, .iload_n 2, 1, 0, 0, 0)] (pc' := 3) (lc' := [(0, (2, 3, 0)), (1, (3, 274, (a1 : Int))), (2, (0, 0, x2))]) (st' := [(0, 0, x2), (0, 0, 1), (3, 274, (a1 : Int))]) (M' := M) (C' := True) (by decide +kernel) rfl trivial ?_
  refine ax_cSi (G1 := gX3_blockOf) (d1 := d + 0) (i := 228) (n := 3) (as := [(3, 274, (a1 : Int)), (0, 0, 1), (0, 0, x2)]) (st := []) (by decide +kernel) calX3_blockOf (by omega) rfl wt_1152 wt_1153 (Nat.le_of_ble_eq_true rfl) rfl (c_X3_blockOf d a1 1 x2 M) (fun hc1 => ?_)
  refine ax_lump ax_layM ok_kX3 [(6, .istore_n 3, 1, 0, 0, 0)] (pc' := 7) (lc' := [(3, (0, 0, (f_X3_blockOf a1 1 x2 M))), (0, (2, 3, 0)), (1, (3, 274, (a1 : Int))), (2, (0, 0, x2))]) (st' := []) (M' := M) (C' := True) (by decide +kernel) rfl trivial ?_
  refine ax_bdI_s hX (lo := (-1)) (hi := 15) (e := (f_X3_blockOf a1 1 x2 M)) (fun y2 => [(3, (0, 0, y2)), (0, (2, 3, 0)), (1, (3, 274, (a1 : Int))), (2, (0, 0, x2))]) (fun y2 => []) (by omega) (fun y2 h_y2 hX => ?_)
  refine ax_lump ax_layM ok_kX3 [(7, .aload_n 1, 1, 0, 0, 0), (8, .iconst 2, 1, 0, 0, 0), (9, .iload_n 2, 1, 0, 0, 0)] (pc' := 10) (lc' := [(3, (0, 0, y2)), (0, (2, 3, 0)), (1, (3, 274, (a1 : Int))), (2, (0, 0, x2))]) (st' := [(0, 0, x2), (0, 0, 2), (3, 274, (a1 : Int))]) (M' := M) (C' := True) (by decide +kernel) rfl trivial ?_
  refine ax_cSi (G1 := gX3_blockOf) (d1 := d + 0) (i := 228) (n := 3) (as := [(3, 274, (a1 : Int)), (0, 0, 2), (0, 0, x2)]) (st := []) (by decide +kernel) calX3_blockOf (by omega) rfl wt_1152 wt_1153 (Nat.le_of_ble_eq_true rfl) rfl (c_X3_blockOf d a1 2 x2 M) (fun hc3 => ?_)
  refine ax_lump ax_layM ok_kX3 [(13, .istore 4, 2, 0, 0, 0)] (pc' := 15) (lc' := [(4, (0, 0, (f_X3_blockOf a1 2 x2 M))), (3, (0, 0, y2)), (0, (2, 3, 0)), (1, (3, 274, (a1 : Int))), (2, (0, 0, x2))]) (st' := []) (M' := M) (C' := True) (by decide +kernel) rfl trivial ?_
  refine ax_bdI_s hX (lo := (-1)) (hi := 15) (e := (f_X3_blockOf a1 2 x2 M)) (fun y4 => [(4, (0, 0, y4)), (3, (0, 0, y2)), (0, (2, 3, 0)), (1, (3, 274, (a1 : Int))), (2, (0, 0, x2))]) (fun y4 => []) (by omega) (fun y4 h_y4 hX => ?_)
  refine ax_lump ax_layM ok_kX3 [(15, .aload_n 1, 1, 0, 0, 0), (16, .iconst 1, 1, 0, 0, 0), (17, .iload_n 2, 1, 0, 0, 0)] (pc' := 18) (lc' := [(4, (0, 0, y4)), (3, (0, 0, y2)), (0, (2, 3, 0)), (1, (3, 274, (a1 : Int))), (2, (0, 0, x2))]) (st' := [(0, 0, x2), (0, 0, 1), (3, 274, (a1 : Int))]) (M' := M) (C' := True) (by decide +kernel) rfl trivial ?_
  refine ax_cSm_s hX (G1 := gX3_taken) (d1 := d + 1) (i := 232) (n := 3) (as := [(3, 274, (a1 : Int)), (0, 0, 1), (0, 0, x2)]) (st := []) (by decide +kernel) calX3_taken (by omega) rfl wt_1155 wt_1156 (Nat.le_of_ble_eq_true rfl) rfl (c_X3_taken d a1 1 x2 M) (fun y5 h_y5 hX => ?_)
  refine ax_lump ax_layM ok_kX3 [(21, .istore 5, 2, 0, 0, 0), (23, .iload_n 3, 1, 0, 0, 0)] (pc' := 24) (lc' := [(5, (0, 0, y5.1)), (4, (0, 0, y4)), (3, (0, 0, y2)), (0, (2, 3, 0)), (1, (3, 274, (a1 : Int))), (2, (0, 0, x2))]) (st' := [(0, 0, y2)]) (M' := y5.2) (C' := True) (by decide +kernel) rfl trivial ?_
  refine ax_zlt_s hX (off := 12) (tgt := 36) (by decide +kernel) (by decide) (fun h6 hX => ?_) (fun h6 hX => ?_)
  · refine ax_pk [3,4,5,2,1,0] (lc' := [(0, (2, 3, 0)), (1, (3, 274, (a1 : Int))), (2, (0, 0, x2)), (3, (0, 0, y2)), (4, (0, 0, y4)), (5, (0, 0, y5.1))]) rfl ?_
    exact w_X3_mergesAll_J36 d a1 x2 y2 y4 y5.1 y5.2 (by omega) (by omega) (by omega) hX
  · refine ax_lump ax_layM ok_kX3 [(27, .aload_n 1, 1, 0, 0, 0), (28, .sipush 208, 3, 0, 0, 0), (31, .iload_n 3, 1, 0, 0, 0), (32, .iadd, 1, 1, 0, 0), (33, .bipush 6, 2, 0, 0, 0), (35, .iastore, 1, 0, 0, 0)] (pc' := 36) (lc' := [(5, (0, 0, y5.1)), (4, (0, 0, y4)), (3, (0, 0, y2)), (0, (2, 3, 0)), (1, (3, 274, (a1 : Int))), (2, (0, 0, x2))]) (st' := []) (M' := (ax_up y5.2 a1 (208 + y2).toNat 6)) (C' := ((True ∧ ax_r32 (208 + y2)) ∧ (0 ≤ (208 + y2) ∧ (208 + y2) < ((274 : Nat) : Int)))) (by decide +kernel) rfl ⟨⟨trivial, ⟨by omega, by omega⟩⟩, by omega⟩ ?_
    refine ax_bdMe_s hX (fun M18 hM_M18 hX => ?_)
    refine ax_pk [3,4,5,2,1,0] (lc' := [(0, (2, 3, 0)), (1, (3, 274, (a1 : Int))), (2, (0, 0, x2)), (3, (0, 0, y2)), (4, (0, 0, y4)), (5, (0, 0, y5.1))]) rfl ?_
    exact w_X3_mergesAll_J36 d a1 x2 y2 y4 y5.1 M18 (by omega) (by omega) (by omega) hX
def f_X3_sealsRun_B19 (a1 : Nat) (w2 : Int) (w3 : Int) (M : ax_M) (i : Nat) (v5 : Int) (kc : Int → Prop × Int × ax_M) (kx : Int → Int → Prop × Int × ax_M) : Prop × Int × ax_M := ax_rq ((0 ≤ ((4 * w2) + (i : Int)) ∧ ((4 * w2) + (i : Int)) ≤ 63)) ((if (f_X3_isWritten a1 ((4 * w2) + (i : Int)) M) = 0 then kx (i : Int) v5 else (if v5 = 0 then kc 0 else ax_rq ((0 ≤ ((4 * w2) + (i : Int)) ∧ ((4 * w2) + (i : Int)) ≤ 63)) ((if (f_X3_isLatest a1 ((4 * w2) + (i : Int)) M) = 0 then kc 0 else kc 1)))))
def f_X3_sealsRun_L19 (a1 : Nat) (w2 : Int) (w3 : Int) (M : ax_M) : Nat → Nat → Int → (Int → Int → Prop × Int × ax_M) → Prop × Int × ax_M
  | 0, i, v5, kx => kx (i : Int) v5
  | n + 1, i, v5, kx => f_X3_sealsRun_B19 a1 w2 w3 M i v5 (fun u5 => f_X3_sealsRun_L19 a1 w2 w3 M n (i + 1) u5 kx) kx
set_option maxRecDepth 100000 in
set_option maxHeartbeats 4000000 in
theorem wb_X3_sealsRun_B19 (d : Nat) (a1 : Nat) (w2 : Int) (w3 : Int) (M : ax_M) (i : Nat) (v5 : Int) (kc : Int → Prop × Int × ax_M) (kx : Int → Int → Prop × Int × ax_M) (hw_w2 : (-1) ≤ w2 ∧ w2 ≤ 15) (hi : 0 ≤ i ∧ i < 4) (hv5 : 0 ≤ v5 ∧ v5 ≤ 1) (hkc : ∀ (u5 : Int), 0 ≤ u5 ∧ u5 ≤ 1 → (kc u5).1 → ax_W ax_LM gX3_sealsRun (d + 5) 19 [(0, (2, 3, 0)), (1, (3, 274, (a1 : Int))), (2, (0, 0, w2)), (3, (0, 0, w3)), (4, (0, 0, ((i : Int) + 1))), (5, (0, 0, u5))] [] M ((ax_qm 0 2) (kc u5).2)) (hkx : ∀ (x4 : Int) (x5 : Int), ((0 ≤ x4 ∧ x4 ≤ 4) ∧ (0 ≤ x5 ∧ x5 ≤ 1)) → (kx x4 x5).1 → ax_W ax_LM gX3_sealsRun (d + 5) 69 [(0, (2, 3, 0)), (1, (3, 274, (a1 : Int))), (2, (0, 0, w2)), (3, (0, 0, w3)), (4, (0, 0, x4)), (5, (0, 0, x5))] [] M ((ax_qm 0 2) (kx x4 x5).2)) (hX : (f_X3_sealsRun_B19 a1 w2 w3 M i v5 kc kx).1) : ax_W ax_LM gX3_sealsRun (d + 5) 25 [(0, (2, 3, 0)), (1, (3, 274, (a1 : Int))), (2, (0, 0, w2)), (3, (0, 0, w3)), (4, (0, 0, (i : Int))), (5, (0, 0, v5))] [] M ((ax_qm 0 2) (f_X3_sealsRun_B19 a1 w2 w3 M i v5 kc kx).2) := by
  unfold f_X3_sealsRun_B19 at hX ⊢
  refine ax_rq_s hX (fun hS4 hX => ?_)
  refine ax_lump ax_layM ok_kX3 [(25, .aload_n 1, 1, 0, 0, 0), (26, .iconst 4, 1, 0, 0, 0), (27, .iload_n 2, 1, 0, 0, 0), (28, .imul, 1, 1, 0, 0), (29, .iload 4, 2, 0, 0, 0), (31, .iadd, 1, 1, 0, 0)] (pc' := 32) (lc' := [(0, (2, 3, 0)), (1, (3, 274, (a1 : Int))), (2, (0, 0, w2)), (3, (0, 0, w3)), (4, (0, 0, (i : Int))), (5, (0, 0, v5))]) (st' := [(0, 0, ((4 * w2) + (i : Int))), (3, 274, (a1 : Int))]) (M' := M) (C' := ((True ∧ ax_r32 (4 * w2)) ∧ ax_r32 ((4 * w2) + (i : Int)))) (by decide +kernel) rfl ⟨⟨trivial, ⟨by omega, by omega⟩⟩, ⟨by omega, by omega⟩⟩ ?_
  refine ax_cSi (G1 := gX3_isWritten) (d1 := d + 0) (i := 195) (n := 2) (as := [(3, 274, (a1 : Int)), (0, 0, ((4 * w2) + (i : Int)))]) (st := []) (by decide +kernel) calX3_isWritten (by omega) rfl wt_1098 wt_1099 (Nat.le_of_ble_eq_true rfl) rfl (c_X3_isWritten d a1 ((4 * w2) + (i : Int)) M (hS4)) (fun hc5 => ?_)
  refine ax_zeq_s hX (off := 34) (tgt := 69) (by decide +kernel) (by decide) (fun h6 hX => ?_) (fun h6 hX => ?_)
  · exact hkx (i : Int) v5 ⟨(by omega), (by omega)⟩ hX
  · refine ax_lump ax_layM ok_kX3 [(38, .iload 5, 2, 0, 0, 0)] (pc' := 40) (lc' := [(0, (2, 3, 0)), (1, (3, 274, (a1 : Int))), (2, (0, 0, w2)), (3, (0, 0, w3)), (4, (0, 0, (i : Int))), (5, (0, 0, v5))]) (st' := [(0, 0, v5)]) (M' := M) (C' := True) (by decide +kernel) rfl trivial ?_
    refine ax_zeq_s hX (off := 20) (tgt := 60) (by decide +kernel) (by decide) (fun h7 hX => ?_) (fun h7 hX => ?_)
    · refine ax_lump ax_layM ok_kX3 [(60, .iconst 0, 1, 0, 0, 0), (61, .istore 5, 2, 0, 0, 0), (63, .iinc 4 1, 3, 1, 0, 0), (66, .goto (-47), 3, 19, 0, 0)] (pc' := 19) (lc' := [(4, (0, 0, ((i : Int) + 1))), (5, (0, 0, 0)), (0, (2, 3, 0)), (1, (3, 274, (a1 : Int))), (2, (0, 0, w2)), (3, (0, 0, w3))]) (st' := []) (M' := M) (C' := (True ∧ ax_r32 ((i : Int) + 1))) (by decide +kernel) rfl ⟨trivial, ⟨by omega, by omega⟩⟩ ?_
      refine ax_pk [2,3,4,5,0,1] (lc' := [(0, (2, 3, 0)), (1, (3, 274, (a1 : Int))), (2, (0, 0, w2)), (3, (0, 0, w3)), (4, (0, 0, ((i : Int) + 1))), (5, (0, 0, 0))]) rfl ?_
      exact hkc 0 (by omega) hX
    · refine ax_rq_s hX (fun hS8 hX => ?_)
      refine ax_lump ax_layM ok_kX3 [(43, .aload_n 1, 1, 0, 0, 0), (44, .iconst 4, 1, 0, 0, 0), (45, .iload_n 2, 1, 0, 0, 0), (46, .imul, 1, 1, 0, 0), (47, .iload 4, 2, 0, 0, 0), (49, .iadd, 1, 1, 0, 0)] (pc' := 50) (lc' := [(0, (2, 3, 0)), (1, (3, 274, (a1 : Int))), (2, (0, 0, w2)), (3, (0, 0, w3)), (4, (0, 0, (i : Int))), (5, (0, 0, v5))]) (st' := [(0, 0, ((4 * w2) + (i : Int))), (3, 274, (a1 : Int))]) (M' := M) (C' := ((True ∧ ax_r32 (4 * w2)) ∧ ax_r32 ((4 * w2) + (i : Int)))) (by decide +kernel) rfl ⟨⟨trivial, ⟨by omega, by omega⟩⟩, ⟨by omega, by omega⟩⟩ ?_
      refine ax_cSi (G1 := gX3_isLatest) (d1 := d + 3) (i := 245) (n := 2) (as := [(3, 274, (a1 : Int)), (0, 0, ((4 * w2) + (i : Int)))]) (st := []) (by decide +kernel) calX3_isLatest (by omega) rfl wt_1101 wt_1102 (Nat.le_of_ble_eq_true rfl) rfl (c_X3_isLatest d a1 ((4 * w2) + (i : Int)) M (hS8)) (fun hc9 => ?_)
      refine ax_zeq_s hX (off := 7) (tgt := 60) (by decide +kernel) (by decide) (fun h10 hX => ?_) (fun h10 hX => ?_)
      · refine ax_lump ax_layM ok_kX3 [(60, .iconst 0, 1, 0, 0, 0), (61, .istore 5, 2, 0, 0, 0), (63, .iinc 4 1, 3, 1, 0, 0), (66, .goto (-47), 3, 19, 0, 0)] (pc' := 19) (lc' := [(4, (0, 0, ((i : Int) + 1))), (5, (0, 0, 0)), (0, (2, 3, 0)), (1, (3, 274, (a1 : Int))), (2, (0, 0, w2)), (3, (0, 0, w3))]) (st' := []) (M' := M) (C' := (True ∧ ax_r32 ((i : Int) + 1))) (by decide +kernel) rfl ⟨trivial, ⟨by omega, by omega⟩⟩ ?_
        refine ax_pk [2,3,4,5,0,1] (lc' := [(0, (2, 3, 0)), (1, (3, 274, (a1 : Int))), (2, (0, 0, w2)), (3, (0, 0, w3)), (4, (0, 0, ((i : Int) + 1))), (5, (0, 0, 0))]) rfl ?_
        exact hkc 0 (by omega) hX
      · refine ax_lump ax_layM ok_kX3 [(56, .iconst 1, 1, 0, 0, 0), (57, .goto 4, 3, 61, 0, 0), (61, .istore 5, 2, 0, 0, 0), (63, .iinc 4 1, 3, 1, 0, 0), (66, .goto (-47), 3, 19, 0, 0)] (pc' := 19) (lc' := [(4, (0, 0, ((i : Int) + 1))), (5, (0, 0, 1)), (0, (2, 3, 0)), (1, (3, 274, (a1 : Int))), (2, (0, 0, w2)), (3, (0, 0, w3))]) (st' := []) (M' := M) (C' := (True ∧ ax_r32 ((i : Int) + 1))) (by decide +kernel) rfl ⟨trivial, ⟨by omega, by omega⟩⟩ ?_
        refine ax_pk [2,3,4,5,0,1] (lc' := [(0, (2, 3, 0)), (1, (3, 274, (a1 : Int))), (2, (0, 0, w2)), (3, (0, 0, w3)), (4, (0, 0, ((i : Int) + 1))), (5, (0, 0, 1))]) rfl ?_
        exact hkc 1 (by omega) hX
set_option maxRecDepth 100000 in
set_option maxHeartbeats 4000000 in
theorem w_X3_sealsRun_L19 (d : Nat) (a1 : Nat) (w2 : Int) (w3 : Int) (M : ax_M) (kx : Int → Int → Prop × Int × ax_M) (hw_w2 : (-1) ≤ w2 ∧ w2 ≤ 15) (hkx : ∀ (x4 : Int) (x5 : Int), ((0 ≤ x4 ∧ x4 ≤ 4) ∧ (0 ≤ x5 ∧ x5 ≤ 1)) → (kx x4 x5).1 → ax_W ax_LM gX3_sealsRun (d + 5) 69 [(0, (2, 3, 0)), (1, (3, 274, (a1 : Int))), (2, (0, 0, w2)), (3, (0, 0, w3)), (4, (0, 0, x4)), (5, (0, 0, x5))] [] M ((ax_qm 0 2) (kx x4 x5).2)) : ∀ (n : Nat) (i : Nat) (v5 : Int), 0 ≤ i ∧ i + n = 4 → 0 ≤ v5 ∧ v5 ≤ 1 → (f_X3_sealsRun_L19 a1 w2 w3 M n i v5 kx).1 → ax_W ax_LM gX3_sealsRun (d + 5) 19 [(0, (2, 3, 0)), (1, (3, 274, (a1 : Int))), (2, (0, 0, w2)), (3, (0, 0, w3)), (4, (0, 0, (i : Int))), (5, (0, 0, v5))] [] M ((ax_qm 0 2) (f_X3_sealsRun_L19 a1 w2 w3 M n i v5 kx).2) := by
  intro n
  induction n with
  | zero =>
    intro i v5 hin hv5 hX
    refine ax_lump ax_layM ok_kX3 [(19, .iload 4, 2, 0, 0, 0), (21, .iconst 4, 1, 0, 0, 0)] (pc' := 22) (lc' := [(0, (2, 3, 0)), (1, (3, 274, (a1 : Int))), (2, (0, 0, w2)), (3, (0, 0, w3)), (4, (0, 0, (i : Int))), (5, (0, 0, v5))]) (st' := [(0, 0, 4), (0, 0, (i : Int))]) (M' := M) (C' := True) (by decide +kernel) rfl trivial ?_
    refine ax_icmp_ge (off := 47) (tgt := 69) (by decide +kernel) (by decide) (fun h => ?_) (fun h => ?_)
    · exact hkx (i : Int) v5 ⟨(by omega), (by omega)⟩ hX
    · exfalso; omega
  | succ n ih =>
    intro i v5 hin hv5 hX
    refine ax_lump ax_layM ok_kX3 [(19, .iload 4, 2, 0, 0, 0), (21, .iconst 4, 1, 0, 0, 0)] (pc' := 22) (lc' := [(0, (2, 3, 0)), (1, (3, 274, (a1 : Int))), (2, (0, 0, w2)), (3, (0, 0, w3)), (4, (0, 0, (i : Int))), (5, (0, 0, v5))]) (st' := [(0, 0, 4), (0, 0, (i : Int))]) (M' := M) (C' := True) (by decide +kernel) rfl trivial ?_
    refine ax_icmp_ge (off := 47) (tgt := 69) (by decide +kernel) (by decide) (fun h => ?_) (fun h => ?_)
    · exfalso; omega
    · exact wb_X3_sealsRun_B19 d a1 w2 w3 M i v5 _ kx hw_w2 (by omega) hv5 (fun u5 hu5 hX => ih (i + 1) u5 (by omega) hu5 hX) hkx hX
def f_X3_sealsRun_J69 (a1 : Nat) (j2 : Int) (j3 : Int) (j4 : Int) (j5 : Int) (M : ax_M) : Prop × Int × ax_M := (if j5 ≠ 0 then ax_rc (f_X3_copiesLatest a1 j3 j4 j2 M) (fun M14 => ax_bd (f_X3_blockOf a1 1 j3 M14) (fun y16 => ax_bd (ax_up M14 a1 (192 + j2).toNat 1) (fun M17 => (if y16 < 0 then (if j4 ≠ 4 then ax_bd (f_X3_counts a1 268 M17) (fun M20 => (True, (1, M20))) else ax_bd (f_X3_counts a1 267 M17) (fun M22 => (True, (0, M22)))) else ax_bd (f_X3_wipes a1 y16 M17) (fun M24 => (if j4 ≠ 4 then ax_bd (f_X3_counts a1 268 M24) (fun M26 => (True, (1, M26))) else ax_bd (f_X3_counts a1 267 M24) (fun M28 => (True, (0, M28))))))))) else ax_rc (f_X3_mergesAll a1 j3 M) (fun y30 => (True, (2, y30.2))))
set_option maxRecDepth 100000 in
set_option maxHeartbeats 4000000 in
theorem w_X3_sealsRun_J69 (d : Nat) (a1 : Nat) (j2 : Int) (j3 : Int) (j4 : Int) (j5 : Int) (M : ax_M) (hw_j2 : (-1) ≤ j2 ∧ j2 ≤ 15) (hw_j4 : 0 ≤ j4 ∧ j4 ≤ 4) (hw_j5 : 0 ≤ j5 ∧ j5 ≤ 1) (hX : (f_X3_sealsRun_J69 a1 j2 j3 j4 j5 M).1) : ax_W ax_LM gX3_sealsRun (d + 5) 69 [(0, (2, 3, 0)), (1, (3, 274, (a1 : Int))), (2, (0, 0, j2)), (3, (0, 0, j3)), (4, (0, 0, j4)), (5, (0, 0, j5))] [] M ((ax_qm 0 2) (f_X3_sealsRun_J69 a1 j2 j3 j4 j5 M).2) := by
  unfold f_X3_sealsRun_J69 at hX ⊢
  refine ax_lump ax_layM ok_kX3 [(69, .iload 5, 2, 0, 0, 0)] (pc' := 71) (lc' := [(0, (2, 3, 0)), (1, (3, 274, (a1 : Int))), (2, (0, 0, j2)), (3, (0, 0, j3)), (4, (0, 0, j4)), (5, (0, 0, j5))]) (st' := [(0, 0, j5)]) (M' := M) (C' := True) (by decide +kernel) rfl trivial ?_
  refine ax_zne_s hX (off := 12) (tgt := 83) (by decide +kernel) (by decide) (fun h13 hX => ?_) (fun h13 hX => ?_)
  · refine ax_lump ax_layM ok_kX3 [(83, .aload_n 0, 1, 0, 0, 0), (84, .aload_n 1, 1, 0, 0, 0), (85, .iload_n 3, 1, 0, 0, 0), (86, .iload 4, 2, 0, 0, 0), (88, .iload_n 2, 1, 0, 0, 0)] (pc' := 89) (lc' := [(0, (2, 3, 0)), (1, (3, 274, (a1 : Int))), (2, (0, 0, j2)), (3, (0, 0, j3)), (4, (0, 0, j4)), (5, (0, 0, j5))]) (st' := [(0, 0, j2), (0, 0, j4), (0, 0, j3), (3, 274, (a1 : Int)), (2, 3, 0)]) (M' := M) (C' := True) (by decide +kernel) rfl trivial ?_
    refine ax_cVv_r hX (G1 := gX3_copiesLatest) (d1 := d + 3) (i := 235) (n := 4) (as := [(3, 274, (a1 : Int)), (0, 0, j3), (0, 0, j4), (0, 0, j2)]) (st := []) (c := 3) (a := 0) (by decide +kernel) ax_cls3 calX3_copiesLatest (by omega) rfl wt_1172 wt_1174 ws_87 (Nat.le_of_ble_eq_true rfl) rfl (fun hY => c_X3_copiesLatest d a1 j3 j4 j2 M (by omega) hY) (fun M14 hX => ?_)
    refine ax_lump ax_layM ok_kX3 [(92, .aload_n 1, 1, 0, 0, 0), (93, .iconst 1, 1, 0, 0, 0), (94, .iload_n 3, 1, 0, 0, 0)] (pc' := 95) (lc' := [(0, (2, 3, 0)), (1, (3, 274, (a1 : Int))), (2, (0, 0, j2)), (3, (0, 0, j3)), (4, (0, 0, j4)), (5, (0, 0, j5))]) (st' := [(0, 0, j3), (0, 0, 1), (3, 274, (a1 : Int))]) (M' := M14) (C' := True) (by decide +kernel) rfl trivial ?_
    refine ax_cSi (G1 := gX3_blockOf) (d1 := d + 0) (i := 228) (n := 3) (as := [(3, 274, (a1 : Int)), (0, 0, 1), (0, 0, j3)]) (st := []) (by decide +kernel) calX3_blockOf (by omega) rfl wt_1152 wt_1153 (Nat.le_of_ble_eq_true rfl) rfl (c_X3_blockOf d a1 1 j3 M14) (fun hc15 => ?_)
    refine ax_lump ax_layM ok_kX3 [(98, .istore 6, 2, 0, 0, 0)] (pc' := 100) (lc' := [(6, (0, 0, (f_X3_blockOf a1 1 j3 M14))), (0, (2, 3, 0)), (1, (3, 274, (a1 : Int))), (2, (0, 0, j2)), (3, (0, 0, j3)), (4, (0, 0, j4)), (5, (0, 0, j5))]) (st' := []) (M' := M14) (C' := True) (by decide +kernel) rfl trivial ?_
    refine ax_bdI_s hX (lo := (-1)) (hi := 15) (e := (f_X3_blockOf a1 1 j3 M14)) (fun y16 => [(6, (0, 0, y16)), (0, (2, 3, 0)), (1, (3, 274, (a1 : Int))), (2, (0, 0, j2)), (3, (0, 0, j3)), (4, (0, 0, j4)), (5, (0, 0, j5))]) (fun y16 => []) (by omega) (fun y16 h_y16 hX => ?_)
    refine ax_lump ax_layM ok_kX3 [(100, .aload_n 1, 1, 0, 0, 0), (101, .sipush 192, 3, 0, 0, 0), (104, .iload_n 2, 1, 0, 0, 0), (105, .iadd, 1, 1, 0, 0), (106, .iconst 1, 1, 0, 0, 0), (107, .iastore, 1, 0, 0, 0)] (pc' := 108) (lc' := [(6, (0, 0, y16)), (0, (2, 3, 0)), (1, (3, 274, (a1 : Int))), (2, (0, 0, j2)), (3, (0, 0, j3)), (4, (0, 0, j4)), (5, (0, 0, j5))]) (st' := []) (M' := (ax_up M14 a1 (192 + j2).toNat 1)) (C' := ((True ∧ ax_r32 (192 + j2)) ∧ (0 ≤ (192 + j2) ∧ (192 + j2) < ((274 : Nat) : Int)))) (by decide +kernel) rfl ⟨⟨trivial, ⟨by omega, by omega⟩⟩, by omega⟩ ?_
    refine ax_bdMe_s hX (fun M17 hM_M17 hX => ?_)
    refine ax_lump ax_layM ok_kX3 [(108, .iload 6, 2, 0, 0, 0)] (pc' := 110) (lc' := [(6, (0, 0, y16)), (0, (2, 3, 0)), (1, (3, 274, (a1 : Int))), (2, (0, 0, j2)), (3, (0, 0, j3)), (4, (0, 0, j4)), (5, (0, 0, j5))]) (st' := [(0, 0, y16)]) (M' := M17) (C' := True) (by decide +kernel) rfl trivial ?_
    refine ax_zlt_s hX (off := 10) (tgt := 120) (by decide +kernel) (by decide) (fun h18 hX => ?_) (fun h18 hX => ?_)
    · refine ax_lump ax_layM ok_kX3 [(120, .aload_n 1, 1, 0, 0, 0), (121, .iload 4, 2, 0, 0, 0), (123, .iconst 4, 1, 0, 0, 0)] (pc' := 124) (lc' := [(6, (0, 0, y16)), (0, (2, 3, 0)), (1, (3, 274, (a1 : Int))), (2, (0, 0, j2)), (3, (0, 0, j3)), (4, (0, 0, j4)), (5, (0, 0, j5))]) (st' := [(0, 0, 4), (0, 0, j4), (3, 274, (a1 : Int))]) (M' := M17) (C' := True) (by decide +kernel) rfl trivial ?_
      refine ax_jne_s hX (off := 9) (tgt := 133) (by decide +kernel) (by decide) (fun h19 hX => ?_) (fun h19 hX => ?_)
      · refine ax_lump ax_layM ok_kX3 [(133, .sipush 268, 3, 0, 0, 0)] (pc' := 136) (lc' := [(6, (0, 0, y16)), (0, (2, 3, 0)), (1, (3, 274, (a1 : Int))), (2, (0, 0, j2)), (3, (0, 0, j3)), (4, (0, 0, j4)), (5, (0, 0, j5))]) (st' := [(0, 0, 268), (3, 274, (a1 : Int))]) (M' := M17) (C' := True) (by decide +kernel) rfl trivial ?_
        refine ax_cSv_s hX (G1 := gX3_counts) (d1 := d + 1) (i := 214) (n := 2) (as := [(3, 274, (a1 : Int)), (0, 0, 268)]) (st := []) (by decide +kernel) calX3_counts (by omega) rfl wt_1188 wt_1189 (Nat.le_of_ble_eq_true rfl) rfl (c_X3_counts d a1 268 M17 (by omega)) (fun M20 hX => ?_)
        refine ax_lump ax_layM ok_kX3 [(139, .iload 4, 2, 0, 0, 0), (141, .iconst 4, 1, 0, 0, 0)] (pc' := 142) (lc' := [(6, (0, 0, y16)), (0, (2, 3, 0)), (1, (3, 274, (a1 : Int))), (2, (0, 0, j2)), (3, (0, 0, j3)), (4, (0, 0, j4)), (5, (0, 0, j5))]) (st' := [(0, 0, 4), (0, 0, j4)]) (M' := M20) (C' := True) (by decide +kernel) rfl trivial ?_
        refine ax_icmp_ne (off := 7) (tgt := 149) (by decide +kernel) (by decide) (fun h21 => ?_) (fun h21 => ?_)
        · refine ax_lump ax_layM ok_kX3 [(149, .iconst 1, 1, 0, 0, 0)] (pc' := 150) (lc' := [(6, (0, 0, y16)), (0, (2, 3, 0)), (1, (3, 274, (a1 : Int))), (2, (0, 0, j2)), (3, (0, 0, j3)), (4, (0, 0, j4)), (5, (0, 0, j5))]) (st' := [(0, 0, 1)]) (M' := M20) (C' := True) (by decide +kernel) rfl trivial ?_
          exact ax_iret (by decide +kernel) rfl ⟨rfl, rfl, (show (0 : Int) ≤ 1 from by omega), (show 1 ≤ (2 : Int) from by omega)⟩
        · exfalso; omega
      · refine ax_lump ax_layM ok_kX3 [(127, .sipush 267, 3, 0, 0, 0), (130, .goto 6, 3, 136, 0, 0)] (pc' := 136) (lc' := [(6, (0, 0, y16)), (0, (2, 3, 0)), (1, (3, 274, (a1 : Int))), (2, (0, 0, j2)), (3, (0, 0, j3)), (4, (0, 0, j4)), (5, (0, 0, j5))]) (st' := [(0, 0, 267), (3, 274, (a1 : Int))]) (M' := M17) (C' := True) (by decide +kernel) rfl trivial ?_
        refine ax_cSv_s hX (G1 := gX3_counts) (d1 := d + 1) (i := 214) (n := 2) (as := [(3, 274, (a1 : Int)), (0, 0, 267)]) (st := []) (by decide +kernel) calX3_counts (by omega) rfl wt_1188 wt_1189 (Nat.le_of_ble_eq_true rfl) rfl (c_X3_counts d a1 267 M17 (by omega)) (fun M22 hX => ?_)
        refine ax_lump ax_layM ok_kX3 [(139, .iload 4, 2, 0, 0, 0), (141, .iconst 4, 1, 0, 0, 0)] (pc' := 142) (lc' := [(6, (0, 0, y16)), (0, (2, 3, 0)), (1, (3, 274, (a1 : Int))), (2, (0, 0, j2)), (3, (0, 0, j3)), (4, (0, 0, j4)), (5, (0, 0, j5))]) (st' := [(0, 0, 4), (0, 0, j4)]) (M' := M22) (C' := True) (by decide +kernel) rfl trivial ?_
        refine ax_icmp_ne (off := 7) (tgt := 149) (by decide +kernel) (by decide) (fun h23 => ?_) (fun h23 => ?_)
        · exfalso; omega
        · refine ax_lump ax_layM ok_kX3 [(145, .iconst 0, 1, 0, 0, 0), (146, .goto 4, 3, 150, 0, 0)] (pc' := 150) (lc' := [(6, (0, 0, y16)), (0, (2, 3, 0)), (1, (3, 274, (a1 : Int))), (2, (0, 0, j2)), (3, (0, 0, j3)), (4, (0, 0, j4)), (5, (0, 0, j5))]) (st' := [(0, 0, 0)]) (M' := M22) (C' := True) (by decide +kernel) rfl trivial ?_
          exact ax_iret (by decide +kernel) rfl ⟨rfl, rfl, (show (0 : Int) ≤ 0 from by omega), (show 0 ≤ (2 : Int) from by omega)⟩
    · refine ax_lump ax_layM ok_kX3 [(113, .aload_n 0, 1, 0, 0, 0), (114, .aload_n 1, 1, 0, 0, 0), (115, .iload 6, 2, 0, 0, 0)] (pc' := 117) (lc' := [(6, (0, 0, y16)), (0, (2, 3, 0)), (1, (3, 274, (a1 : Int))), (2, (0, 0, j2)), (3, (0, 0, j3)), (4, (0, 0, j4)), (5, (0, 0, j5))]) (st' := [(0, 0, y16), (3, 274, (a1 : Int)), (2, 3, 0)]) (M' := M17) (C' := True) (by decide +kernel) rfl trivial ?_
      refine ax_cVv_s hX (G1 := gX3_wipes) (d1 := d + 2) (i := 239) (n := 2) (as := [(3, 274, (a1 : Int)), (0, 0, y16)]) (st := []) (c := 3) (a := 0) (by decide +kernel) ax_cls3 calX3_wipes (by omega) rfl wt_1192 wt_1194 ws_91 (Nat.le_of_ble_eq_true rfl) rfl (c_X3_wipes d a1 y16 M17 (by omega)) (fun M24 hX => ?_)
      refine ax_lump ax_layM ok_kX3 [(120, .aload_n 1, 1, 0, 0, 0), (121, .iload 4, 2, 0, 0, 0), (123, .iconst 4, 1, 0, 0, 0)] (pc' := 124) (lc' := [(6, (0, 0, y16)), (0, (2, 3, 0)), (1, (3, 274, (a1 : Int))), (2, (0, 0, j2)), (3, (0, 0, j3)), (4, (0, 0, j4)), (5, (0, 0, j5))]) (st' := [(0, 0, 4), (0, 0, j4), (3, 274, (a1 : Int))]) (M' := M24) (C' := True) (by decide +kernel) rfl trivial ?_
      refine ax_jne_s hX (off := 9) (tgt := 133) (by decide +kernel) (by decide) (fun h25 hX => ?_) (fun h25 hX => ?_)
      · refine ax_lump ax_layM ok_kX3 [(133, .sipush 268, 3, 0, 0, 0)] (pc' := 136) (lc' := [(6, (0, 0, y16)), (0, (2, 3, 0)), (1, (3, 274, (a1 : Int))), (2, (0, 0, j2)), (3, (0, 0, j3)), (4, (0, 0, j4)), (5, (0, 0, j5))]) (st' := [(0, 0, 268), (3, 274, (a1 : Int))]) (M' := M24) (C' := True) (by decide +kernel) rfl trivial ?_
        refine ax_cSv_s hX (G1 := gX3_counts) (d1 := d + 1) (i := 214) (n := 2) (as := [(3, 274, (a1 : Int)), (0, 0, 268)]) (st := []) (by decide +kernel) calX3_counts (by omega) rfl wt_1188 wt_1189 (Nat.le_of_ble_eq_true rfl) rfl (c_X3_counts d a1 268 M24 (by omega)) (fun M26 hX => ?_)
        refine ax_lump ax_layM ok_kX3 [(139, .iload 4, 2, 0, 0, 0), (141, .iconst 4, 1, 0, 0, 0)] (pc' := 142) (lc' := [(6, (0, 0, y16)), (0, (2, 3, 0)), (1, (3, 274, (a1 : Int))), (2, (0, 0, j2)), (3, (0, 0, j3)), (4, (0, 0, j4)), (5, (0, 0, j5))]) (st' := [(0, 0, 4), (0, 0, j4)]) (M' := M26) (C' := True) (by decide +kernel) rfl trivial ?_
        refine ax_icmp_ne (off := 7) (tgt := 149) (by decide +kernel) (by decide) (fun h27 => ?_) (fun h27 => ?_)
        · refine ax_lump ax_layM ok_kX3 [(149, .iconst 1, 1, 0, 0, 0)] (pc' := 150) (lc' := [(6, (0, 0, y16)), (0, (2, 3, 0)), (1, (3, 274, (a1 : Int))), (2, (0, 0, j2)), (3, (0, 0, j3)), (4, (0, 0, j4)), (5, (0, 0, j5))]) (st' := [(0, 0, 1)]) (M' := M26) (C' := True) (by decide +kernel) rfl trivial ?_
          exact ax_iret (by decide +kernel) rfl ⟨rfl, rfl, (show (0 : Int) ≤ 1 from by omega), (show 1 ≤ (2 : Int) from by omega)⟩
        · exfalso; omega
      · refine ax_lump ax_layM ok_kX3 [(127, .sipush 267, 3, 0, 0, 0), (130, .goto 6, 3, 136, 0, 0)] (pc' := 136) (lc' := [(6, (0, 0, y16)), (0, (2, 3, 0)), (1, (3, 274, (a1 : Int))), (2, (0, 0, j2)), (3, (0, 0, j3)), (4, (0, 0, j4)), (5, (0, 0, j5))]) (st' := [(0, 0, 267), (3, 274, (a1 : Int))]) (M' := M24) (C' := True) (by decide +kernel) rfl trivial ?_
        refine ax_cSv_s hX (G1 := gX3_counts) (d1 := d + 1) (i := 214) (n := 2) (as := [(3, 274, (a1 : Int)), (0, 0, 267)]) (st := []) (by decide +kernel) calX3_counts (by omega) rfl wt_1188 wt_1189 (Nat.le_of_ble_eq_true rfl) rfl (c_X3_counts d a1 267 M24 (by omega)) (fun M28 hX => ?_)
        refine ax_lump ax_layM ok_kX3 [(139, .iload 4, 2, 0, 0, 0), (141, .iconst 4, 1, 0, 0, 0)] (pc' := 142) (lc' := [(6, (0, 0, y16)), (0, (2, 3, 0)), (1, (3, 274, (a1 : Int))), (2, (0, 0, j2)), (3, (0, 0, j3)), (4, (0, 0, j4)), (5, (0, 0, j5))]) (st' := [(0, 0, 4), (0, 0, j4)]) (M' := M28) (C' := True) (by decide +kernel) rfl trivial ?_
        refine ax_icmp_ne (off := 7) (tgt := 149) (by decide +kernel) (by decide) (fun h29 => ?_) (fun h29 => ?_)
        · exfalso; omega
        · refine ax_lump ax_layM ok_kX3 [(145, .iconst 0, 1, 0, 0, 0), (146, .goto 4, 3, 150, 0, 0)] (pc' := 150) (lc' := [(6, (0, 0, y16)), (0, (2, 3, 0)), (1, (3, 274, (a1 : Int))), (2, (0, 0, j2)), (3, (0, 0, j3)), (4, (0, 0, j4)), (5, (0, 0, j5))]) (st' := [(0, 0, 0)]) (M' := M28) (C' := True) (by decide +kernel) rfl trivial ?_
          exact ax_iret (by decide +kernel) rfl ⟨rfl, rfl, (show (0 : Int) ≤ 0 from by omega), (show 0 ≤ (2 : Int) from by omega)⟩
  · refine ax_lump ax_layM ok_kX3 [(74, .aload_n 0, 1, 0, 0, 0), (75, .aload_n 1, 1, 0, 0, 0), (76, .iload_n 3, 1, 0, 0, 0)] (pc' := 77) (lc' := [(0, (2, 3, 0)), (1, (3, 274, (a1 : Int))), (2, (0, 0, j2)), (3, (0, 0, j3)), (4, (0, 0, j4)), (5, (0, 0, j5))]) (st' := [(0, 0, j3), (3, 274, (a1 : Int)), (2, 3, 0)]) (M' := M) (C' := True) (by decide +kernel) rfl trivial ?_
    refine ax_cVm_r hX (G1 := gX3_mergesAll) (d1 := d + 4) (i := 248) (n := 2) (as := [(3, 274, (a1 : Int)), (0, 0, j3)]) (st := []) (c := 3) (a := 0) (by decide +kernel) ax_cls3 calX3_mergesAll (by omega) rfl wt_1168 wt_1170 ws_86 (Nat.le_of_ble_eq_true rfl) rfl (fun hY => c_X3_mergesAll d a1 j3 M hY) (fun y30 h_y30 hX => ?_)
    refine ax_lump ax_layM ok_kX3 [(80, .pop, 1, 0, 0, 0), (81, .iconst 2, 1, 0, 0, 0)] (pc' := 82) (lc' := [(0, (2, 3, 0)), (1, (3, 274, (a1 : Int))), (2, (0, 0, j2)), (3, (0, 0, j3)), (4, (0, 0, j4)), (5, (0, 0, j5))]) (st' := [(0, 0, 2)]) (M' := y30.2) (C' := True) (by decide +kernel) rfl trivial ?_
    exact ax_iret (by decide +kernel) rfl ⟨rfl, rfl, (show (0 : Int) ≤ 2 from by omega), (show 2 ≤ (2 : Int) from by omega)⟩
def f_X3_sealsRun (a1 : Nat) (M : ax_M) : Prop × Int × ax_M := ax_bd (f_X3_theRun a1 M) (fun y2 => ax_bd (M a1 (208 + y2).toNat) (fun y3 => f_X3_sealsRun_L19 a1 y2 y3 M 4 0 1 (fun z11 z12 => f_X3_sealsRun_J69 a1 y2 y3 z11 z12 M)))
set_option maxRecDepth 100000 in
set_option maxHeartbeats 4000000 in
theorem c_X3_sealsRun (d : Nat) (a1 : Nat) (M : ax_M)  (hX : (f_X3_sealsRun a1 M).1) : ax_Met ax_LM gX3_sealsRun (d + 5) [(2, 3, 0), (3, 274, (a1 : Int))] M ((ax_qm 0 2) (f_X3_sealsRun a1 M).2) := by
  refine ax_body (by decide) (fun X => Nat.le_of_ble_eq_true rfl) (fun hok => ?_)
  show ax_W ax_LM gX3_sealsRun (d + 5) 0 [(0, (2, 3, 0)), (1, (3, 274, (a1 : Int)))] [] M _
  unfold f_X3_sealsRun at hX ⊢
  refine ax_lump ax_layM ok_kX3 [(0, .aload_n 1, 1, 0, 0, 0)] (pc' := 1) (lc' := [(0, (2, 3, 0)), (1, (3, 274, (a1 : Int)))]) (st' := [(3, 274, (a1 : Int))]) (M' := M) (C' := True) (by decide +kernel) rfl trivial ?_
  refine ax_cSi (G1 := gX3_theRun) (d1 := d + 0) (i := 242) (n := 1) (as := [(3, 274, (a1 : Int))]) (st := []) (by decide +kernel) calX3_theRun (by omega) rfl wt_1161 wt_1162 (Nat.le_of_ble_eq_true rfl) rfl (c_X3_theRun d a1 M) (fun hc1 => ?_)
  refine ax_lump ax_layM ok_kX3 [(4, .istore_n 2, 1, 0, 0, 0)] (pc' := 5) (lc' := [(2, (0, 0, (f_X3_theRun a1 M))), (0, (2, 3, 0)), (1, (3, 274, (a1 : Int)))]) (st' := []) (M' := M) (C' := True) (by decide +kernel) rfl trivial ?_
  refine ax_bdI_s hX (lo := (-1)) (hi := 15) (e := (f_X3_theRun a1 M)) (fun y2 => [(2, (0, 0, y2)), (0, (2, 3, 0)), (1, (3, 274, (a1 : Int)))]) (fun y2 => []) (by omega) (fun y2 h_y2 hX => ?_)
  refine ax_lump ax_layM ok_kX3 [(5, .aload_n 1, 1, 0, 0, 0), (6, .sipush 208, 3, 0, 0, 0), (9, .iload_n 2, 1, 0, 0, 0), (10, .iadd, 1, 1, 0, 0), (11, .iaload, 1, 0, 0, 0), (12, .istore_n 3, 1, 0, 0, 0)] (pc' := 13) (lc' := [(3, (0, 0, (M a1 (208 + y2).toNat))), (2, (0, 0, y2)), (0, (2, 3, 0)), (1, (3, 274, (a1 : Int)))]) (st' := []) (M' := M) (C' := ((True ∧ ax_r32 (208 + y2)) ∧ (0 ≤ (208 + y2) ∧ (208 + y2) < ((274 : Nat) : Int)))) (by decide +kernel) rfl ⟨⟨trivial, ⟨by omega, by omega⟩⟩, by omega⟩ ?_
  refine ax_bdI0_s hX (e := (M a1 (208 + y2).toNat)) (fun y3 => [(3, (0, 0, y3)), (2, (0, 0, y2)), (0, (2, 3, 0)), (1, (3, 274, (a1 : Int)))]) (fun y3 => []) (fun y3 hX => ?_)
  refine ax_lump ax_layM ok_kX3 [(13, .iconst 0, 1, 0, 0, 0), (14, .istore 4, 2, 0, 0, 0), (16, .iconst 1, 1, 0, 0, 0), (17, .istore 5, 2, 0, 0, 0)] (pc' := 19) (lc' := [(5, (0, 0, 1)), (4, (0, 0, 0)), (3, (0, 0, y3)), (2, (0, 0, y2)), (0, (2, 3, 0)), (1, (3, 274, (a1 : Int)))]) (st' := []) (M' := M) (C' := True) (by decide +kernel) rfl trivial ?_
  refine ax_pk [4,5,3,2,1,0] (lc' := [(0, (2, 3, 0)), (1, (3, 274, (a1 : Int))), (2, (0, 0, y2)), (3, (0, 0, y3)), (4, (0, 0, 0)), (5, (0, 0, 1))]) rfl ?_
  refine w_X3_sealsRun_L19 d a1 y2 y3 M _ (by omega) (fun z11 z12 hx_12 hX => ?_) 4 0 1 (by omega) (by omega) hX
  exact w_X3_sealsRun_J69 d a1 y2 y3 z11 z12 M (by omega) (by omega) (by omega) hX
def f_X3_foldersIn_B4 (a0 : Nat) (w1 : Int) (M : ax_M) (i : Nat) (v2 : Int) (kc : Int → Int) (kx : Int → Int) : Int := ax_bd ((4 * w1) + (i : Int)) (fun y1 => (if (f_X3_isLatest a0 y1 M) = 0 then ax_bd (ax_or v2 0) (fun y4 => kc y4) else ax_bd (ax_or v2 (ax_shl 1 (ax_div (f_X3_pageAt a0 y1 M) 4))) (fun y6 => kc y6)))
def f_X3_foldersIn_L4 (a0 : Nat) (w1 : Int) (M : ax_M) : Nat → Nat → Int → (Int → Int) → Int
  | 0, i, v2, kx => kx v2
  | n + 1, i, v2, kx => f_X3_foldersIn_B4 a0 w1 M i v2 (fun u2 => f_X3_foldersIn_L4 a0 w1 M n (i + 1) u2 kx) kx
set_option maxRecDepth 100000 in
set_option maxHeartbeats 4000000 in
theorem wb_X3_foldersIn_B4 (d : Nat) (a0 : Nat) (w1 : Int) (M : ax_M) (i : Nat) (v2 : Int) (kc : Int → Int) (kx : Int → Int) (hw_w1 : 0 ≤ w1 ∧ w1 ≤ 15) (hi : 0 ≤ i ∧ i < 4)  (hkc : ∀ (u2 : Int), ax_W ax_LM gX3_foldersIn (d + 4) 4 [(0, (3, 274, (a0 : Int))), (1, (0, 0, w1)), (2, (0, 0, u2)), (3, (0, 0, ((i : Int) + 1)))] [] M ((ax_qi (-2147483648) 2147483647 M) (kc u2))) (hkx : ∀ (x2 : Int), (True) → ax_W ax_LM gX3_foldersIn (d + 4) 48 [(2, (0, 0, x2))] [] M ((ax_qi (-2147483648) 2147483647 M) (kx x2))) : ax_W ax_LM gX3_foldersIn (d + 4) 9 [(0, (3, 274, (a0 : Int))), (1, (0, 0, w1)), (2, (0, 0, v2)), (3, (0, 0, (i : Int)))] [] M ((ax_qi (-2147483648) 2147483647 M) (f_X3_foldersIn_B4 a0 w1 M i v2 kc kx)) := by
  unfold f_X3_foldersIn_B4
  refine ax_lump ax_layM ok_kX3 [(9, .iconst 4, 1, 0, 0, 0), (10, .iload_n 1, 1, 0, 0, 0), (11, .imul, 1, 1, 0, 0), (12, .iload_n 3, 1, 0, 0, 0), (13, .iadd, 1, 1, 0, 0), (14, .istore 4, 2, 0, 0, 0)] (pc' := 16) (lc' := [(4, (0, 0, ((4 * w1) + (i : Int)))), (0, (3, 274, (a0 : Int))), (1, (0, 0, w1)), (2, (0, 0, v2)), (3, (0, 0, (i : Int)))]) (st' := []) (M' := M) (C' := ((True ∧ ax_r32 (4 * w1)) ∧ ax_r32 ((4 * w1) + (i : Int)))) (by decide +kernel) rfl ⟨⟨trivial, ⟨by omega, by omega⟩⟩, ⟨by omega, by omega⟩⟩ ?_
  refine ax_bdI (lo := 0) (hi := 63) (e := ((4 * w1) + (i : Int))) (fun y1 => [(4, (0, 0, y1)), (0, (3, 274, (a0 : Int))), (1, (0, 0, w1)), (2, (0, 0, v2)), (3, (0, 0, (i : Int)))]) (fun y1 => []) (by omega) (fun y1 h_y1 => ?_)
  refine ax_lump ax_layM ok_kX3 [(16, .iload_n 2, 1, 0, 0, 0), (17, .aload_n 0, 1, 0, 0, 0), (18, .iload 4, 2, 0, 0, 0)] (pc' := 20) (lc' := [(4, (0, 0, y1)), (0, (3, 274, (a0 : Int))), (1, (0, 0, w1)), (2, (0, 0, v2)), (3, (0, 0, (i : Int)))]) (st' := [(0, 0, y1), (3, 274, (a0 : Int)), (0, 0, v2)]) (M' := M) (C' := True) (by decide +kernel) rfl trivial ?_
  refine ax_cSi (G1 := gX3_isLatest) (d1 := d + 3) (i := 245) (n := 2) (as := [(3, 274, (a0 : Int)), (0, 0, y1)]) (st := [(0, 0, v2)]) (by decide +kernel) calX3_isLatest (by omega) rfl wt_1101 wt_1102 (Nat.le_of_ble_eq_true rfl) rfl (c_X3_isLatest d a0 y1 M (by omega)) (fun hc2 => ?_)
  refine ax_zeq (off := 16) (tgt := 39) (by decide +kernel) (by decide) (fun h3 => ?_) (fun h3 => ?_)
  · refine ax_lump ax_layM ok_kX3 [(39, .iconst 0, 1, 0, 0, 0), (40, .ior, 1, 0, 0, 0), (41, .istore_n 2, 1, 0, 0, 0)] (pc' := 42) (lc' := [(2, (0, 0, (ax_or v2 0))), (4, (0, 0, y1)), (0, (3, 274, (a0 : Int))), (1, (0, 0, w1)), (3, (0, 0, (i : Int)))]) (st' := []) (M' := M) (C' := True) (by decide +kernel) rfl trivial ?_
    refine ax_bdI0 (e := (ax_or v2 0)) (fun y4 => [(2, (0, 0, y4)), (4, (0, 0, y1)), (0, (3, 274, (a0 : Int))), (1, (0, 0, w1)), (3, (0, 0, (i : Int)))]) (fun y4 => []) (fun y4 => ?_)
    refine ax_lump ax_layM ok_kX3 [(42, .iinc 3 1, 3, 1, 0, 0), (45, .goto (-41), 3, 4, 0, 0)] (pc' := 4) (lc' := [(3, (0, 0, ((i : Int) + 1))), (2, (0, 0, y4)), (4, (0, 0, y1)), (0, (3, 274, (a0 : Int))), (1, (0, 0, w1))]) (st' := []) (M' := M) (C' := (True ∧ ax_r32 ((i : Int) + 1))) (by decide +kernel) rfl ⟨trivial, ⟨by omega, by omega⟩⟩ ?_
    refine ax_pk [3,4,1,0] (lc' := [(0, (3, 274, (a0 : Int))), (1, (0, 0, w1)), (2, (0, 0, y4)), (3, (0, 0, ((i : Int) + 1)))]) rfl ?_
    exact hkc y4 
  · refine ax_lump ax_layM ok_kX3 [(26, .iconst 1, 1, 0, 0, 0), (27, .aload_n 0, 1, 0, 0, 0), (28, .iload 4, 2, 0, 0, 0)] (pc' := 30) (lc' := [(4, (0, 0, y1)), (0, (3, 274, (a0 : Int))), (1, (0, 0, w1)), (2, (0, 0, v2)), (3, (0, 0, (i : Int)))]) (st' := [(0, 0, y1), (3, 274, (a0 : Int)), (0, 0, 1), (0, 0, v2)]) (M' := M) (C' := True) (by decide +kernel) rfl trivial ?_
    refine ax_cSi (G1 := gX3_pageAt) (d1 := d + 0) (i := 188) (n := 2) (as := [(3, 274, (a0 : Int)), (0, 0, y1)]) (st := [(0, 0, 1), (0, 0, v2)]) (by decide +kernel) calX3_pageAt (by omega) rfl wt_1104 wt_1105 (Nat.le_of_ble_eq_true rfl) rfl (c_X3_pageAt d a0 y1 M (by omega)) (fun hc5 => ?_)
    refine ax_lump ax_layM ok_kX3 [(33, .iconst 4, 1, 0, 0, 0), (34, .idiv, 1, 0, 0, 0), (35, .ishl, 1, 0, 0, 0), (36, .goto 4, 3, 40, 0, 0), (40, .ior, 1, 0, 0, 0), (41, .istore_n 2, 1, 0, 0, 0)] (pc' := 42) (lc' := [(2, (0, 0, (ax_or v2 (ax_shl 1 (ax_div (f_X3_pageAt a0 y1 M) 4))))), (4, (0, 0, y1)), (0, (3, 274, (a0 : Int))), (1, (0, 0, w1)), (3, (0, 0, (i : Int)))]) (st' := []) (M' := M) (C' := (True ∧ 4 ≠ 0)) (by decide +kernel) rfl ⟨trivial, by omega⟩ ?_
    refine ax_bdI0 (e := (ax_or v2 (ax_shl 1 (ax_div (f_X3_pageAt a0 y1 M) 4)))) (fun y6 => [(2, (0, 0, y6)), (4, (0, 0, y1)), (0, (3, 274, (a0 : Int))), (1, (0, 0, w1)), (3, (0, 0, (i : Int)))]) (fun y6 => []) (fun y6 => ?_)
    refine ax_lump ax_layM ok_kX3 [(42, .iinc 3 1, 3, 1, 0, 0), (45, .goto (-41), 3, 4, 0, 0)] (pc' := 4) (lc' := [(3, (0, 0, ((i : Int) + 1))), (2, (0, 0, y6)), (4, (0, 0, y1)), (0, (3, 274, (a0 : Int))), (1, (0, 0, w1))]) (st' := []) (M' := M) (C' := (True ∧ ax_r32 ((i : Int) + 1))) (by decide +kernel) rfl ⟨trivial, ⟨by omega, by omega⟩⟩ ?_
    refine ax_pk [3,4,1,0] (lc' := [(0, (3, 274, (a0 : Int))), (1, (0, 0, w1)), (2, (0, 0, y6)), (3, (0, 0, ((i : Int) + 1)))]) rfl ?_
    exact hkc y6 
set_option maxRecDepth 100000 in
set_option maxHeartbeats 4000000 in
theorem w_X3_foldersIn_L4 (d : Nat) (a0 : Nat) (w1 : Int) (M : ax_M) (kx : Int → Int) (hw_w1 : 0 ≤ w1 ∧ w1 ≤ 15) (hkx : ∀ (x2 : Int), (True) → ax_W ax_LM gX3_foldersIn (d + 4) 48 [(2, (0, 0, x2))] [] M ((ax_qi (-2147483648) 2147483647 M) (kx x2))) : ∀ (n : Nat) (i : Nat) (v2 : Int), 0 ≤ i ∧ i + n = 4 → ax_W ax_LM gX3_foldersIn (d + 4) 4 [(0, (3, 274, (a0 : Int))), (1, (0, 0, w1)), (2, (0, 0, v2)), (3, (0, 0, (i : Int)))] [] M ((ax_qi (-2147483648) 2147483647 M) (f_X3_foldersIn_L4 a0 w1 M n i v2 kx)) := by
  intro n
  induction n with
  | zero =>
    intro i v2 hin
    refine ax_lump ax_layM ok_kX3 [(4, .iload_n 3, 1, 0, 0, 0), (5, .iconst 4, 1, 0, 0, 0)] (pc' := 6) (lc' := [(0, (3, 274, (a0 : Int))), (1, (0, 0, w1)), (2, (0, 0, v2)), (3, (0, 0, (i : Int)))]) (st' := [(0, 0, 4), (0, 0, (i : Int))]) (M' := M) (C' := True) (by decide +kernel) rfl trivial ?_
    refine ax_icmp_ge (off := 42) (tgt := 48) (by decide +kernel) (by decide) (fun h => ?_) (fun h => ?_)
    · refine ax_pk [2] (lc' := [(2, (0, 0, v2))]) rfl ?_
      exact hkx v2 trivial
    · exfalso; omega
  | succ n ih =>
    intro i v2 hin
    refine ax_lump ax_layM ok_kX3 [(4, .iload_n 3, 1, 0, 0, 0), (5, .iconst 4, 1, 0, 0, 0)] (pc' := 6) (lc' := [(0, (3, 274, (a0 : Int))), (1, (0, 0, w1)), (2, (0, 0, v2)), (3, (0, 0, (i : Int)))]) (st' := [(0, 0, 4), (0, 0, (i : Int))]) (M' := M) (C' := True) (by decide +kernel) rfl trivial ?_
    refine ax_icmp_ge (off := 42) (tgt := 48) (by decide +kernel) (by decide) (fun h => ?_) (fun h => ?_)
    · exfalso; omega
    · exact wb_X3_foldersIn_B4 d a0 w1 M i v2 _ kx hw_w1 (by omega)  (fun u2 => ih (i + 1) u2 (by omega) ) hkx
def f_X3_foldersIn (a0 : Nat) (x1 : Int) (M : ax_M) : Int := f_X3_foldersIn_L4 a0 x1 M 4 0 0 (fun z7 => z7)
set_option maxRecDepth 100000 in
set_option maxHeartbeats 4000000 in
theorem c_X3_foldersIn (d : Nat) (a0 : Nat) (x1 : Int) (M : ax_M) (hp1 : 0 ≤ x1 ∧ x1 ≤ 15) : ax_Met ax_LM gX3_foldersIn (d + 4) [(3, 274, (a0 : Int)), (0, 0, x1)] M ((ax_qi (-2147483648) 2147483647 M) (f_X3_foldersIn a0 x1 M)) := by
  refine ax_body (by decide) (fun X => Nat.le_of_ble_eq_true rfl) (fun hok => ?_)
  have hr_x1 : (-2147483648) ≤ x1 ∧ x1 ≤ 2147483647 := hok (0, 0, x1) (by simp)
  show ax_W ax_LM gX3_foldersIn (d + 4) 0 [(0, (3, 274, (a0 : Int))), (1, (0, 0, x1))] [] M _
  unfold f_X3_foldersIn
  refine ax_lump ax_layM ok_kX3 [(0, .iconst 0, 1, 0, 0, 0), (1, .istore_n 2, 1, 0, 0, 0), (2, .iconst 0, 1, 0, 0, 0), (3, .istore_n 3, 1, 0, 0, 0)] (pc' := 4) (lc' := [(3, (0, 0, 0)), (2, (0, 0, 0)), (0, (3, 274, (a0 : Int))), (1, (0, 0, x1))]) (st' := []) (M' := M) (C' := True) (by decide +kernel) rfl trivial ?_
  refine ax_pk [2,3,1,0] (lc' := [(0, (3, 274, (a0 : Int))), (1, (0, 0, x1)), (2, (0, 0, 0)), (3, (0, 0, 0))]) rfl ?_
  refine w_X3_foldersIn_L4 d a0 x1 M _ (by omega) (fun z7 hx_7 => ?_) 4 0 0 (by omega) 
  refine ax_lump ax_layM ok_kX3 [(48, .iload_n 2, 1, 0, 0, 0)] (pc' := 49) (lc' := [(2, (0, 0, z7))]) (st' := [(0, 0, z7)]) (M' := M) (C' := True) (by decide +kernel) rfl trivial ?_
  refine ax_rngS (fun hr => ?_)
  exact ax_iret (by decide +kernel) rfl ⟨rfl, rfl, hr.1, hr.2⟩
def f_X3_clearsLog_B13 (a1 : Nat) (w3 : Int) (i : Nat) (v4 : Int) (M : ax_M) (kc : Int → ax_M → Prop × Int × ax_M) (kx : Int → ax_M → Prop × Int × ax_M) : Prop × Int × ax_M := ax_rq ((0 ≤ w3 ∧ w3 ≤ 15)) ((if (f_X3_has (f_X3_foldersIn a1 w3 M) (i : Int) M) = 0 then kc v4 M else ax_rc (f_X3_mergesAll a1 (i : Int) M) (fun y7 => kc (v4 + 1) y7.2)))
def f_X3_clearsLog_L13 (a1 : Nat) (w3 : Int) : Nat → Nat → Int → ax_M → (Int → ax_M → Prop × Int × ax_M) → Prop × Int × ax_M
  | 0, i, v4, M, kx => kx v4 M
  | n + 1, i, v4, M, kx => f_X3_clearsLog_B13 a1 w3 i v4 M (fun u4 M9 => f_X3_clearsLog_L13 a1 w3 n (i + 1) u4 M9 kx) kx
set_option maxRecDepth 100000 in
set_option maxHeartbeats 4000000 in
theorem wb_X3_clearsLog_B13 (d : Nat) (a1 : Nat) (w3 : Int) (i : Nat) (v4 : Int) (M : ax_M) (kc : Int → ax_M → Prop × Int × ax_M) (kx : Int → ax_M → Prop × Int × ax_M) (hw_w3 : (-1) ≤ w3 ∧ w3 ≤ 15) (hi : 0 ≤ i ∧ i < 6) (hv4 : 0 ≤ v4 ∧ v4 ≤ 0 + 1 * ((i : Int) - 0)) (hkc : ∀ (u4 : Int) (M9 : ax_M), 0 ≤ u4 ∧ u4 ≤ 0 + 1 * (((i : Int) + 1) - 0) → (kc u4 M9).1 → ax_W ax_LM gX3_clearsLog (d + 5) 13 [(0, (2, 3, 0)), (1, (3, 274, (a1 : Int))), (3, (0, 0, w3)), (4, (0, 0, u4)), (5, (0, 0, ((i : Int) + 1)))] [] M9 ((ax_qm 0 6) (kc u4 M9).2)) (hkx : ∀ (x4 : Int) (M9 : ax_M), ((0 ≤ x4 ∧ x4 ≤ 6)) → (kx x4 M9).1 → ax_W ax_LM gX3_clearsLog (d + 5) 50 [(0, (2, 3, 0)), (1, (3, 274, (a1 : Int))), (3, (0, 0, w3)), (4, (0, 0, x4))] [] M9 ((ax_qm 0 6) (kx x4 M9).2)) (hX : (f_X3_clearsLog_B13 a1 w3 i v4 M kc kx).1) : ax_W ax_LM gX3_clearsLog (d + 5) 20 [(0, (2, 3, 0)), (1, (3, 274, (a1 : Int))), (3, (0, 0, w3)), (4, (0, 0, v4)), (5, (0, 0, (i : Int)))] [] M ((ax_qm 0 6) (f_X3_clearsLog_B13 a1 w3 i v4 M kc kx).2) := by
  unfold f_X3_clearsLog_B13 at hX ⊢
  refine ax_rq_s hX (fun hS3 hX => ?_)
  refine ax_lump ax_layM ok_kX3 [(20, .aload_n 1, 1, 0, 0, 0), (21, .iload_n 3, 1, 0, 0, 0)] (pc' := 22) (lc' := [(0, (2, 3, 0)), (1, (3, 274, (a1 : Int))), (3, (0, 0, w3)), (4, (0, 0, v4)), (5, (0, 0, (i : Int)))]) (st' := [(0, 0, w3), (3, 274, (a1 : Int))]) (M' := M) (C' := True) (by decide +kernel) rfl trivial ?_
  refine ax_cSi (G1 := gX3_foldersIn) (d1 := d + 4) (i := 251) (n := 2) (as := [(3, 274, (a1 : Int)), (0, 0, w3)]) (st := []) (by decide +kernel) calX3_foldersIn (by omega) rfl wt_1216 wt_1217 (Nat.le_of_ble_eq_true rfl) rfl (c_X3_foldersIn d a1 w3 M (hS3)) (fun hc4 => ?_)
  refine ax_lump ax_layM ok_kX3 [(25, .iload 5, 2, 0, 0, 0)] (pc' := 27) (lc' := [(0, (2, 3, 0)), (1, (3, 274, (a1 : Int))), (3, (0, 0, w3)), (4, (0, 0, v4)), (5, (0, 0, (i : Int)))]) (st' := [(0, 0, (i : Int)), (0, 0, (f_X3_foldersIn a1 w3 M))]) (M' := M) (C' := True) (by decide +kernel) rfl trivial ?_
  refine ax_cSi (G1 := gX3_has) (d1 := d + 0) (i := 254) (n := 2) (as := [(0, 0, (f_X3_foldersIn a1 w3 M)), (0, 0, (i : Int))]) (st := []) (by decide +kernel) calX3_has (by omega) rfl wt_1219 wt_1220 (Nat.le_of_ble_eq_true rfl) rfl (c_X3_has d (f_X3_foldersIn a1 w3 M) (i : Int) M) (fun hc5 => ?_)
  refine ax_zeq_s hX (off := 14) (tgt := 44) (by decide +kernel) (by decide) (fun h6 hX => ?_) (fun h6 hX => ?_)
  · refine ax_lump ax_layM ok_kX3 [(44, .iinc 5 1, 3, 1, 0, 0), (47, .goto (-34), 3, 13, 0, 0)] (pc' := 13) (lc' := [(5, (0, 0, ((i : Int) + 1))), (0, (2, 3, 0)), (1, (3, 274, (a1 : Int))), (3, (0, 0, w3)), (4, (0, 0, v4))]) (st' := []) (M' := M) (C' := (True ∧ ax_r32 ((i : Int) + 1))) (by decide +kernel) rfl ⟨trivial, ⟨by omega, by omega⟩⟩ ?_
    refine ax_pk [1,2,3,4,0] (lc' := [(0, (2, 3, 0)), (1, (3, 274, (a1 : Int))), (3, (0, 0, w3)), (4, (0, 0, v4)), (5, (0, 0, ((i : Int) + 1)))]) rfl ?_
    exact hkc v4 M (by omega) hX
  · refine ax_lump ax_layM ok_kX3 [(33, .aload_n 0, 1, 0, 0, 0), (34, .aload_n 1, 1, 0, 0, 0), (35, .iload 5, 2, 0, 0, 0)] (pc' := 37) (lc' := [(0, (2, 3, 0)), (1, (3, 274, (a1 : Int))), (3, (0, 0, w3)), (4, (0, 0, v4)), (5, (0, 0, (i : Int)))]) (st' := [(0, 0, (i : Int)), (3, 274, (a1 : Int)), (2, 3, 0)]) (M' := M) (C' := True) (by decide +kernel) rfl trivial ?_
    refine ax_cVm_r hX (G1 := gX3_mergesAll) (d1 := d + 4) (i := 248) (n := 2) (as := [(3, 274, (a1 : Int)), (0, 0, (i : Int))]) (st := []) (c := 3) (a := 0) (by decide +kernel) ax_cls3 calX3_mergesAll (by omega) rfl wt_1168 wt_1170 ws_86 (Nat.le_of_ble_eq_true rfl) rfl (fun hY => c_X3_mergesAll d a1 (i : Int) M hY) (fun y7 h_y7 hX => ?_)
    refine ax_lump ax_layM ok_kX3 [(40, .pop, 1, 0, 0, 0), (41, .iinc 4 1, 3, 1, 0, 0), (44, .iinc 5 1, 3, 1, 0, 0), (47, .goto (-34), 3, 13, 0, 0)] (pc' := 13) (lc' := [(5, (0, 0, ((i : Int) + 1))), (4, (0, 0, (v4 + 1))), (0, (2, 3, 0)), (1, (3, 274, (a1 : Int))), (3, (0, 0, w3))]) (st' := []) (M' := y7.2) (C' := ((True ∧ ax_r32 (v4 + 1)) ∧ ax_r32 ((i : Int) + 1))) (by decide +kernel) rfl ⟨⟨trivial, ⟨by omega, by omega⟩⟩, ⟨by omega, by omega⟩⟩ ?_
    refine ax_pk [2,3,4,1,0] (lc' := [(0, (2, 3, 0)), (1, (3, 274, (a1 : Int))), (3, (0, 0, w3)), (4, (0, 0, (v4 + 1))), (5, (0, 0, ((i : Int) + 1)))]) rfl ?_
    exact hkc (v4 + 1) y7.2 (by omega) hX
set_option maxRecDepth 100000 in
set_option maxHeartbeats 4000000 in
theorem w_X3_clearsLog_L13 (d : Nat) (a1 : Nat) (w3 : Int) (kx : Int → ax_M → Prop × Int × ax_M) (hw_w3 : (-1) ≤ w3 ∧ w3 ≤ 15) (hkx : ∀ (x4 : Int) (M9 : ax_M), ((0 ≤ x4 ∧ x4 ≤ 6)) → (kx x4 M9).1 → ax_W ax_LM gX3_clearsLog (d + 5) 50 [(0, (2, 3, 0)), (1, (3, 274, (a1 : Int))), (3, (0, 0, w3)), (4, (0, 0, x4))] [] M9 ((ax_qm 0 6) (kx x4 M9).2)) : ∀ (n : Nat) (i : Nat) (v4 : Int) (M : ax_M), 0 ≤ i ∧ i + n = 6 → 0 ≤ v4 ∧ v4 ≤ 0 + 1 * ((i : Int) - 0) → (f_X3_clearsLog_L13 a1 w3 n i v4 M kx).1 → ax_W ax_LM gX3_clearsLog (d + 5) 13 [(0, (2, 3, 0)), (1, (3, 274, (a1 : Int))), (3, (0, 0, w3)), (4, (0, 0, v4)), (5, (0, 0, (i : Int)))] [] M ((ax_qm 0 6) (f_X3_clearsLog_L13 a1 w3 n i v4 M kx).2) := by
  intro n
  induction n with
  | zero =>
    intro i v4 M hin hv4 hX
    refine ax_lump ax_layM ok_kX3 [(13, .iload 5, 2, 0, 0, 0), (15, .bipush 6, 2, 0, 0, 0)] (pc' := 17) (lc' := [(0, (2, 3, 0)), (1, (3, 274, (a1 : Int))), (3, (0, 0, w3)), (4, (0, 0, v4)), (5, (0, 0, (i : Int)))]) (st' := [(0, 0, 6), (0, 0, (i : Int))]) (M' := M) (C' := True) (by decide +kernel) rfl trivial ?_
    refine ax_icmp_ge (off := 33) (tgt := 50) (by decide +kernel) (by decide) (fun h => ?_) (fun h => ?_)
    · refine ax_pk [0,1,2,3] (lc' := [(0, (2, 3, 0)), (1, (3, 274, (a1 : Int))), (3, (0, 0, w3)), (4, (0, 0, v4))]) rfl ?_
      exact hkx v4 M (by omega) hX
    · exfalso; omega
  | succ n ih =>
    intro i v4 M hin hv4 hX
    refine ax_lump ax_layM ok_kX3 [(13, .iload 5, 2, 0, 0, 0), (15, .bipush 6, 2, 0, 0, 0)] (pc' := 17) (lc' := [(0, (2, 3, 0)), (1, (3, 274, (a1 : Int))), (3, (0, 0, w3)), (4, (0, 0, v4)), (5, (0, 0, (i : Int)))]) (st' := [(0, 0, 6), (0, 0, (i : Int))]) (M' := M) (C' := True) (by decide +kernel) rfl trivial ?_
    refine ax_icmp_ge (off := 33) (tgt := 50) (by decide +kernel) (by decide) (fun h => ?_) (fun h => ?_)
    · exfalso; omega
    · exact wb_X3_clearsLog_B13 d a1 w3 i v4 M _ kx hw_w3 (by omega) hv4 (fun u4 M9 hu4 hX => ih (i + 1) u4 M9 (by omega) (by omega) hX) hkx hX
def f_X3_clearsLog (a1 : Nat) (x2 : Int) (M : ax_M) : Prop × Int × ax_M := ax_bd (f_X3_blockOf a1 x2 0 M) (fun y2 => f_X3_clearsLog_L13 a1 y2 6 0 0 M (fun z8 M9 => ax_rq ((0 ≤ y2 ∧ y2 ≤ 15)) (ax_bd (f_X3_wipes a1 y2 M9) (fun M11 => (True, (z8, M11))))))
set_option maxRecDepth 100000 in
set_option maxHeartbeats 4000000 in
theorem c_X3_clearsLog (d : Nat) (a1 : Nat) (x2 : Int) (M : ax_M)  (hX : (f_X3_clearsLog a1 x2 M).1) : ax_Met ax_LM gX3_clearsLog (d + 5) [(2, 3, 0), (3, 274, (a1 : Int)), (0, 0, x2)] M ((ax_qm 0 6) (f_X3_clearsLog a1 x2 M).2) := by
  refine ax_body (by decide) (fun X => Nat.le_of_ble_eq_true rfl) (fun hok => ?_)
  have hr_x2 : (-2147483648) ≤ x2 ∧ x2 ≤ 2147483647 := hok (0, 0, x2) (by simp)
  show ax_W ax_LM gX3_clearsLog (d + 5) 0 [(0, (2, 3, 0)), (1, (3, 274, (a1 : Int))), (2, (0, 0, x2))] [] M _
  unfold f_X3_clearsLog at hX ⊢
  refine ax_lump ax_layM ok_kX3 [(0, .aload_n 1, 1, 0, 0, 0), (1, .iload_n 2, 1, 0, 0, 0), (2, .iconst 0, 1, 0, 0, 0)] (pc' := 3) (lc' := [(0, (2, 3, 0)), (1, (3, 274, (a1 : Int))), (2, (0, 0, x2))]) (st' := [(0, 0, 0), (0, 0, x2), (3, 274, (a1 : Int))]) (M' := M) (C' := True) (by decide +kernel) rfl trivial ?_
  refine ax_cSi (G1 := gX3_blockOf) (d1 := d + 0) (i := 228) (n := 3) (as := [(3, 274, (a1 : Int)), (0, 0, x2), (0, 0, 0)]) (st := []) (by decide +kernel) calX3_blockOf (by omega) rfl wt_1152 wt_1153 (Nat.le_of_ble_eq_true rfl) rfl (c_X3_blockOf d a1 x2 0 M) (fun hc1 => ?_)
  refine ax_lump ax_layM ok_kX3 [(6, .istore_n 3, 1, 0, 0, 0)] (pc' := 7) (lc' := [(3, (0, 0, (f_X3_blockOf a1 x2 0 M))), (0, (2, 3, 0)), (1, (3, 274, (a1 : Int))), (2, (0, 0, x2))]) (st' := []) (M' := M) (C' := True) (by decide +kernel) rfl trivial ?_
  refine ax_bdI_s hX (lo := (-1)) (hi := 15) (e := (f_X3_blockOf a1 x2 0 M)) (fun y2 => [(3, (0, 0, y2)), (0, (2, 3, 0)), (1, (3, 274, (a1 : Int))), (2, (0, 0, x2))]) (fun y2 => []) (by omega) (fun y2 h_y2 hX => ?_)
  refine ax_lump ax_layM ok_kX3 [(7, .iconst 0, 1, 0, 0, 0), (8, .istore 4, 2, 0, 0, 0), (10, .iconst 0, 1, 0, 0, 0), (11, .istore 5, 2, 0, 0, 0)] (pc' := 13) (lc' := [(5, (0, 0, 0)), (4, (0, 0, 0)), (3, (0, 0, y2)), (0, (2, 3, 0)), (1, (3, 274, (a1 : Int))), (2, (0, 0, x2))]) (st' := []) (M' := M) (C' := True) (by decide +kernel) rfl trivial ?_
  refine ax_pk [3,4,2,1,0] (lc' := [(0, (2, 3, 0)), (1, (3, 274, (a1 : Int))), (3, (0, 0, y2)), (4, (0, 0, 0)), (5, (0, 0, 0))]) rfl ?_
  refine w_X3_clearsLog_L13 d a1 y2 _ (by omega) (fun z8 M9 hx_9 hX => ?_) 6 0 0 M (by omega) (by omega) hX
  refine ax_rq_s hX (fun hS10 hX => ?_)
  refine ax_lump ax_layM ok_kX3 [(50, .aload_n 0, 1, 0, 0, 0), (51, .aload_n 1, 1, 0, 0, 0), (52, .iload_n 3, 1, 0, 0, 0)] (pc' := 53) (lc' := [(0, (2, 3, 0)), (1, (3, 274, (a1 : Int))), (3, (0, 0, y2)), (4, (0, 0, z8))]) (st' := [(0, 0, y2), (3, 274, (a1 : Int)), (2, 3, 0)]) (M' := M9) (C' := True) (by decide +kernel) rfl trivial ?_
  refine ax_cVv_s hX (G1 := gX3_wipes) (d1 := d + 2) (i := 239) (n := 2) (as := [(3, 274, (a1 : Int)), (0, 0, y2)]) (st := []) (c := 3) (a := 0) (by decide +kernel) ax_cls3 calX3_wipes (by omega) rfl wt_1192 wt_1194 ws_91 (Nat.le_of_ble_eq_true rfl) rfl (c_X3_wipes d a1 y2 M9 (hS10)) (fun M11 hX => ?_)
  refine ax_lump ax_layM ok_kX3 [(56, .iload 4, 2, 0, 0, 0)] (pc' := 58) (lc' := [(0, (2, 3, 0)), (1, (3, 274, (a1 : Int))), (3, (0, 0, y2)), (4, (0, 0, z8))]) (st' := [(0, 0, z8)]) (M' := M11) (C' := True) (by decide +kernel) rfl trivial ?_
  exact ax_iret (by decide +kernel) rfl ⟨rfl, rfl, (show (0 : Int) ≤ z8 from by omega), (show z8 ≤ (6 : Int) from by omega)⟩
def f_X3_toLevel_B4 (a0 : Nat) (w1 : Int) (M : ax_M) (i : Nat) (v2 : Int) (kc : Int → Int) (kx : Int → Int) : Int := (if 0 ≤ v2 then (if w1 ≠ 1 then ax_bd (ax_wr ((M a0 (224 + (i : Int)).toNat) - (M a0 (224 + v2).toNat))) (fun y3 => (if (M a0 (192 + (i : Int)).toNat) ≠ w1 then kc v2 else (if y3 ≤ 0 then kc v2 else kc (i : Int)))) else ax_bd (ax_wr ((M a0 (224 + v2).toNat) - (M a0 (224 + (i : Int)).toNat))) (fun y6 => (if (M a0 (192 + (i : Int)).toNat) ≠ w1 then kc v2 else (if y6 ≤ 0 then kc v2 else kc (i : Int))))) else (if (M a0 (192 + (i : Int)).toNat) ≠ w1 then kc v2 else kc (i : Int)))
def f_X3_toLevel_L4 (a0 : Nat) (w1 : Int) (M : ax_M) : Nat → Nat → Int → (Int → Int) → Int
  | 0, i, v2, kx => kx v2
  | n + 1, i, v2, kx => f_X3_toLevel_B4 a0 w1 M i v2 (fun u2 => f_X3_toLevel_L4 a0 w1 M n (i + 1) u2 kx) kx
set_option maxRecDepth 100000 in
set_option maxHeartbeats 4000000 in
theorem wb_X3_toLevel_B4 (d : Nat) (a0 : Nat) (w1 : Int) (M : ax_M) (i : Nat) (v2 : Int) (kc : Int → Int) (kx : Int → Int)  (hi : 0 ≤ i ∧ i < 16) (hv2 : (-1) ≤ v2 ∧ v2 ≤ 15) (hkc : ∀ (u2 : Int), (-1) ≤ u2 ∧ u2 ≤ 15 → ax_W ax_LM gX3_toLevel (d + 0) 4 [(0, (3, 274, (a0 : Int))), (1, (0, 0, w1)), (2, (0, 0, u2)), (3, (0, 0, ((i : Int) + 1)))] [] M ((ax_qi (-1) 15 M) (kc u2))) (hkx : ∀ (x2 : Int), (((-1) ≤ x2 ∧ x2 ≤ 15)) → ax_W ax_LM gX3_toLevel (d + 0) 86 [(2, (0, 0, x2))] [] M ((ax_qi (-1) 15 M) (kx x2))) : ax_W ax_LM gX3_toLevel (d + 0) 10 [(0, (3, 274, (a0 : Int))), (1, (0, 0, w1)), (2, (0, 0, v2)), (3, (0, 0, (i : Int)))] [] M ((ax_qi (-1) 15 M) (f_X3_toLevel_B4 a0 w1 M i v2 kc kx)) := by
  unfold f_X3_toLevel_B4
  refine ax_lump ax_layM ok_kX3 [(10, .iload_n 2, 1, 0, 0, 0)] (pc' := 11) (lc' := [(0, (3, 274, (a0 : Int))), (1, (0, 0, w1)), (2, (0, 0, v2)), (3, (0, 0, (i : Int)))]) (st' := [(0, 0, v2)]) (M' := M) (C' := True) (by decide +kernel) rfl trivial ?_
  refine ax_zge (off := 7) (tgt := 18) (by decide +kernel) (by decide) (fun h1 => ?_) (fun h1 => ?_)
  · refine ax_lump ax_layM ok_kX3 [(18, .iload_n 1, 1, 0, 0, 0), (19, .iconst 1, 1, 0, 0, 0)] (pc' := 20) (lc' := [(0, (3, 274, (a0 : Int))), (1, (0, 0, w1)), (2, (0, 0, v2)), (3, (0, 0, (i : Int)))]) (st' := [(0, 0, 1), (0, 0, w1)]) (M' := M) (C' := True) (by decide +kernel) rfl trivial ?_
    refine ax_jne (off := 21) (tgt := 41) (by decide +kernel) (by decide) (fun h2 => ?_) (fun h2 => ?_)
    · refine ax_lump ax_layM ok_kX3 [(41, .aload_n 0, 1, 0, 0, 0), (42, .sipush 224, 3, 0, 0, 0), (45, .iload_n 3, 1, 0, 0, 0), (46, .iadd, 1, 1, 0, 0), (47, .iaload, 1, 0, 0, 0), (48, .aload_n 0, 1, 0, 0, 0), (49, .sipush 224, 3, 0, 0, 0), (52, .iload_n 2, 1, 0, 0, 0), (53, .iadd, 1, 1, 0, 0), (54, .iaload, 1, 0, 0, 0), (55, .isub, 1, 0, 0, 0), (56, .istore 4, 2, 0, 0, 0)] (pc' := 58) (lc' := [(4, (0, 0, (ax_wr ((M a0 (224 + (i : Int)).toNat) - (M a0 (224 + v2).toNat))))), (0, (3, 274, (a0 : Int))), (1, (0, 0, w1)), (2, (0, 0, v2)), (3, (0, 0, (i : Int)))]) (st' := []) (M' := M) (C' := ((((True ∧ ax_r32 (224 + (i : Int))) ∧ (0 ≤ (224 + (i : Int)) ∧ (224 + (i : Int)) < ((274 : Nat) : Int))) ∧ ax_r32 (224 + v2)) ∧ (0 ≤ (224 + v2) ∧ (224 + v2) < ((274 : Nat) : Int)))) (by decide +kernel) rfl ⟨⟨⟨⟨trivial, ⟨by omega, by omega⟩⟩, by omega⟩, ⟨by omega, by omega⟩⟩, by omega⟩ ?_
      refine ax_bdI0 (e := (ax_wr ((M a0 (224 + (i : Int)).toNat) - (M a0 (224 + v2).toNat)))) (fun y3 => [(4, (0, 0, y3)), (0, (3, 274, (a0 : Int))), (1, (0, 0, w1)), (2, (0, 0, v2)), (3, (0, 0, (i : Int)))]) (fun y3 => []) (fun y3 => ?_)
      refine ax_lump ax_layM ok_kX3 [(58, .aload_n 0, 1, 0, 0, 0), (59, .sipush 192, 3, 0, 0, 0), (62, .iload_n 3, 1, 0, 0, 0), (63, .iadd, 1, 1, 0, 0), (64, .iaload, 1, 0, 0, 0), (65, .iload_n 1, 1, 0, 0, 0)] (pc' := 66) (lc' := [(4, (0, 0, y3)), (0, (3, 274, (a0 : Int))), (1, (0, 0, w1)), (2, (0, 0, v2)), (3, (0, 0, (i : Int)))]) (st' := [(0, 0, w1), (0, 0, (M a0 (192 + (i : Int)).toNat))]) (M' := M) (C' := ((True ∧ ax_r32 (192 + (i : Int))) ∧ (0 ≤ (192 + (i : Int)) ∧ (192 + (i : Int)) < ((274 : Nat) : Int)))) (by decide +kernel) rfl ⟨⟨trivial, ⟨by omega, by omega⟩⟩, by omega⟩ ?_
      refine ax_jne (off := 12) (tgt := 78) (by decide +kernel) (by decide) (fun h4 => ?_) (fun h4 => ?_)
      · refine ax_lump ax_layM ok_kX3 [(78, .iload_n 2, 1, 0, 0, 0), (79, .istore_n 2, 1, 0, 0, 0), (80, .iinc 3 1, 3, 1, 0, 0), (83, .goto (-79), 3, 4, 0, 0)] (pc' := 4) (lc' := [(3, (0, 0, ((i : Int) + 1))), (2, (0, 0, v2)), (4, (0, 0, y3)), (0, (3, 274, (a0 : Int))), (1, (0, 0, w1))]) (st' := []) (M' := M) (C' := (True ∧ ax_r32 ((i : Int) + 1))) (by decide +kernel) rfl ⟨trivial, ⟨by omega, by omega⟩⟩ ?_
        refine ax_pk [3,4,1,0] (lc' := [(0, (3, 274, (a0 : Int))), (1, (0, 0, w1)), (2, (0, 0, v2)), (3, (0, 0, ((i : Int) + 1)))]) rfl ?_
        exact hkc v2 (by omega)
      · refine ax_lump ax_layM ok_kX3 [(69, .iload 4, 2, 0, 0, 0)] (pc' := 71) (lc' := [(4, (0, 0, y3)), (0, (3, 274, (a0 : Int))), (1, (0, 0, w1)), (2, (0, 0, v2)), (3, (0, 0, (i : Int)))]) (st' := [(0, 0, y3)]) (M' := M) (C' := True) (by decide +kernel) rfl trivial ?_
        refine ax_zle (off := 7) (tgt := 78) (by decide +kernel) (by decide) (fun h5 => ?_) (fun h5 => ?_)
        · refine ax_lump ax_layM ok_kX3 [(78, .iload_n 2, 1, 0, 0, 0), (79, .istore_n 2, 1, 0, 0, 0), (80, .iinc 3 1, 3, 1, 0, 0), (83, .goto (-79), 3, 4, 0, 0)] (pc' := 4) (lc' := [(3, (0, 0, ((i : Int) + 1))), (2, (0, 0, v2)), (4, (0, 0, y3)), (0, (3, 274, (a0 : Int))), (1, (0, 0, w1))]) (st' := []) (M' := M) (C' := (True ∧ ax_r32 ((i : Int) + 1))) (by decide +kernel) rfl ⟨trivial, ⟨by omega, by omega⟩⟩ ?_
          refine ax_pk [3,4,1,0] (lc' := [(0, (3, 274, (a0 : Int))), (1, (0, 0, w1)), (2, (0, 0, v2)), (3, (0, 0, ((i : Int) + 1)))]) rfl ?_
          exact hkc v2 (by omega)
        · refine ax_lump ax_layM ok_kX3 [(74, .iload_n 3, 1, 0, 0, 0), (75, .goto 4, 3, 79, 0, 0), (79, .istore_n 2, 1, 0, 0, 0), (80, .iinc 3 1, 3, 1, 0, 0), (83, .goto (-79), 3, 4, 0, 0)] (pc' := 4) (lc' := [(3, (0, 0, ((i : Int) + 1))), (2, (0, 0, (i : Int))), (4, (0, 0, y3)), (0, (3, 274, (a0 : Int))), (1, (0, 0, w1))]) (st' := []) (M' := M) (C' := (True ∧ ax_r32 ((i : Int) + 1))) (by decide +kernel) rfl ⟨trivial, ⟨by omega, by omega⟩⟩ ?_
          refine ax_pk [3,4,1,0] (lc' := [(0, (3, 274, (a0 : Int))), (1, (0, 0, w1)), (2, (0, 0, (i : Int))), (3, (0, 0, ((i : Int) + 1)))]) rfl ?_
          exact hkc (i : Int) (by omega)
    · refine ax_lump ax_layM ok_kX3 [(23, .aload_n 0, 1, 0, 0, 0), (24, .sipush 224, 3, 0, 0, 0), (27, .iload_n 2, 1, 0, 0, 0), (28, .iadd, 1, 1, 0, 0), (29, .iaload, 1, 0, 0, 0), (30, .aload_n 0, 1, 0, 0, 0), (31, .sipush 224, 3, 0, 0, 0), (34, .iload_n 3, 1, 0, 0, 0), (35, .iadd, 1, 1, 0, 0), (36, .iaload, 1, 0, 0, 0), (37, .isub, 1, 0, 0, 0), (38, .goto 18, 3, 56, 0, 0), (56, .istore 4, 2, 0, 0, 0)] (pc' := 58) (lc' := [(4, (0, 0, (ax_wr ((M a0 (224 + v2).toNat) - (M a0 (224 + (i : Int)).toNat))))), (0, (3, 274, (a0 : Int))), (1, (0, 0, w1)), (2, (0, 0, v2)), (3, (0, 0, (i : Int)))]) (st' := []) (M' := M) (C' := ((((True ∧ ax_r32 (224 + v2)) ∧ (0 ≤ (224 + v2) ∧ (224 + v2) < ((274 : Nat) : Int))) ∧ ax_r32 (224 + (i : Int))) ∧ (0 ≤ (224 + (i : Int)) ∧ (224 + (i : Int)) < ((274 : Nat) : Int)))) (by decide +kernel) rfl ⟨⟨⟨⟨trivial, ⟨by omega, by omega⟩⟩, by omega⟩, ⟨by omega, by omega⟩⟩, by omega⟩ ?_
      refine ax_bdI0 (e := (ax_wr ((M a0 (224 + v2).toNat) - (M a0 (224 + (i : Int)).toNat)))) (fun y6 => [(4, (0, 0, y6)), (0, (3, 274, (a0 : Int))), (1, (0, 0, w1)), (2, (0, 0, v2)), (3, (0, 0, (i : Int)))]) (fun y6 => []) (fun y6 => ?_)
      refine ax_lump ax_layM ok_kX3 [(58, .aload_n 0, 1, 0, 0, 0), (59, .sipush 192, 3, 0, 0, 0), (62, .iload_n 3, 1, 0, 0, 0), (63, .iadd, 1, 1, 0, 0), (64, .iaload, 1, 0, 0, 0), (65, .iload_n 1, 1, 0, 0, 0)] (pc' := 66) (lc' := [(4, (0, 0, y6)), (0, (3, 274, (a0 : Int))), (1, (0, 0, w1)), (2, (0, 0, v2)), (3, (0, 0, (i : Int)))]) (st' := [(0, 0, w1), (0, 0, (M a0 (192 + (i : Int)).toNat))]) (M' := M) (C' := ((True ∧ ax_r32 (192 + (i : Int))) ∧ (0 ≤ (192 + (i : Int)) ∧ (192 + (i : Int)) < ((274 : Nat) : Int)))) (by decide +kernel) rfl ⟨⟨trivial, ⟨by omega, by omega⟩⟩, by omega⟩ ?_
      refine ax_jne (off := 12) (tgt := 78) (by decide +kernel) (by decide) (fun h7 => ?_) (fun h7 => ?_)
      · refine ax_lump ax_layM ok_kX3 [(78, .iload_n 2, 1, 0, 0, 0), (79, .istore_n 2, 1, 0, 0, 0), (80, .iinc 3 1, 3, 1, 0, 0), (83, .goto (-79), 3, 4, 0, 0)] (pc' := 4) (lc' := [(3, (0, 0, ((i : Int) + 1))), (2, (0, 0, v2)), (4, (0, 0, y6)), (0, (3, 274, (a0 : Int))), (1, (0, 0, w1))]) (st' := []) (M' := M) (C' := (True ∧ ax_r32 ((i : Int) + 1))) (by decide +kernel) rfl ⟨trivial, ⟨by omega, by omega⟩⟩ ?_
        refine ax_pk [3,4,1,0] (lc' := [(0, (3, 274, (a0 : Int))), (1, (0, 0, w1)), (2, (0, 0, v2)), (3, (0, 0, ((i : Int) + 1)))]) rfl ?_
        exact hkc v2 (by omega)
      · refine ax_lump ax_layM ok_kX3 [(69, .iload 4, 2, 0, 0, 0)] (pc' := 71) (lc' := [(4, (0, 0, y6)), (0, (3, 274, (a0 : Int))), (1, (0, 0, w1)), (2, (0, 0, v2)), (3, (0, 0, (i : Int)))]) (st' := [(0, 0, y6)]) (M' := M) (C' := True) (by decide +kernel) rfl trivial ?_
        refine ax_zle (off := 7) (tgt := 78) (by decide +kernel) (by decide) (fun h8 => ?_) (fun h8 => ?_)
        · refine ax_lump ax_layM ok_kX3 [(78, .iload_n 2, 1, 0, 0, 0), (79, .istore_n 2, 1, 0, 0, 0), (80, .iinc 3 1, 3, 1, 0, 0), (83, .goto (-79), 3, 4, 0, 0)] (pc' := 4) (lc' := [(3, (0, 0, ((i : Int) + 1))), (2, (0, 0, v2)), (4, (0, 0, y6)), (0, (3, 274, (a0 : Int))), (1, (0, 0, w1))]) (st' := []) (M' := M) (C' := (True ∧ ax_r32 ((i : Int) + 1))) (by decide +kernel) rfl ⟨trivial, ⟨by omega, by omega⟩⟩ ?_
          refine ax_pk [3,4,1,0] (lc' := [(0, (3, 274, (a0 : Int))), (1, (0, 0, w1)), (2, (0, 0, v2)), (3, (0, 0, ((i : Int) + 1)))]) rfl ?_
          exact hkc v2 (by omega)
        · refine ax_lump ax_layM ok_kX3 [(74, .iload_n 3, 1, 0, 0, 0), (75, .goto 4, 3, 79, 0, 0), (79, .istore_n 2, 1, 0, 0, 0), (80, .iinc 3 1, 3, 1, 0, 0), (83, .goto (-79), 3, 4, 0, 0)] (pc' := 4) (lc' := [(3, (0, 0, ((i : Int) + 1))), (2, (0, 0, (i : Int))), (4, (0, 0, y6)), (0, (3, 274, (a0 : Int))), (1, (0, 0, w1))]) (st' := []) (M' := M) (C' := (True ∧ ax_r32 ((i : Int) + 1))) (by decide +kernel) rfl ⟨trivial, ⟨by omega, by omega⟩⟩ ?_
          refine ax_pk [3,4,1,0] (lc' := [(0, (3, 274, (a0 : Int))), (1, (0, 0, w1)), (2, (0, 0, (i : Int))), (3, (0, 0, ((i : Int) + 1)))]) rfl ?_
          exact hkc (i : Int) (by omega)
  · refine ax_lump ax_layM ok_kX3 [(14, .iconst 1, 1, 0, 0, 0), (15, .goto 41, 3, 56, 0, 0), (56, .istore 4, 2, 0, 0, 0), (58, .aload_n 0, 1, 0, 0, 0), (59, .sipush 192, 3, 0, 0, 0), (62, .iload_n 3, 1, 0, 0, 0), (63, .iadd, 1, 1, 0, 0), (64, .iaload, 1, 0, 0, 0), (65, .iload_n 1, 1, 0, 0, 0)] (pc' := 66) (lc' := [(4, (0, 0, 1)), (0, (3, 274, (a0 : Int))), (1, (0, 0, w1)), (2, (0, 0, v2)), (3, (0, 0, (i : Int)))]) (st' := [(0, 0, w1), (0, 0, (M a0 (192 + (i : Int)).toNat))]) (M' := M) (C' := ((True ∧ ax_r32 (192 + (i : Int))) ∧ (0 ≤ (192 + (i : Int)) ∧ (192 + (i : Int)) < ((274 : Nat) : Int)))) (by decide +kernel) rfl ⟨⟨trivial, ⟨by omega, by omega⟩⟩, by omega⟩ ?_
    refine ax_jne (off := 12) (tgt := 78) (by decide +kernel) (by decide) (fun h9 => ?_) (fun h9 => ?_)
    · refine ax_lump ax_layM ok_kX3 [(78, .iload_n 2, 1, 0, 0, 0), (79, .istore_n 2, 1, 0, 0, 0), (80, .iinc 3 1, 3, 1, 0, 0), (83, .goto (-79), 3, 4, 0, 0)] (pc' := 4) (lc' := [(3, (0, 0, ((i : Int) + 1))), (2, (0, 0, v2)), (4, (0, 0, 1)), (0, (3, 274, (a0 : Int))), (1, (0, 0, w1))]) (st' := []) (M' := M) (C' := (True ∧ ax_r32 ((i : Int) + 1))) (by decide +kernel) rfl ⟨trivial, ⟨by omega, by omega⟩⟩ ?_
      refine ax_pk [3,4,1,0] (lc' := [(0, (3, 274, (a0 : Int))), (1, (0, 0, w1)), (2, (0, 0, v2)), (3, (0, 0, ((i : Int) + 1)))]) rfl ?_
      exact hkc v2 (by omega)
    · refine ax_lump ax_layM ok_kX3 [(69, .iload 4, 2, 0, 0, 0)] (pc' := 71) (lc' := [(4, (0, 0, 1)), (0, (3, 274, (a0 : Int))), (1, (0, 0, w1)), (2, (0, 0, v2)), (3, (0, 0, (i : Int)))]) (st' := [(0, 0, 1)]) (M' := M) (C' := True) (by decide +kernel) rfl trivial ?_
      refine ax_if_le (off := 7) (tgt := 78) (by decide +kernel) (by decide) (fun h10 => ?_) (fun h10 => ?_)
      · exfalso; omega
      · refine ax_lump ax_layM ok_kX3 [(74, .iload_n 3, 1, 0, 0, 0), (75, .goto 4, 3, 79, 0, 0), (79, .istore_n 2, 1, 0, 0, 0), (80, .iinc 3 1, 3, 1, 0, 0), (83, .goto (-79), 3, 4, 0, 0)] (pc' := 4) (lc' := [(3, (0, 0, ((i : Int) + 1))), (2, (0, 0, (i : Int))), (4, (0, 0, 1)), (0, (3, 274, (a0 : Int))), (1, (0, 0, w1))]) (st' := []) (M' := M) (C' := (True ∧ ax_r32 ((i : Int) + 1))) (by decide +kernel) rfl ⟨trivial, ⟨by omega, by omega⟩⟩ ?_
        refine ax_pk [3,4,1,0] (lc' := [(0, (3, 274, (a0 : Int))), (1, (0, 0, w1)), (2, (0, 0, (i : Int))), (3, (0, 0, ((i : Int) + 1)))]) rfl ?_
        exact hkc (i : Int) (by omega)
set_option maxRecDepth 100000 in
set_option maxHeartbeats 4000000 in
theorem w_X3_toLevel_L4 (d : Nat) (a0 : Nat) (w1 : Int) (M : ax_M) (kx : Int → Int)  (hkx : ∀ (x2 : Int), (((-1) ≤ x2 ∧ x2 ≤ 15)) → ax_W ax_LM gX3_toLevel (d + 0) 86 [(2, (0, 0, x2))] [] M ((ax_qi (-1) 15 M) (kx x2))) : ∀ (n : Nat) (i : Nat) (v2 : Int), 0 ≤ i ∧ i + n = 16 → (-1) ≤ v2 ∧ v2 ≤ 15 → ax_W ax_LM gX3_toLevel (d + 0) 4 [(0, (3, 274, (a0 : Int))), (1, (0, 0, w1)), (2, (0, 0, v2)), (3, (0, 0, (i : Int)))] [] M ((ax_qi (-1) 15 M) (f_X3_toLevel_L4 a0 w1 M n i v2 kx)) := by
  intro n
  induction n with
  | zero =>
    intro i v2 hin hv2
    refine ax_lump ax_layM ok_kX3 [(4, .iload_n 3, 1, 0, 0, 0), (5, .bipush 16, 2, 0, 0, 0)] (pc' := 7) (lc' := [(0, (3, 274, (a0 : Int))), (1, (0, 0, w1)), (2, (0, 0, v2)), (3, (0, 0, (i : Int)))]) (st' := [(0, 0, 16), (0, 0, (i : Int))]) (M' := M) (C' := True) (by decide +kernel) rfl trivial ?_
    refine ax_icmp_ge (off := 79) (tgt := 86) (by decide +kernel) (by decide) (fun h => ?_) (fun h => ?_)
    · refine ax_pk [2] (lc' := [(2, (0, 0, v2))]) rfl ?_
      exact hkx v2 (by omega)
    · exfalso; omega
  | succ n ih =>
    intro i v2 hin hv2
    refine ax_lump ax_layM ok_kX3 [(4, .iload_n 3, 1, 0, 0, 0), (5, .bipush 16, 2, 0, 0, 0)] (pc' := 7) (lc' := [(0, (3, 274, (a0 : Int))), (1, (0, 0, w1)), (2, (0, 0, v2)), (3, (0, 0, (i : Int)))]) (st' := [(0, 0, 16), (0, 0, (i : Int))]) (M' := M) (C' := True) (by decide +kernel) rfl trivial ?_
    refine ax_icmp_ge (off := 79) (tgt := 86) (by decide +kernel) (by decide) (fun h => ?_) (fun h => ?_)
    · exfalso; omega
    · exact wb_X3_toLevel_B4 d a0 w1 M i v2 _ kx  (by omega) hv2 (fun u2 hu2 => ih (i + 1) u2 (by omega) hu2) hkx
def f_X3_toLevel (a0 : Nat) (x1 : Int) (M : ax_M) : Int := f_X3_toLevel_L4 a0 x1 M 16 0 (-1) (fun z11 => z11)
set_option maxRecDepth 100000 in
set_option maxHeartbeats 4000000 in
theorem c_X3_toLevel (d : Nat) (a0 : Nat) (x1 : Int) (M : ax_M)  : ax_Met ax_LM gX3_toLevel (d + 0) [(3, 274, (a0 : Int)), (0, 0, x1)] M ((ax_qi (-1) 15 M) (f_X3_toLevel a0 x1 M)) := by
  refine ax_body (by decide) (fun X => Nat.le_of_ble_eq_true rfl) (fun hok => ?_)
  have hr_x1 : (-2147483648) ≤ x1 ∧ x1 ≤ 2147483647 := hok (0, 0, x1) (by simp)
  show ax_W ax_LM gX3_toLevel (d + 0) 0 [(0, (3, 274, (a0 : Int))), (1, (0, 0, x1))] [] M _
  unfold f_X3_toLevel
  refine ax_lump ax_layM ok_kX3 [(0, .iconst (-1), 1, 0, 0, 0), (1, .istore_n 2, 1, 0, 0, 0), (2, .iconst 0, 1, 0, 0, 0), (3, .istore_n 3, 1, 0, 0, 0)] (pc' := 4) (lc' := [(3, (0, 0, 0)), (2, (0, 0, (-1))), (0, (3, 274, (a0 : Int))), (1, (0, 0, x1))]) (st' := []) (M' := M) (C' := True) (by decide +kernel) rfl trivial ?_
  refine ax_pk [2,3,1,0] (lc' := [(0, (3, 274, (a0 : Int))), (1, (0, 0, x1)), (2, (0, 0, (-1))), (3, (0, 0, 0))]) rfl ?_
  refine w_X3_toLevel_L4 d a0 x1 M _  (fun z11 hx_11 => ?_) 16 0 (-1) (by omega) (by omega)
  refine ax_lump ax_layM ok_kX3 [(86, .iload_n 2, 1, 0, 0, 0)] (pc' := 87) (lc' := [(2, (0, 0, z11))]) (st' := [(0, 0, z11)]) (M' := M) (C' := True) (by decide +kernel) rfl trivial ?_
  exact ax_iret (by decide +kernel) rfl ⟨rfl, rfl, (show ((-1) : Int) ≤ z11 from by omega), (show z11 ≤ (15 : Int) from by omega)⟩
