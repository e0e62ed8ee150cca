def f_X1_emit (b : Int) (x1 : Int) (M : ax_M) : ax_M := (if 40 ≤ (M b.toNat 1) then M else ax_bd (ax_up M (b + 1).toNat (M b.toNat 1).toNat x1) (fun M3 => ax_bd (ax_up M3 b.toNat 1 ((M3 b.toNat 1) + 1)) (fun M5 => M5)))
set_option maxRecDepth 100000 in
set_option maxHeartbeats 4000000 in
theorem c_X1_emit (d : Nat) (b : Int) (x1 : Int) (M : ax_M)  : ax_Met ax_LC gX1_emit (d + 0) [(2, 1, b), (0, 0, x1)] M (ax_qv (f_X1_emit b x1 M)) := by
  refine ax_body (by decide) (fun X => Nat.le_of_ble_eq_true rfl) (fun hok => ?_)
  have hb0 : 0 ≤ b := (hok (2, 1, b) (by simp)).1
  have hb1 : b ≤ 100000 := by have h8 : b.toNat < ax_LC.length := ax_ltL (hok (2, 1, b) (by simp)).2; have h9 : ax_LC.length = 38 := rfl; rw [h9] at h8; omega
  have hr_x1 : (-2147483648) ≤ x1 ∧ x1 ≤ 2147483647 := hok (0, 0, x1) (by simp)
  show ax_W ax_LC gX1_emit (d + 0) 0 [(0, (2, 1, b)), (1, (0, 0, x1))] [] M _
  unfold f_X1_emit
  refine ax_fact (i := 0) (c := 1) (f := 1) (hi := 40) (s := b) (by simp) rfl rfl rfl (fun hf1 => ?_)
  have hf1 : 0 ≤ (M b.toNat 1) ∧ (M b.toNat 1) ≤ 40 := hf1
  refine ax_lump ax_layC ok_kX1 [(0, .aload_n 0, 1, 0, 0, 0), (1, .getfield 15, 3, 1, 1, 0), (4, .bipush 40, 2, 0, 0, 0)] (pc' := 6) (lc' := [(0, (2, 1, b)), (1, (0, 0, x1))]) (st' := [(0, 0, 40), (0, 0, (M b.toNat 1))]) (M' := M) (C' := True) (by decide +kernel) rfl trivial ?_
  refine ax_jge (off := 23) (tgt := 29) (by decide +kernel) (by decide) (fun h2 => ?_) (fun h2 => ?_)
  · exact ax_vret (by decide +kernel) rfl ⟨rfl, rfl⟩
  · refine ax_lump ax_layC ok_kX1 [(9, .aload_n 0, 1, 0, 0, 0), (10, .getfield 11, 3, 1, 0, 0), (13, .aload_n 0, 1, 0, 0, 0), (14, .getfield 15, 3, 1, 1, 0), (17, .iload_n 1, 1, 0, 0, 0), (18, .iastore, 1, 0, 0, 0)] (pc' := 19) (lc' := [(0, (2, 1, b)), (1, (0, 0, x1))]) (st' := []) (M' := (ax_up M (b + 1).toNat (M b.toNat 1).toNat x1)) (C' := (True ∧ (0 ≤ (M b.toNat 1) ∧ (M b.toNat 1) < ((40 : Nat) : Int)))) (by decide +kernel) rfl ⟨trivial, by omega⟩ ?_
    refine ax_bdMe (fun M3 hM_M3 => ?_)
    have hk_k4 : (M3 b.toNat 1) = (M b.toNat 1) := by rw [hM_M3]; exact ax_up_o1 (by omega)
    refine ax_lump ax_layC ok_kX1 [(19, .aload_n 0, 1, 0, 0, 0), (20, .dup, 1, 0, 0, 0), (21, .getfield 15, 3, 1, 1, 0), (24, .iconst 1, 1, 0, 0, 0), (25, .iadd, 1, 1, 0, 0), (26, .putfield 15, 3, 1, 1, 0)] (pc' := 29) (lc' := [(0, (2, 1, b)), (1, (0, 0, x1))]) (st' := []) (M' := (ax_up M3 b.toNat 1 ((M3 b.toNat 1) + 1))) (C' := ((True ∧ ax_r32 ((M3 b.toNat 1) + 1)) ∧ (0 ≤ ((M3 b.toNat 1) + 1) ∧ ((M3 b.toNat 1) + 1) < ((41 : Nat) : Int)))) (by decide +kernel) rfl ⟨⟨trivial, ⟨by omega, by omega⟩⟩, by omega⟩ ?_
    refine ax_bdMe (fun M5 hM_M5 => ?_)
    have hk_k6 : (M5 b.toNat 1) = ((M3 b.toNat 1) + 1) := by rw [hM_M5]; exact ax_up_s
    exact ax_vret (by decide +kernel) rfl ⟨rfl, rfl⟩
def f_X1_push (b : Int) (x1 : Int) (M : ax_M) : ax_M := (if 40 ≤ (M b.toNat 3) then M else ax_bd (ax_up M (b + 2).toNat (M b.toNat 3).toNat x1) (fun M3 => ax_bd (ax_up M3 b.toNat 3 ((M3 b.toNat 3) + 1)) (fun M5 => M5)))
set_option maxRecDepth 100000 in
set_option maxHeartbeats 4000000 in
theorem c_X1_push (d : Nat) (b : Int) (x1 : Int) (M : ax_M)  : ax_Met ax_LC gX1_push (d + 0) [(2, 1, b), (0, 0, x1)] M (ax_qv (f_X1_push b x1 M)) := by
  refine ax_body (by decide) (fun X => Nat.le_of_ble_eq_true rfl) (fun hok => ?_)
  have hb0 : 0 ≤ b := (hok (2, 1, b) (by simp)).1
  have hb1 : b ≤ 100000 := by have h8 : b.toNat < ax_LC.length := ax_ltL (hok (2, 1, b) (by simp)).2; have h9 : ax_LC.length = 38 := rfl; rw [h9] at h8; omega
  have hr_x1 : (-2147483648) ≤ x1 ∧ x1 ≤ 2147483647 := hok (0, 0, x1) (by simp)
  show ax_W ax_LC gX1_push (d + 0) 0 [(0, (2, 1, b)), (1, (0, 0, x1))] [] M _
  unfold f_X1_push
  refine ax_fact (i := 0) (c := 1) (f := 3) (hi := 40) (s := b) (by simp) rfl rfl rfl (fun hf1 => ?_)
  have hf1 : 0 ≤ (M b.toNat 3) ∧ (M b.toNat 3) ≤ 40 := hf1
  refine ax_lump ax_layC ok_kX1 [(0, .aload_n 0, 1, 0, 0, 0), (1, .getfield 22, 3, 1, 3, 0), (4, .bipush 40, 2, 0, 0, 0)] (pc' := 6) (lc' := [(0, (2, 1, b)), (1, (0, 0, x1))]) (st' := [(0, 0, 40), (0, 0, (M b.toNat 3))]) (M' := M) (C' := True) (by decide +kernel) rfl trivial ?_
  refine ax_jge (off := 23) (tgt := 29) (by decide +kernel) (by decide) (fun h2 => ?_) (fun h2 => ?_)
  · exact ax_vret (by decide +kernel) rfl ⟨rfl, rfl⟩
  · refine ax_lump ax_layC ok_kX1 [(9, .aload_n 0, 1, 0, 0, 0), (10, .getfield 19, 3, 1, 2, 0), (13, .aload_n 0, 1, 0, 0, 0), (14, .getfield 22, 3, 1, 3, 0), (17, .iload_n 1, 1, 0, 0, 0), (18, .iastore, 1, 0, 0, 0)] (pc' := 19) (lc' := [(0, (2, 1, b)), (1, (0, 0, x1))]) (st' := []) (M' := (ax_up M (b + 2).toNat (M b.toNat 3).toNat x1)) (C' := (True ∧ (0 ≤ (M b.toNat 3) ∧ (M b.toNat 3) < ((40 : Nat) : Int)))) (by decide +kernel) rfl ⟨trivial, by omega⟩ ?_
    refine ax_bdMe (fun M3 hM_M3 => ?_)
    have hk_k4 : (M3 b.toNat 3) = (M b.toNat 3) := by rw [hM_M3]; exact ax_up_o1 (by omega)
    refine ax_lump ax_layC ok_kX1 [(19, .aload_n 0, 1, 0, 0, 0), (20, .dup, 1, 0, 0, 0), (21, .getfield 22, 3, 1, 3, 0), (24, .iconst 1, 1, 0, 0, 0), (25, .iadd, 1, 1, 0, 0), (26, .putfield 22, 3, 1, 3, 0)] (pc' := 29) (lc' := [(0, (2, 1, b)), (1, (0, 0, x1))]) (st' := []) (M' := (ax_up M3 b.toNat 3 ((M3 b.toNat 3) + 1))) (C' := ((True ∧ ax_r32 ((M3 b.toNat 3) + 1)) ∧ (0 ≤ ((M3 b.toNat 3) + 1) ∧ ((M3 b.toNat 3) + 1) < ((41 : Nat) : Int)))) (by decide +kernel) rfl ⟨⟨trivial, ⟨by omega, by omega⟩⟩, by omega⟩ ?_
    refine ax_bdMe (fun M5 hM_M5 => ?_)
    have hk_k6 : (M5 b.toNat 3) = ((M3 b.toNat 3) + 1) := by rw [hM_M5]; exact ax_up_s
    exact ax_vret (by decide +kernel) rfl ⟨rfl, rfl⟩
def f_X1_unwind_B0 (b : Int) (w1 : Int)  (M : ax_M) (kc : ax_M → Prop × ax_M) (kx : ax_M → Prop × ax_M) : Prop × ax_M := (if (M b.toNat 3) ≤ 0 then kx M else (if (f_X1_bindingOf (M (b + 2).toNat ((M b.toNat 3) - 1).toNat) M) < w1 then kx M else ax_bd (ax_up M b.toNat 3 ((M b.toNat 3) - 1)) (fun M5 => ax_bd (f_X1_emit b (ax_wr (2000 + (M5 (b + 2).toNat (M5 b.toNat 3).toNat))) M5) (fun M7 => kc M7))))
def f_X1_unwind_L0 (b : Int) (w1 : Int) : Nat → ax_M → (ax_M → Prop × ax_M) → Prop × ax_M
  | 0, _, _ => (False, (fun _ _ => 0))
  | n + 1, M, kx => f_X1_unwind_B0 b w1  M (fun M9 => f_X1_unwind_L0 b w1 n  M9 kx) kx
set_option maxRecDepth 100000 in
set_option maxHeartbeats 4000000 in
theorem wb_X1_unwind_B0 (d : Nat) (b : Int) (w1 : Int)  (M : ax_M) (kc : ax_M → Prop × ax_M) (kx : ax_M → Prop × ax_M) (hw_b : 0 ≤ b ∧ b ≤ 100000)   (hkc : ∀ (M9 : ax_M), (kc M9).1 → ax_W ax_LC gX1_unwind (d + 1) 0 [(0, (2, 1, b)), (1, (0, 0, w1))] [] M9 (ax_qv (kc M9).2)) (hkx : ∀ (M9 : ax_M), (True) → (kx M9).1 → ax_W ax_LC gX1_unwind (d + 1) 55 [] [] M9 (ax_qv (kx M9).2)) (hX : (f_X1_unwind_B0 b w1  M kc kx).1) : ax_W ax_LC gX1_unwind (d + 1) 0 [(0, (2, 1, b)), (1, (0, 0, w1))] [] M (ax_qv (f_X1_unwind_B0 b w1  M kc kx).2) := by
  unfold f_X1_unwind_B0 at hX ⊢
  refine ax_fact (i := 0) (c := 1) (f := 3) (hi := 40) (s := b) (by simp) rfl rfl rfl (fun hf1 => ?_)
  have hf1 : 0 ≤ (M b.toNat 3) ∧ (M b.toNat 3) ≤ 40 := hf1
  refine ax_lump ax_layC ok_kX1 [(0, .aload_n 0, 1, 0, 0, 0), (1, .getfield 22, 3, 1, 3, 0)] (pc' := 4) (lc' := [(0, (2, 1, b)), (1, (0, 0, w1))]) (st' := [(0, 0, (M b.toNat 3))]) (M' := M) (C' := True) (by decide +kernel) rfl trivial ?_
  refine ax_zle_s hX (off := 51) (tgt := 55) (by decide +kernel) (by decide) (fun h2 hX => ?_) (fun h2 hX => ?_)
  · refine ax_pk [] (lc' := []) rfl ?_
    exact hkx M trivial hX
  · refine ax_lump ax_layC ok_kX1 [(7, .aload_n 0, 1, 0, 0, 0), (8, .getfield 19, 3, 1, 2, 0), (11, .aload_n 0, 1, 0, 0, 0), (12, .getfield 22, 3, 1, 3, 0), (15, .iconst 1, 1, 0, 0, 0), (16, .isub, 1, 1, 0, 0), (17, .iaload, 1, 0, 0, 0)] (pc' := 18) (lc' := [(0, (2, 1, b)), (1, (0, 0, w1))]) (st' := [(0, 0, (M (b + 2).toNat ((M b.toNat 3) - 1).toNat))]) (M' := M) (C' := ((True ∧ ax_r32 ((M b.toNat 3) - 1)) ∧ (0 ≤ ((M b.toNat 3) - 1) ∧ ((M b.toNat 3) - 1) < ((40 : Nat) : Int)))) (by decide +kernel) rfl ⟨⟨trivial, ⟨by omega, by omega⟩⟩, by omega⟩ ?_
    refine ax_cSi (G1 := gX1_bindingOf) (d1 := d + 0) (i := 76) (n := 1) (as := [(0, 0, (M (b + 2).toNat ((M b.toNat 3) - 1).toNat))]) (st := []) (by decide +kernel) calX1_bindingOf (by omega) rfl wt_328 wt_329 (Nat.le_of_ble_eq_true rfl) rfl (c_X1_bindingOf d (M (b + 2).toNat ((M b.toNat 3) - 1).toNat) M) (fun hc3 => ?_)
    refine ax_lump ax_layC ok_kX1 [(21, .iload_n 1, 1, 0, 0, 0)] (pc' := 22) (lc' := [(0, (2, 1, b)), (1, (0, 0, w1))]) (st' := [(0, 0, w1), (0, 0, (f_X1_bindingOf (M (b + 2).toNat ((M b.toNat 3) - 1).toNat) M))]) (M' := M) (C' := True) (by decide +kernel) rfl trivial ?_
    refine ax_jlt_s hX (off := 33) (tgt := 55) (by decide +kernel) (by decide) (fun h4 hX => ?_) (fun h4 hX => ?_)
    · refine ax_pk [] (lc' := []) rfl ?_
      exact hkx M trivial hX
    · refine ax_lump ax_layC ok_kX1 [(25, .aload_n 0, 1, 0, 0, 0), (26, .dup, 1, 0, 0, 0), (27, .getfield 22, 3, 1, 3, 0), (30, .iconst 1, 1, 0, 0, 0), (31, .isub, 1, 1, 0, 0), (32, .putfield 22, 3, 1, 3, 0)] (pc' := 35) (lc' := [(0, (2, 1, b)), (1, (0, 0, w1))]) (st' := []) (M' := (ax_up M b.toNat 3 ((M b.toNat 3) - 1))) (C' := ((True ∧ ax_r32 ((M b.toNat 3) - 1)) ∧ (0 ≤ ((M b.toNat 3) - 1) ∧ ((M b.toNat 3) - 1) < ((41 : Nat) : Int)))) (by decide +kernel) rfl ⟨⟨trivial, ⟨by omega, by omega⟩⟩, by omega⟩ ?_
      refine ax_bdMe_s hX (fun M5 hM_M5 hX => ?_)
      have hk_k6 : (M5 b.toNat 3) = ((M b.toNat 3) - 1) := by rw [hM_M5]; exact ax_up_s
      refine ax_lump ax_layC ok_kX1 [(35, .aload_n 0, 1, 0, 0, 0), (36, .sipush 2000, 3, 0, 0, 0), (39, .aload_n 0, 1, 0, 0, 0), (40, .getfield 19, 3, 1, 2, 0), (43, .aload_n 0, 1, 0, 0, 0), (44, .getfield 22, 3, 1, 3, 0), (47, .iaload, 1, 0, 0, 0), (48, .iadd, 1, 0, 0, 0)] (pc' := 49) (lc' := [(0, (2, 1, b)), (1, (0, 0, w1))]) (st' := [(0, 0, (ax_wr (2000 + (M5 (b + 2).toNat (M5 b.toNat 3).toNat)))), (2, 1, b)]) (M' := M5) (C' := (True ∧ (0 ≤ (M5 b.toNat 3) ∧ (M5 b.toNat 3) < ((40 : Nat) : Int)))) (by decide +kernel) rfl ⟨trivial, by omega⟩ ?_
      refine ax_cVv_s hX (G1 := gX1_emit) (d1 := d + 0) (i := 38) (n := 1) (as := [(0, 0, (ax_wr (2000 + (M5 (b + 2).toNat (M5 b.toNat 3).toNat))))]) (st := []) (c := 1) (a := b) (by decide +kernel) ax_cls1 calX1_emit (by omega) rfl wt_213 wt_215 ws_2 (Nat.le_of_ble_eq_true rfl) rfl (c_X1_emit d b (ax_wr (2000 + (M5 (b + 2).toNat (M5 b.toNat 3).toNat))) M5) (fun M7 hX => ?_)
      refine ax_lump ax_layC ok_kX1 [(52, .goto (-52), 3, 0, 0, 0)] (pc' := 0) (lc' := [(0, (2, 1, b)), (1, (0, 0, w1))]) (st' := []) (M' := M7) (C' := True) (by decide +kernel) rfl trivial ?_
      exact hkc M7  hX
set_option maxRecDepth 100000 in
set_option maxHeartbeats 4000000 in
theorem w_X1_unwind_L0 (d : Nat) (b : Int) (w1 : Int) (kx : ax_M → Prop × ax_M) (hw_b : 0 ≤ b ∧ b ≤ 100000) (hkx : ∀ (M9 : ax_M), (True) → (kx M9).1 → ax_W ax_LC gX1_unwind (d + 1) 55 [] [] M9 (ax_qv (kx M9).2)) : ∀ (n : Nat) (M : ax_M), (f_X1_unwind_L0 b w1 n  M kx).1 → ax_W ax_LC gX1_unwind (d + 1) 0 [(0, (2, 1, b)), (1, (0, 0, w1))] [] M (ax_qv (f_X1_unwind_L0 b w1 n  M kx).2) := by
  intro n
  induction n with
  | zero =>
    intro M hX
    exact False.elim hX
  | succ n ih =>
    intro M hX
    exact wb_X1_unwind_B0 d b w1  M _ kx hw_b   (fun M9 hX => ih  M9   hX) hkx hX
def f_X1_unwind (b : Int) (x1 : Int) (M : ax_M) : Prop × ax_M := f_X1_unwind_L0 b x1 100   M (fun M8 => (True, M8))
set_option maxRecDepth 100000 in
set_option maxHeartbeats 4000000 in
theorem c_X1_unwind (d : Nat) (b : Int) (x1 : Int) (M : ax_M)  (hX : (f_X1_unwind b x1 M).1) : ax_Met ax_LC gX1_unwind (d + 1) [(2, 1, b), (0, 0, x1)] M (ax_qv (f_X1_unwind b x1 M).2) := by
  refine ax_body (by decide) (fun X => Nat.le_of_ble_eq_true rfl) (fun hok => ?_)
  have hb0 : 0 ≤ b := (hok (2, 1, b) (by simp)).1
  have hb1 : b ≤ 100000 := by have h8 : b.toNat < ax_LC.length := ax_ltL (hok (2, 1, b) (by simp)).2; have h9 : ax_LC.length = 38 := rfl; rw [h9] at h8; omega
  have hr_x1 : (-2147483648) ≤ x1 ∧ x1 ≤ 2147483647 := hok (0, 0, x1) (by simp)
  show ax_W ax_LC gX1_unwind (d + 1) 0 [(0, (2, 1, b)), (1, (0, 0, x1))] [] M _
  unfold f_X1_unwind at hX ⊢
  refine w_X1_unwind_L0 d b x1 _ (by omega) (fun M8 hx_8 hX => ?_) 100   M   hX
  exact ax_vret (by decide +kernel) rfl ⟨rfl, rfl⟩
def f_X1_joined (x0 : Int) (x1 : Int) (x2 : Int) (M : ax_M) : Int := (if x0 = 42 then (ax_wr (x1 * x2)) else (if x0 = 43 then (ax_wr (x1 + x2)) else (if x0 = 45 then (ax_wr (x1 - x2)) else (if x0 = 60 then (if x2 ≤ x1 then 0 else 1) else (if x0 = 61 then (if x1 ≠ x2 then 0 else 1) else (if x0 = 62 then (if x1 ≤ x2 then 0 else 1) else (if x2 ≠ 0 then (ax_div x1 x2) else 0)))))))
set_option maxRecDepth 100000 in
set_option maxHeartbeats 4000000 in
theorem c_X1_joined (d : Nat) (x0 : Int) (x1 : Int) (x2 : Int) (M : ax_M)  : ax_Met ax_LC gX1_joined (d + 0) [(0, 0, x0), (0, 0, x1), (0, 0, x2)] M ((ax_qi (-2147483648) 2147483647 M) (f_X1_joined x0 x1 x2 M)) := by
  refine ax_body (by decide) (fun X => Nat.le_of_ble_eq_true rfl) (fun hok => ?_)
  have hr_x0 : (-2147483648) ≤ x0 ∧ x0 ≤ 2147483647 := hok (0, 0, x0) (by simp)
  have hr_x1 : (-2147483648) ≤ x1 ∧ x1 ≤ 2147483647 := hok (0, 0, x1) (by simp)
  have hr_x2 : (-2147483648) ≤ x2 ∧ x2 ≤ 2147483647 := hok (0, 0, x2) (by simp)
  show ax_W ax_LC gX1_joined (d + 0) 0 [(0, (0, 0, x0)), (1, (0, 0, x1)), (2, (0, 0, x2))] [] M _
  unfold f_X1_joined
  refine ax_lump ax_layC ok_kX1 [(0, .iload_n 0, 1, 0, 0, 0)] (pc' := 1) (lc' := [(0, (0, 0, x0)), (1, (0, 0, x1)), (2, (0, 0, x2))]) (st' := [(0, 0, x0)]) (M' := M) (C' := True) (by decide +kernel) rfl trivial ?_
  refine ax_ite (fun h1 => ?_) (fun h1 => ?_)
  · refine ax_swLk (dflt := 104) (off := 100) (ps := #[(42, 100), (43, 92), (45, 96), (60, 59), (61, 81), (62, 70)]) (len := 59) (tgt := 101) (by decide +kernel) (by decide) (by rw [h1]; rfl) (by decide) ?_
    refine ax_lump ax_layC ok_kX1 [(101, .iload_n 1, 1, 0, 0, 0), (102, .iload_n 2, 1, 0, 0, 0), (103, .imul, 1, 0, 0, 0)] (pc' := 104) (lc' := [(0, (0, 0, x0)), (1, (0, 0, x1)), (2, (0, 0, x2))]) (st' := [(0, 0, (ax_wr (x1 * x2)))]) (M' := M) (C' := True) (by decide +kernel) rfl trivial ?_
    refine ax_rngS (fun hr => ?_)
    exact ax_iret (by decide +kernel) rfl ⟨rfl, rfl, hr.1, hr.2⟩
  · refine ax_ite (fun h2 => ?_) (fun h2 => ?_)
    · refine ax_swLk (dflt := 104) (off := 92) (ps := #[(42, 100), (43, 92), (45, 96), (60, 59), (61, 81), (62, 70)]) (len := 59) (tgt := 93) (by decide +kernel) (by decide) (by rw [h2]; rfl) (by decide) ?_
      refine ax_lump ax_layC ok_kX1 [(93, .iload_n 1, 1, 0, 0, 0), (94, .iload_n 2, 1, 0, 0, 0), (95, .iadd, 1, 0, 0, 0)] (pc' := 96) (lc' := [(0, (0, 0, x0)), (1, (0, 0, x1)), (2, (0, 0, x2))]) (st' := [(0, 0, (ax_wr (x1 + x2)))]) (M' := M) (C' := True) (by decide +kernel) rfl trivial ?_
      refine ax_rngS (fun hr => ?_)
      exact ax_iret (by decide +kernel) rfl ⟨rfl, rfl, hr.1, hr.2⟩
    · refine ax_ite (fun h3 => ?_) (fun h3 => ?_)
      · refine ax_swLk (dflt := 104) (off := 96) (ps := #[(42, 100), (43, 92), (45, 96), (60, 59), (61, 81), (62, 70)]) (len := 59) (tgt := 97) (by decide +kernel) (by decide) (by rw [h3]; rfl) (by decide) ?_
        refine ax_lump ax_layC ok_kX1 [(97, .iload_n 1, 1, 0, 0, 0), (98, .iload_n 2, 1, 0, 0, 0), (99, .isub, 1, 0, 0, 0)] (pc' := 100) (lc' := [(0, (0, 0, x0)), (1, (0, 0, x1)), (2, (0, 0, x2))]) (st' := [(0, 0, (ax_wr (x1 - x2)))]) (M' := M) (C' := True) (by decide +kernel) rfl trivial ?_
        refine ax_rngS (fun hr => ?_)
        exact ax_iret (by decide +kernel) rfl ⟨rfl, rfl, hr.1, hr.2⟩
      · refine ax_ite (fun h4 => ?_) (fun h4 => ?_)
        · refine ax_swLk (dflt := 104) (off := 59) (ps := #[(42, 100), (43, 92), (45, 96), (60, 59), (61, 81), (62, 70)]) (len := 59) (tgt := 60) (by decide +kernel) (by decide) (by rw [h4]; rfl) (by decide) ?_
          refine ax_lump ax_layC ok_kX1 [(60, .iload_n 1, 1, 0, 0, 0), (61, .iload_n 2, 1, 0, 0, 0)] (pc' := 62) (lc' := [(0, (0, 0, x0)), (1, (0, 0, x1)), (2, (0, 0, x2))]) (st' := [(0, 0, x2), (0, 0, x1)]) (M' := M) (C' := True) (by decide +kernel) rfl trivial ?_
          refine ax_jge (off := 7) (tgt := 69) (by decide +kernel) (by decide) (fun h5 => ?_) (fun h5 => ?_)
          · refine ax_lump ax_layC ok_kX1 [(69, .iconst 0, 1, 0, 0, 0)] (pc' := 70) (lc' := [(0, (0, 0, x0)), (1, (0, 0, x1)), (2, (0, 0, x2))]) (st' := [(0, 0, 0)]) (M' := M) (C' := True) (by decide +kernel) rfl trivial ?_
            refine ax_rngS (fun hr => ?_)
            exact ax_iret (by decide +kernel) rfl ⟨rfl, rfl, hr.1, hr.2⟩
          · refine ax_lump ax_layC ok_kX1 [(65, .iconst 1, 1, 0, 0, 0), (66, .goto 4, 3, 70, 0, 0)] (pc' := 70) (lc' := [(0, (0, 0, x0)), (1, (0, 0, x1)), (2, (0, 0, x2))]) (st' := [(0, 0, 1)]) (M' := M) (C' := True) (by decide +kernel) rfl trivial ?_
            refine ax_rngS (fun hr => ?_)
            exact ax_iret (by decide +kernel) rfl ⟨rfl, rfl, hr.1, hr.2⟩
        · refine ax_ite (fun h6 => ?_) (fun h6 => ?_)
          · refine ax_swLk (dflt := 104) (off := 81) (ps := #[(42, 100), (43, 92), (45, 96), (60, 59), (61, 81), (62, 70)]) (len := 59) (tgt := 82) (by decide +kernel) (by decide) (by rw [h6]; rfl) (by decide) ?_
            refine ax_lump ax_layC ok_kX1 [(82, .iload_n 1, 1, 0, 0, 0), (83, .iload_n 2, 1, 0, 0, 0)] (pc' := 84) (lc' := [(0, (0, 0, x0)), (1, (0, 0, x1)), (2, (0, 0, x2))]) (st' := [(0, 0, x2), (0, 0, x1)]) (M' := M) (C' := True) (by decide +kernel) rfl trivial ?_
            refine ax_jne (off := 7) (tgt := 91) (by decide +kernel) (by decide) (fun h7 => ?_) (fun h7 => ?_)
            · refine ax_lump ax_layC ok_kX1 [(91, .iconst 0, 1, 0, 0, 0)] (pc' := 92) (lc' := [(0, (0, 0, x0)), (1, (0, 0, x1)), (2, (0, 0, x2))]) (st' := [(0, 0, 0)]) (M' := M) (C' := True) (by decide +kernel) rfl trivial ?_
              refine ax_rngS (fun hr => ?_)
              exact ax_iret (by decide +kernel) rfl ⟨rfl, rfl, hr.1, hr.2⟩
            · refine ax_lump ax_layC ok_kX1 [(87, .iconst 1, 1, 0, 0, 0), (88, .goto 4, 3, 92, 0, 0)] (pc' := 92) (lc' := [(0, (0, 0, x0)), (1, (0, 0, x1)), (2, (0, 0, x2))]) (st' := [(0, 0, 1)]) (M' := M) (C' := True) (by decide +kernel) rfl trivial ?_
              refine ax_rngS (fun hr => ?_)
              exact ax_iret (by decide +kernel) rfl ⟨rfl, rfl, hr.1, hr.2⟩
          · refine ax_ite (fun h8 => ?_) (fun h8 => ?_)
            · refine ax_swLk (dflt := 104) (off := 70) (ps := #[(42, 100), (43, 92), (45, 96), (60, 59), (61, 81), (62, 70)]) (len := 59) (tgt := 71) (by decide +kernel) (by decide) (by rw [h8]; rfl) (by decide) ?_
              refine ax_lump ax_layC ok_kX1 [(71, .iload_n 1, 1, 0, 0, 0), (72, .iload_n 2, 1, 0, 0, 0)] (pc' := 73) (lc' := [(0, (0, 0, x0)), (1, (0, 0, x1)), (2, (0, 0, x2))]) (st' := [(0, 0, x2), (0, 0, x1)]) (M' := M) (C' := True) (by decide +kernel) rfl trivial ?_
              refine ax_jle (off := 7) (tgt := 80) (by decide +kernel) (by decide) (fun h9 => ?_) (fun h9 => ?_)
              · refine ax_lump ax_layC ok_kX1 [(80, .iconst 0, 1, 0, 0, 0)] (pc' := 81) (lc' := [(0, (0, 0, x0)), (1, (0, 0, x1)), (2, (0, 0, x2))]) (st' := [(0, 0, 0)]) (M' := M) (C' := True) (by decide +kernel) rfl trivial ?_
                refine ax_rngS (fun hr => ?_)
                exact ax_iret (by decide +kernel) rfl ⟨rfl, rfl, hr.1, hr.2⟩
              · refine ax_lump ax_layC ok_kX1 [(76, .iconst 1, 1, 0, 0, 0), (77, .goto 4, 3, 81, 0, 0)] (pc' := 81) (lc' := [(0, (0, 0, x0)), (1, (0, 0, x1)), (2, (0, 0, x2))]) (st' := [(0, 0, 1)]) (M' := M) (C' := True) (by decide +kernel) rfl trivial ?_
                refine ax_rngS (fun hr => ?_)
                exact ax_iret (by decide +kernel) rfl ⟨rfl, rfl, hr.1, hr.2⟩
            · refine ax_swLk (dflt := 104) (off := 104) (ps := #[(42, 100), (43, 92), (45, 96), (60, 59), (61, 81), (62, 70)]) (len := 59) (tgt := 105) (by decide +kernel) (by decide) (by simp [Op.lookupswitch.offset, Ne.symm h1, h1, Ne.symm h2, h2, Ne.symm h3, h3, Ne.symm h4, h4, Ne.symm h6, h6, Ne.symm h8, h8]) (by decide) ?_
              refine ax_lump ax_layC ok_kX1 [(105, .iload_n 2, 1, 0, 0, 0)] (pc' := 106) (lc' := [(0, (0, 0, x0)), (1, (0, 0, x1)), (2, (0, 0, x2))]) (st' := [(0, 0, x2)]) (M' := M) (C' := True) (by decide +kernel) rfl trivial ?_
              refine ax_zne (off := 7) (tgt := 113) (by decide +kernel) (by decide) (fun h10 => ?_) (fun h10 => ?_)
              · refine ax_lump ax_layC ok_kX1 [(113, .iload_n 1, 1, 0, 0, 0), (114, .iload_n 2, 1, 0, 0, 0), (115, .idiv, 1, 0, 0, 0)] (pc' := 116) (lc' := [(0, (0, 0, x0)), (1, (0, 0, x1)), (2, (0, 0, x2))]) (st' := [(0, 0, (ax_div x1 x2))]) (M' := M) (C' := (True ∧ x2 ≠ 0)) (by decide +kernel) rfl ⟨trivial, by omega⟩ ?_
                refine ax_rngS (fun hr => ?_)
                exact ax_iret (by decide +kernel) rfl ⟨rfl, rfl, hr.1, hr.2⟩
              · refine ax_lump ax_layC ok_kX1 [(109, .iconst 0, 1, 0, 0, 0), (110, .goto 6, 3, 116, 0, 0)] (pc' := 116) (lc' := [(0, (0, 0, x0)), (1, (0, 0, x1)), (2, (0, 0, x2))]) (st' := [(0, 0, 0)]) (M' := M) (C' := True) (by decide +kernel) rfl trivial ?_
                refine ax_rngS (fun hr => ?_)
                exact ax_iret (by decide +kernel) rfl ⟨rfl, rfl, hr.1, hr.2⟩
def f_J_bitCount (x0 : Int) (M : ax_M) : Int := ax_bd (ax_wr (x0 - (ax_and (ax_ushr x0 1) 1431655765))) (fun y1 => ax_bd (ax_wr ((ax_and y1 858993459) + (ax_and (ax_ushr y1 2) 858993459))) (fun y2 => ax_bd (ax_and (ax_wr (y2 + (ax_ushr y2 4))) 252645135) (fun y3 => ax_bd (ax_wr (y3 + (ax_ushr y3 8))) (fun y4 => ax_bd (ax_wr (y4 + (ax_ushr y4 16))) (fun y5 => (ax_and y5 63))))))
set_option maxRecDepth 100000 in
set_option maxHeartbeats 4000000 in
theorem c_J_bitCount (L : ax_L) (hLy : ax_lay L) (d : Nat) (x0 : Int) (M : ax_M)  : ax_Met L gJ_bitCount (d + 0) [(0, 0, x0)] M ((ax_qi (-2147483648) 2147483647 M) (f_J_bitCount x0 M)) := by
  refine ax_body (by decide) (fun X => Nat.le_of_ble_eq_true rfl) (fun hok => ?_)
  have hr_x0 : (-2147483648) ≤ x0 ∧ x0 ≤ 2147483647 := hok (0, 0, x0) (by simp)
  show ax_W L gJ_bitCount (d + 0) 0 [(0, (0, 0, x0))] [] M _
  unfold f_J_bitCount
  refine ax_lump hLy ok_kJI [(0, .iload_n 0, 1, 0, 0, 0), (1, .iload_n 0, 1, 0, 0, 0), (2, .iconst 1, 1, 0, 0, 0), (3, .iushr, 1, 0, 0, 0), (4, .ldc_w 265, 3, 0, 0, 1431655765), (7, .iand, 1, 0, 0, 0), (8, .isub, 1, 0, 0, 0), (9, .istore_n 0, 1, 0, 0, 0)] (pc' := 10) (lc' := [(0, (0, 0, (ax_wr (x0 - (ax_and (ax_ushr x0 1) 1431655765)))))]) (st' := []) (M' := M) (C' := True) (by decide +kernel) rfl trivial ?_
  refine ax_bdI0 (e := (ax_wr (x0 - (ax_and (ax_ushr x0 1) 1431655765)))) (fun y1 => [(0, (0, 0, y1))]) (fun y1 => []) (fun y1 => ?_)
  refine ax_lump hLy ok_kJI [(10, .iload_n 0, 1, 0, 0, 0), (11, .ldc_w 266, 3, 0, 0, 858993459), (14, .iand, 1, 0, 0, 0), (15, .iload_n 0, 1, 0, 0, 0), (16, .iconst 2, 1, 0, 0, 0), (17, .iushr, 1, 0, 0, 0), (18, .ldc_w 266, 3, 0, 0, 858993459), (21, .iand, 1, 0, 0, 0), (22, .iadd, 1, 0, 0, 0), (23, .istore_n 0, 1, 0, 0, 0)] (pc' := 24) (lc' := [(0, (0, 0, (ax_wr ((ax_and y1 858993459) + (ax_and (ax_ushr y1 2) 858993459)))))]) (st' := []) (M' := M) (C' := True) (by decide +kernel) rfl trivial ?_
  refine ax_bdI0 (e := (ax_wr ((ax_and y1 858993459) + (ax_and (ax_ushr y1 2) 858993459)))) (fun y2 => [(0, (0, 0, y2))]) (fun y2 => []) (fun y2 => ?_)
  refine ax_lump hLy ok_kJI [(24, .iload_n 0, 1, 0, 0, 0), (25, .iload_n 0, 1, 0, 0, 0), (26, .iconst 4, 1, 0, 0, 0), (27, .iushr, 1, 0, 0, 0), (28, .iadd, 1, 0, 0, 0), (29, .ldc_w 267, 3, 0, 0, 252645135), (32, .iand, 1, 0, 0, 0), (33, .istore_n 0, 1, 0, 0, 0)] (pc' := 34) (lc' := [(0, (0, 0, (ax_and (ax_wr (y2 + (ax_ushr y2 4))) 252645135)))]) (st' := []) (M' := M) (C' := True) (by decide +kernel) rfl trivial ?_
  refine ax_bdI0 (e := (ax_and (ax_wr (y2 + (ax_ushr y2 4))) 252645135)) (fun y3 => [(0, (0, 0, y3))]) (fun y3 => []) (fun y3 => ?_)
  refine ax_lump hLy ok_kJI [(34, .iload_n 0, 1, 0, 0, 0), (35, .iload_n 0, 1, 0, 0, 0), (36, .bipush 8, 2, 0, 0, 0), (38, .iushr, 1, 0, 0, 0), (39, .iadd, 1, 0, 0, 0), (40, .istore_n 0, 1, 0, 0, 0)] (pc' := 41) (lc' := [(0, (0, 0, (ax_wr (y3 + (ax_ushr y3 8)))))]) (st' := []) (M' := M) (C' := True) (by decide +kernel) rfl trivial ?_
  refine ax_bdI0 (e := (ax_wr (y3 + (ax_ushr y3 8)))) (fun y4 => [(0, (0, 0, y4))]) (fun y4 => []) (fun y4 => ?_)
  refine ax_lump hLy ok_kJI [(41, .iload_n 0, 1, 0, 0, 0), (42, .iload_n 0, 1, 0, 0, 0), (43, .bipush 16, 2, 0, 0, 0), (45, .iushr, 1, 0, 0, 0), (46, .iadd, 1, 0, 0, 0), (47, .istore_n 0, 1, 0, 0, 0)] (pc' := 48) (lc' := [(0, (0, 0, (ax_wr (y4 + (ax_ushr y4 16)))))]) (st' := []) (M' := M) (C' := True) (by decide +kernel) rfl trivial ?_
  refine ax_bdI0 (e := (ax_wr (y4 + (ax_ushr y4 16)))) (fun y5 => [(0, (0, 0, y5))]) (fun y5 => []) (fun y5 => ?_)
  refine ax_lump hLy ok_kJI [(48, .iload_n 0, 1, 0, 0, 0), (49, .bipush 63, 2, 0, 0, 0), (51, .iand, 1, 0, 0, 0)] (pc' := 52) (lc' := [(0, (0, 0, y5))]) (st' := [(0, 0, (ax_and y5 63))]) (M' := M) (C' := True) (by decide +kernel) rfl trivial ?_
  refine ax_rngS (fun hr => ?_)
  exact ax_iret (by decide +kernel) rfl ⟨rfl, rfl, hr.1, hr.2⟩
def f_J_fill_B5 (n0 : Nat) (a0 : Nat) (w1 : Int) (i : Int)  (M : ax_M) (kc : ax_M → ax_M) (kx : ax_M → ax_M) : ax_M := ax_bd (ax_up M a0 i.toNat w1) (fun M1 => kc M1)
def f_J_fill_L5 (n0 : Nat) (a0 : Nat) (w1 : Int) : Nat → Int → ax_M → (ax_M → ax_M) → ax_M
  | 0, i, M, kx => kx M
  | n + 1, i, M, kx => f_J_fill_B5 n0 a0 w1 i  M (fun M9 => f_J_fill_L5 n0 a0 w1 n (i + 1) M9 kx) kx
set_option maxRecDepth 100000 in
set_option maxHeartbeats 4000000 in
theorem wb_J_fill_B5 (L : ax_L) (hLy : ax_lay L) (d : Nat) (n0 : Nat) (a0 : Nat) (w1 : Int) (i : Int)  (M : ax_M) (kc : ax_M → ax_M) (kx : ax_M → ax_M) (hw_n0 : 0 ≤ n0 ∧ n0 ≤ 100000) (hi : 0 ≤ i ∧ i < (n0 : Int))  (hkc : ∀ (M9 : ax_M), ax_W L gJ_fill (d + 0) 5 [(0, (3, n0, (a0 : Int))), (1, (0, 0, w1)), (2, (0, 0, (i + 1))), (3, (0, 0, (n0 : Int)))] [] M9 (ax_qv (kc M9))) (hkx : ∀ (M9 : ax_M), (True) → ax_W L gJ_fill (d + 0) 20 [] [] M9 (ax_qv (kx M9))) : ax_W L gJ_fill (d + 0) 10 [(0, (3, n0, (a0 : Int))), (1, (0, 0, w1)), (2, (0, 0, i)), (3, (0, 0, (n0 : Int)))] [] M (ax_qv (f_J_fill_B5 n0 a0 w1 i  M kc kx)) := by
  unfold f_J_fill_B5
  refine ax_lump hLy ok_kJA [(10, .aload_n 0, 1, 0, 0, 0), (11, .iload_n 2, 1, 0, 0, 0), (12, .iload_n 1, 1, 0, 0, 0), (13, .iastore, 1, 0, 0, 0)] (pc' := 14) (lc' := [(0, (3, n0, (a0 : Int))), (1, (0, 0, w1)), (2, (0, 0, i)), (3, (0, 0, (n0 : Int)))]) (st' := []) (M' := (ax_up M a0 i.toNat w1)) (C' := (True ∧ (0 ≤ i ∧ i < ((n0 : Nat) : Int)))) (by decide +kernel) rfl ⟨trivial, by omega⟩ ?_
  refine ax_bdMe (fun M1 hM_M1 => ?_)
  refine ax_lump hLy ok_kJA [(14, .iinc 2 1, 3, 1, 0, 0), (17, .goto (-12), 3, 5, 0, 0)] (pc' := 5) (lc' := [(2, (0, 0, (i + 1))), (0, (3, n0, (a0 : Int))), (1, (0, 0, w1)), (3, (0, 0, (n0 : Int)))]) (st' := []) (M' := M1) (C' := (True ∧ ax_r32 (i + 1))) (by decide +kernel) rfl ⟨trivial, ⟨by omega, by omega⟩⟩ ?_
  refine ax_pk [1,2,0,3] (lc' := [(0, (3, n0, (a0 : Int))), (1, (0, 0, w1)), (2, (0, 0, (i + 1))), (3, (0, 0, (n0 : Int)))]) rfl ?_
  exact hkc M1 
set_option maxRecDepth 100000 in
set_option maxHeartbeats 4000000 in
theorem w_J_fill_L5 (L : ax_L) (hLy : ax_lay L) (d : Nat) (n0 : Nat) (a0 : Nat) (w1 : Int) (kx : ax_M → ax_M) (hw_n0 : 0 ≤ n0 ∧ n0 ≤ 100000) (hkx : ∀ (M9 : ax_M), (True) → ax_W L gJ_fill (d + 0) 20 [] [] M9 (ax_qv (kx M9))) : ∀ (n : Nat) (i : Int) (M : ax_M), 0 ≤ i ∧ n = ((n0 : Int) - i).toNat → ax_W L gJ_fill (d + 0) 5 [(0, (3, n0, (a0 : Int))), (1, (0, 0, w1)), (2, (0, 0, i)), (3, (0, 0, (n0 : Int)))] [] M (ax_qv (f_J_fill_L5 n0 a0 w1 n i  M kx)) := by
  intro n
  induction n with
  | zero =>
    intro i M hin
    refine ax_lump hLy ok_kJA [(5, .iload_n 2, 1, 0, 0, 0), (6, .iload_n 3, 1, 0, 0, 0)] (pc' := 7) (lc' := [(0, (3, n0, (a0 : Int))), (1, (0, 0, w1)), (2, (0, 0, i)), (3, (0, 0, (n0 : Int)))]) (st' := [(0, 0, (n0 : Int)), (0, 0, i)]) (M' := M) (C' := True) (by decide +kernel) rfl trivial ?_
    refine ax_icmp_ge (off := 13) (tgt := 20) (by decide +kernel) (by decide) (fun h => ?_) (fun h => ?_)
    · refine ax_pk [] (lc' := []) rfl ?_
      exact hkx M trivial
    · exfalso; omega
  | succ n ih =>
    intro i M hin
    refine ax_lump hLy ok_kJA [(5, .iload_n 2, 1, 0, 0, 0), (6, .iload_n 3, 1, 0, 0, 0)] (pc' := 7) (lc' := [(0, (3, n0, (a0 : Int))), (1, (0, 0, w1)), (2, (0, 0, i)), (3, (0, 0, (n0 : Int)))]) (st' := [(0, 0, (n0 : Int)), (0, 0, i)]) (M' := M) (C' := True) (by decide +kernel) rfl trivial ?_
    refine ax_icmp_ge (off := 13) (tgt := 20) (by decide +kernel) (by decide) (fun h => ?_) (fun h => ?_)
    · exfalso; omega
    · exact wb_J_fill_B5 L hLy d n0 a0 w1 i  M _ kx hw_n0 (by omega)  (fun M9 => ih (i + 1)  M9 (by omega) ) hkx
def f_J_fill (n0 : Nat) (a0 : Nat) (x1 : Int) (M : ax_M) : ax_M := f_J_fill_L5 n0 a0 x1 ((n0 : Int) - 0).toNat 0  M (fun M2 => M2)
set_option maxRecDepth 100000 in
set_option maxHeartbeats 4000000 in
theorem c_J_fill (L : ax_L) (hLy : ax_lay L) (d : Nat) (n0 : Nat) (a0 : Nat) (x1 : Int) (M : ax_M) (hl_n0 : (n0 : Int) ≤ 100000) : ax_Met L gJ_fill (d + 0) [(3, n0, (a0 : Int)), (0, 0, x1)] M (ax_qv (f_J_fill n0 a0 x1 M)) := by
  refine ax_body (by decide) (fun X => Nat.le_of_ble_eq_true rfl) (fun hok => ?_)
  have hr_x1 : (-2147483648) ≤ x1 ∧ x1 ≤ 2147483647 := hok (0, 0, x1) (by simp)
  show ax_W L gJ_fill (d + 0) 0 [(0, (3, n0, (a0 : Int))), (1, (0, 0, x1))] [] M _
  unfold f_J_fill
  refine ax_lump hLy ok_kJA [(0, .iconst 0, 1, 0, 0, 0), (1, .istore_n 2, 1, 0, 0, 0), (2, .aload_n 0, 1, 0, 0, 0), (3, .arraylength, 1, 0, 0, 0), (4, .istore_n 3, 1, 0, 0, 0)] (pc' := 5) (lc' := [(3, (0, 0, (n0 : Int))), (2, (0, 0, 0)), (0, (3, n0, (a0 : Int))), (1, (0, 0, x1))]) (st' := []) (M' := M) (C' := (True ∧ ((n0 : Nat) : Int) ≤ 2147483647)) (by decide +kernel) rfl ⟨trivial, by omega⟩ ?_
  refine ax_pk [2,3,1,0] (lc' := [(0, (3, n0, (a0 : Int))), (1, (0, 0, x1)), (2, (0, 0, 0)), (3, (0, 0, (n0 : Int)))]) rfl ?_
  refine w_J_fill_L5 L hLy d n0 a0 x1 _ (by omega) (fun M2 hx_2 => ?_) ((n0 : Int) - 0).toNat 0  M (by omega) 
  exact ax_vret (by decide +kernel) rfl ⟨rfl, rfl⟩
def f_X2_sheet_B46 (w1 : Int) (w2 : Int) (w3 : Int) (w4 : Int) (i : Nat)  (M : ax_M) (kc : ax_M → Int × ax_M) (kx : ax_M → Int × ax_M) : Int × ax_M := (if w2 ≤ (i : Int) then ax_bd (ax_up M 7 i 0) (fun M7 => kc M7) else ax_bd (ax_up M 7 i (f_X2_sheetEntry w1 (ax_wr (w3 + (ax_wr ((i : Int) * w4)))) M)) (fun M9 => kc M9))
def f_X2_sheet_L46 (w1 : Int) (w2 : Int) (w3 : Int) (w4 : Int) : Nat → Nat → ax_M → (ax_M → Int × ax_M) → Int × ax_M
  | 0, i, M, kx => kx M
  | n + 1, i, M, kx => f_X2_sheet_B46 w1 w2 w3 w4 i  M (fun M9 => f_X2_sheet_L46 w1 w2 w3 w4 n (i + 1) M9 kx) kx
set_option maxRecDepth 100000 in
set_option maxHeartbeats 4000000 in
theorem wb_X2_sheet_B46 (d : Nat) (w1 : Int) (w2 : Int) (w3 : Int) (w4 : Int) (i : Nat)  (M : ax_M) (kc : ax_M → Int × ax_M) (kx : ax_M → Int × ax_M) (hw_w1 : 0 ≤ w1 ∧ w1 ≤ 2) (hw_w2 : 0 ≤ w2 ∧ w2 ≤ 16) (hi : 0 ≤ i ∧ i < 16)  (hkc : ∀ (M9 : ax_M), ax_W ax_LC gX2_sheet (d + 2) 46 [(0, (2, 2, 0)), (1, (0, 0, w1)), (2, (0, 0, w2)), (3, (0, 0, w3)), (4, (0, 0, w4)), (5, (0, 0, ((i : Int) + 1)))] [] M9 ((ax_qm (-2147483648) 2147483647) (kc M9))) (hkx : ∀ (M9 : ax_M), (True) → ax_W ax_LC gX2_sheet (d + 2) 90 [(0, (2, 2, 0))] [] M9 ((ax_qm (-2147483648) 2147483647) (kx M9))) : ax_W ax_LC gX2_sheet (d + 2) 53 [(0, (2, 2, 0)), (1, (0, 0, w1)), (2, (0, 0, w2)), (3, (0, 0, w3)), (4, (0, 0, w4)), (5, (0, 0, (i : Int)))] [] M ((ax_qm (-2147483648) 2147483647) (f_X2_sheet_B46 w1 w2 w3 w4 i  M kc kx)) := by
  unfold f_X2_sheet_B46
  refine ax_lump ax_layC ok_kX2 [(53, .aload_n 0, 1, 0, 0, 0), (54, .getfield 12, 3, 2, 0, 0), (57, .getfield 97, 3, 0, 5, 0), (60, .iload 5, 2, 0, 0, 0), (62, .iload 5, 2, 0, 0, 0), (64, .iload_n 2, 1, 0, 0, 0)] (pc' := 65) (lc' := [(0, (2, 2, 0)), (1, (0, 0, w1)), (2, (0, 0, w2)), (3, (0, 0, w3)), (4, (0, 0, w4)), (5, (0, 0, (i : Int)))]) (st' := [(0, 0, w2), (0, 0, (i : Int)), (0, 0, (i : Int)), (3, 16, 7)]) (M' := M) (C' := True) (by decide +kernel) rfl trivial ?_
  refine ax_jge (off := 17) (tgt := 82) (by decide +kernel) (by decide) (fun h6 => ?_) (fun h6 => ?_)
  · refine ax_lump ax_layC ok_kX2 [(82, .iconst 0, 1, 0, 0, 0), (83, .iastore, 1, 0, 0, 0)] (pc' := 84) (lc' := [(0, (2, 2, 0)), (1, (0, 0, w1)), (2, (0, 0, w2)), (3, (0, 0, w3)), (4, (0, 0, w4)), (5, (0, 0, (i : Int)))]) (st' := []) (M' := (ax_up M 7 i 0)) (C' := (True ∧ (0 ≤ (i : Int) ∧ (i : Int) < ((16 : Nat) : Int)))) (by decide +kernel) rfl ⟨trivial, by omega⟩ ?_
    refine ax_bdMe (fun M7 hM_M7 => ?_)
    refine ax_lump ax_layC ok_kX2 [(84, .iinc 5 1, 3, 1, 0, 0), (87, .goto (-41), 3, 46, 0, 0)] (pc' := 46) (lc' := [(5, (0, 0, ((i : Int) + 1))), (0, (2, 2, 0)), (1, (0, 0, w1)), (2, (0, 0, w2)), (3, (0, 0, w3)), (4, (0, 0, w4))]) (st' := []) (M' := M7) (C' := (True ∧ ax_r32 ((i : Int) + 1))) (by decide +kernel) rfl ⟨trivial, ⟨by omega, by omega⟩⟩ ?_
    refine ax_pk [1,2,3,4,5,0] (lc' := [(0, (2, 2, 0)), (1, (0, 0, w1)), (2, (0, 0, w2)), (3, (0, 0, w3)), (4, (0, 0, w4)), (5, (0, 0, ((i : Int) + 1)))]) rfl ?_
    exact hkc M7 
  · refine ax_lump ax_layC ok_kX2 [(68, .iload_n 1, 1, 0, 0, 0), (69, .iload_n 3, 1, 0, 0, 0), (70, .iload 5, 2, 0, 0, 0), (72, .iload 4, 2, 0, 0, 0), (74, .imul, 1, 0, 0, 0), (75, .iadd, 1, 0, 0, 0)] (pc' := 76) (lc' := [(0, (2, 2, 0)), (1, (0, 0, w1)), (2, (0, 0, w2)), (3, (0, 0, w3)), (4, (0, 0, w4)), (5, (0, 0, (i : Int)))]) (st' := [(0, 0, (ax_wr (w3 + (ax_wr ((i : Int) * w4))))), (0, 0, w1), (0, 0, (i : Int)), (3, 16, 7)]) (M' := M) (C' := True) (by decide +kernel) rfl trivial ?_
    refine ax_cSi (G1 := gX2_sheetEntry) (d1 := d + 1) (i := 127) (n := 2) (as := [(0, 0, w1), (0, 0, (ax_wr (w3 + (ax_wr ((i : Int) * w4)))))]) (st := [(0, 0, (i : Int)), (3, 16, 7)]) (by decide +kernel) calX2_sheetEntry (by omega) rfl wt_338 wt_339 (Nat.le_of_ble_eq_true rfl) rfl (c_X2_sheetEntry d w1 (ax_wr (w3 + (ax_wr ((i : Int) * w4)))) M) (fun hc8 => ?_)
    refine ax_lump ax_layC ok_kX2 [(79, .goto 4, 3, 83, 0, 0), (83, .iastore, 1, 0, 0, 0)] (pc' := 84) (lc' := [(0, (2, 2, 0)), (1, (0, 0, w1)), (2, (0, 0, w2)), (3, (0, 0, w3)), (4, (0, 0, w4)), (5, (0, 0, (i : Int)))]) (st' := []) (M' := (ax_up M 7 i (f_X2_sheetEntry w1 (ax_wr (w3 + (ax_wr ((i : Int) * w4)))) M))) (C' := (True ∧ (0 ≤ (i : Int) ∧ (i : Int) < ((16 : Nat) : Int)))) (by decide +kernel) rfl ⟨trivial, by omega⟩ ?_
    refine ax_bdMe (fun M9 hM_M9 => ?_)
    refine ax_lump ax_layC ok_kX2 [(84, .iinc 5 1, 3, 1, 0, 0), (87, .goto (-41), 3, 46, 0, 0)] (pc' := 46) (lc' := [(5, (0, 0, ((i : Int) + 1))), (0, (2, 2, 0)), (1, (0, 0, w1)), (2, (0, 0, w2)), (3, (0, 0, w3)), (4, (0, 0, w4))]) (st' := []) (M' := M9) (C' := (True ∧ ax_r32 ((i : Int) + 1))) (by decide +kernel) rfl ⟨trivial, ⟨by omega, by omega⟩⟩ ?_
    refine ax_pk [1,2,3,4,5,0] (lc' := [(0, (2, 2, 0)), (1, (0, 0, w1)), (2, (0, 0, w2)), (3, (0, 0, w3)), (4, (0, 0, w4)), (5, (0, 0, ((i : Int) + 1)))]) rfl ?_
    exact hkc M9 
set_option maxRecDepth 100000 in
set_option maxHeartbeats 4000000 in
theorem w_X2_sheet_L46 (d : Nat) (w1 : Int) (w2 : Int) (w3 : Int) (w4 : Int) (kx : ax_M → Int × ax_M) (hw_w1 : 0 ≤ w1 ∧ w1 ≤ 2) (hw_w2 : 0 ≤ w2 ∧ w2 ≤ 16) (hkx : ∀ (M9 : ax_M), (True) → ax_W ax_LC gX2_sheet (d + 2) 90 [(0, (2, 2, 0))] [] M9 ((ax_qm (-2147483648) 2147483647) (kx M9))) : ∀ (n : Nat) (i : Nat) (M : ax_M), 0 ≤ i ∧ i + n = 16 → ax_W ax_LC gX2_sheet (d + 2) 46 [(0, (2, 2, 0)), (1, (0, 0, w1)), (2, (0, 0, w2)), (3, (0, 0, w3)), (4, (0, 0, w4)), (5, (0, 0, (i : Int)))] [] M ((ax_qm (-2147483648) 2147483647) (f_X2_sheet_L46 w1 w2 w3 w4 n i  M kx)) := by
  intro n
  induction n with
  | zero =>
    intro i M hin
    refine ax_lump ax_layC ok_kX2 [(46, .iload 5, 2, 0, 0, 0), (48, .bipush 16, 2, 0, 0, 0)] (pc' := 50) (lc' := [(0, (2, 2, 0)), (1, (0, 0, w1)), (2, (0, 0, w2)), (3, (0, 0, w3)), (4, (0, 0, w4)), (5, (0, 0, (i : Int)))]) (st' := [(0, 0, 16), (0, 0, (i : Int))]) (M' := M) (C' := True) (by decide +kernel) rfl trivial ?_
    refine ax_icmp_ge (off := 40) (tgt := 90) (by decide +kernel) (by decide) (fun h => ?_) (fun h => ?_)
    · refine ax_pk [0] (lc' := [(0, (2, 2, 0))]) rfl ?_
      exact hkx M trivial
    · exfalso; omega
  | succ n ih =>
    intro i M hin
    refine ax_lump ax_layC ok_kX2 [(46, .iload 5, 2, 0, 0, 0), (48, .bipush 16, 2, 0, 0, 0)] (pc' := 50) (lc' := [(0, (2, 2, 0)), (1, (0, 0, w1)), (2, (0, 0, w2)), (3, (0, 0, w3)), (4, (0, 0, w4)), (5, (0, 0, (i : Int)))]) (st' := [(0, 0, 16), (0, 0, (i : Int))]) (M' := M) (C' := True) (by decide +kernel) rfl trivial ?_
    refine ax_icmp_ge (off := 40) (tgt := 90) (by decide +kernel) (by decide) (fun h => ?_) (fun h => ?_)
    · exfalso; omega
    · exact wb_X2_sheet_B46 d w1 w2 w3 w4 i  M _ kx hw_w1 hw_w2 (by omega)  (fun M9 => ih (i + 1)  M9 (by omega) ) hkx
def f_X2_sheet (x1 : Int) (x2 : Int) (x3 : Int) (x4 : Int) (M : ax_M) : Int × ax_M := (if x1 < 0 then ((-1), M) else (if 3 < x1 then ((-1), M) else (if x2 ≤ 16 then (if x1 ≠ 3 then (if 0 ≤ x2 then f_X2_sheet_L46 x1 x2 x3 x4 16 0  M (fun M10 => ((f_X0_wipesOfAll 1 M10), M10)) else ((-2), M)) else ax_bd (f_J_fill 16 7 0 M) (fun M12 => ((-3), M12))) else ((-1), M))))
set_option maxRecDepth 100000 in
set_option maxHeartbeats 4000000 in
theorem c_X2_sheet (d : Nat) (x1 : Int) (x2 : Int) (x3 : Int) (x4 : Int) (M : ax_M)  : ax_Met ax_LC gX2_sheet (d + 2) [(2, 2, 0), (0, 0, x1), (0, 0, x2), (0, 0, x3), (0, 0, x4)] M ((ax_qm (-2147483648) 2147483647) (f_X2_sheet x1 x2 x3 x4 M)) := by
  refine ax_body (by decide) (fun X => Nat.le_of_ble_eq_true rfl) (fun hok => ?_)
  have hr_x1 : (-2147483648) ≤ x1 ∧ x1 ≤ 2147483647 := hok (0, 0, x1) (by simp)
  have hr_x2 : (-2147483648) ≤ x2 ∧ x2 ≤ 2147483647 := hok (0, 0, x2) (by simp)
  have hr_x3 : (-2147483648) ≤ x3 ∧ x3 ≤ 2147483647 := hok (0, 0, x3) (by simp)
  have hr_x4 : (-2147483648) ≤ x4 ∧ x4 ≤ 2147483647 := hok (0, 0, x4) (by simp)
  show ax_W ax_LC gX2_sheet (d + 2) 0 [(0, (2, 2, 0)), (1, (0, 0, x1)), (2, (0, 0, x2)), (3, (0, 0, x3)), (4, (0, 0, x4))] [] M _
  unfold f_X2_sheet
  refine ax_lump ax_layC ok_kX2 [(0, .iload_n 1, 1, 0, 0, 0)] (pc' := 1) (lc' := [(0, (2, 2, 0)), (1, (0, 0, x1)), (2, (0, 0, x2)), (3, (0, 0, x3)), (4, (0, 0, x4))]) (st' := [(0, 0, x1)]) (M' := M) (C' := True) (by decide +kernel) rfl trivial ?_
  refine ax_zlt (off := 14) (tgt := 15) (by decide +kernel) (by decide) (fun h1 => ?_) (fun h1 => ?_)
  · refine ax_lump ax_layC ok_kX2 [(15, .iconst (-1), 1, 0, 0, 0)] (pc' := 16) (lc' := [(0, (2, 2, 0)), (1, (0, 0, x1)), (2, (0, 0, x2)), (3, (0, 0, x3)), (4, (0, 0, x4))]) (st' := [(0, 0, (-1))]) (M' := M) (C' := True) (by decide +kernel) rfl trivial ?_
    refine ax_rngS (fun hr => ?_)
    exact ax_iret (by decide +kernel) rfl ⟨rfl, rfl, hr.1, hr.2⟩
  · refine ax_lump ax_layC ok_kX2 [(4, .iload_n 1, 1, 0, 0, 0), (5, .iconst 3, 1, 0, 0, 0)] (pc' := 6) (lc' := [(0, (2, 2, 0)), (1, (0, 0, x1)), (2, (0, 0, x2)), (3, (0, 0, x3)), (4, (0, 0, x4))]) (st' := [(0, 0, 3), (0, 0, x1)]) (M' := M) (C' := True) (by decide +kernel) rfl trivial ?_
    refine ax_jgt (off := 9) (tgt := 15) (by decide +kernel) (by decide) (fun h2 => ?_) (fun h2 => ?_)
    · refine ax_lump ax_layC ok_kX2 [(15, .iconst (-1), 1, 0, 0, 0)] (pc' := 16) (lc' := [(0, (2, 2, 0)), (1, (0, 0, x1)), (2, (0, 0, x2)), (3, (0, 0, x3)), (4, (0, 0, x4))]) (st' := [(0, 0, (-1))]) (M' := M) (C' := True) (by decide +kernel) rfl trivial ?_
      refine ax_rngS (fun hr => ?_)
      exact ax_iret (by decide +kernel) rfl ⟨rfl, rfl, hr.1, hr.2⟩
    · refine ax_lump ax_layC ok_kX2 [(9, .iload_n 2, 1, 0, 0, 0), (10, .bipush 16, 2, 0, 0, 0)] (pc' := 12) (lc' := [(0, (2, 2, 0)), (1, (0, 0, x1)), (2, (0, 0, x2)), (3, (0, 0, x3)), (4, (0, 0, x4))]) (st' := [(0, 0, 16), (0, 0, x2)]) (M' := M) (C' := True) (by decide +kernel) rfl trivial ?_
      refine ax_jle (off := 5) (tgt := 17) (by decide +kernel) (by decide) (fun h3 => ?_) (fun h3 => ?_)
      · refine ax_lump ax_layC ok_kX2 [(17, .iload_n 1, 1, 0, 0, 0), (18, .iconst 3, 1, 0, 0, 0)] (pc' := 19) (lc' := [(0, (2, 2, 0)), (1, (0, 0, x1)), (2, (0, 0, x2)), (3, (0, 0, x3)), (4, (0, 0, x4))]) (st' := [(0, 0, 3), (0, 0, x1)]) (M' := M) (C' := True) (by decide +kernel) rfl trivial ?_
        refine ax_jne (off := 17) (tgt := 36) (by decide +kernel) (by decide) (fun h4 => ?_) (fun h4 => ?_)
        · refine ax_lump ax_layC ok_kX2 [(36, .iload_n 2, 1, 0, 0, 0)] (pc' := 37) (lc' := [(0, (2, 2, 0)), (1, (0, 0, x1)), (2, (0, 0, x2)), (3, (0, 0, x3)), (4, (0, 0, x4))]) (st' := [(0, 0, x2)]) (M' := M) (C' := True) (by decide +kernel) rfl trivial ?_
          refine ax_zge (off := 6) (tgt := 43) (by decide +kernel) (by decide) (fun h5 => ?_) (fun h5 => ?_)
          · refine ax_lump ax_layC ok_kX2 [(43, .iconst 0, 1, 0, 0, 0), (44, .istore 5, 2, 0, 0, 0)] (pc' := 46) (lc' := [(5, (0, 0, 0)), (0, (2, 2, 0)), (1, (0, 0, x1)), (2, (0, 0, x2)), (3, (0, 0, x3)), (4, (0, 0, x4))]) (st' := []) (M' := M) (C' := True) (by decide +kernel) rfl trivial ?_
            refine ax_pk [1,2,3,4,5,0] (lc' := [(0, (2, 2, 0)), (1, (0, 0, x1)), (2, (0, 0, x2)), (3, (0, 0, x3)), (4, (0, 0, x4)), (5, (0, 0, 0))]) rfl ?_
            refine w_X2_sheet_L46 d x1 x2 x3 x4 _ (by omega) (by omega) (fun M10 hx_10 => ?_) 16 0  M (by omega) 
            refine ax_lump ax_layC ok_kX2 [(90, .aload_n 0, 1, 0, 0, 0), (91, .getfield 12, 3, 2, 0, 0)] (pc' := 94) (lc' := [(0, (2, 2, 0))]) (st' := [(2, 0, 1)]) (M' := M10) (C' := True) (by decide +kernel) rfl trivial ?_
            refine ax_cNi (G1 := gX0_wipesOfAll) (d1 := d + 0) (i := 131) (n := 0) (as := []) (st := []) (c := 0) (a := 1) (by decide +kernel) ax_cls0 calX0_wipesOfAll (by omega) rfl wn_343 wt_345 ws_9 (Nat.le_of_ble_eq_true rfl) rfl (c_X0_wipesOfAll d 1 M10) (fun hc11 => ?_)
            refine ax_rngS (fun hr => ?_)
            exact ax_iret (by decide +kernel) rfl ⟨rfl, rfl, hr.1, hr.2⟩
          · refine ax_lump ax_layC ok_kX2 [(40, .bipush (-2), 2, 0, 0, 0)] (pc' := 42) (lc' := [(0, (2, 2, 0)), (1, (0, 0, x1)), (2, (0, 0, x2)), (3, (0, 0, x3)), (4, (0, 0, x4))]) (st' := [(0, 0, (-2))]) (M' := M) (C' := True) (by decide +kernel) rfl trivial ?_
            refine ax_rngS (fun hr => ?_)
            exact ax_iret (by decide +kernel) rfl ⟨rfl, rfl, hr.1, hr.2⟩
        · refine ax_lump ax_layC ok_kX2 [(22, .aload_n 0, 1, 0, 0, 0), (23, .getfield 12, 3, 2, 0, 0), (26, .getfield 97, 3, 0, 5, 0), (29, .iconst 0, 1, 0, 0, 0)] (pc' := 30) (lc' := [(0, (2, 2, 0)), (1, (0, 0, x1)), (2, (0, 0, x2)), (3, (0, 0, x3)), (4, (0, 0, x4))]) (st' := [(0, 0, 0), (3, 16, 7)]) (M' := M) (C' := True) (by decide +kernel) rfl trivial ?_
          refine ax_cSv (G1 := gJ_fill) (d1 := d + 0) (i := 121) (n := 2) (as := [(3, 16, 7), (0, 0, 0)]) (st := []) (by decide +kernel) calJ_fill (by omega) rfl wt_337 wt_34 (Nat.le_of_ble_eq_true rfl) rfl (c_J_fill ax_LC ax_layC d 16 7 0 M (by omega)) (fun M12 => ?_)
          refine ax_lump ax_layC ok_kX2 [(33, .bipush (-3), 2, 0, 0, 0)] (pc' := 35) (lc' := [(0, (2, 2, 0)), (1, (0, 0, x1)), (2, (0, 0, x2)), (3, (0, 0, x3)), (4, (0, 0, x4))]) (st' := [(0, 0, (-3))]) (M' := M12) (C' := True) (by decide +kernel) rfl trivial ?_
          refine ax_rngS (fun hr => ?_)
          exact ax_iret (by decide +kernel) rfl ⟨rfl, rfl, hr.1, hr.2⟩
      · refine ax_lump ax_layC ok_kX2 [(15, .iconst (-1), 1, 0, 0, 0)] (pc' := 16) (lc' := [(0, (2, 2, 0)), (1, (0, 0, x1)), (2, (0, 0, x2)), (3, (0, 0, x3)), (4, (0, 0, x4))]) (st' := [(0, 0, (-1))]) (M' := M) (C' := True) (by decide +kernel) rfl trivial ?_
        refine ax_rngS (fun hr => ?_)
        exact ax_iret (by decide +kernel) rfl ⟨rfl, rfl, hr.1, hr.2⟩
def f_X2_copies_B13 (w1 : Int) (M : ax_M) (i : Nat) (v2 : Int) (kc : Int → Int × ax_M) (kx : Int → Int × ax_M) : Int × ax_M := (if (M 2 i) ≠ w1 then kc (v2 + 0) else kc (v2 + 1))
def f_X2_copies_L13 (w1 : Int) (M : ax_M) : Nat → Nat → Int → (Int → Int × ax_M) → Int × ax_M
  | 0, i, v2, kx => kx v2
  | n + 1, i, v2, kx => f_X2_copies_B13 w1 M i v2 (fun u2 => f_X2_copies_L13 w1 M n (i + 1) u2 kx) kx
set_option maxRecDepth 100000 in
set_option maxHeartbeats 4000000 in
theorem wb_X2_copies_B13 (d : Nat) (w1 : Int) (M : ax_M) (i : Nat) (v2 : Int) (kc : Int → Int × ax_M) (kx : Int → Int × ax_M) (hw_w1 : 0 ≤ w1 ∧ w1 ≤ 23) (hi : 0 ≤ i ∧ i < 64) (hv2 : 0 ≤ v2 ∧ v2 ≤ 0 + 1 * ((i : Int) - 0)) (hkc : ∀ (u2 : Int), 0 ≤ u2 ∧ u2 ≤ 0 + 1 * (((i : Int) + 1) - 0) → ax_W ax_LC gX2_copies (d + 1) 13 [(0, (2, 2, 0)), (1, (0, 0, w1)), (2, (0, 0, u2)), (3, (0, 0, ((i : Int) + 1)))] [] M ((ax_qm (-1) 64) (kc u2))) (hkx : ∀ (x2 : Int), ((0 ≤ x2 ∧ x2 ≤ 64)) → ax_W ax_LC gX2_copies (d + 1) 46 [(0, (2, 2, 0)), (1, (0, 0, w1)), (2, (0, 0, x2))] [] M ((ax_qm (-1) 64) (kx x2))) : ax_W ax_LC gX2_copies (d + 1) 19 [(0, (2, 2, 0)), (1, (0, 0, w1)), (2, (0, 0, v2)), (3, (0, 0, (i : Int)))] [] M ((ax_qm (-1) 64) (f_X2_copies_B13 w1 M i v2 kc kx)) := by
  unfold f_X2_copies_B13
  refine ax_lump ax_layC ok_kX2 [(19, .iload_n 2, 1, 0, 0, 0), (20, .aload_n 0, 1, 0, 0, 0), (21, .getfield 12, 3, 2, 0, 0), (24, .getfield 110, 3, 0, 0, 0), (27, .iload_n 3, 1, 0, 0, 0), (28, .iaload, 1, 0, 0, 0), (29, .iload_n 1, 1, 0, 0, 0)] (pc' := 30) (lc' := [(0, (2, 2, 0)), (1, (0, 0, w1)), (2, (0, 0, v2)), (3, (0, 0, (i : Int)))]) (st' := [(0, 0, w1), (0, 0, (M 2 i)), (0, 0, v2)]) (M' := M) (C' := (True ∧ (0 ≤ (i : Int) ∧ (i : Int) < ((64 : Nat) : Int)))) (by decide +kernel) rfl ⟨trivial, by omega⟩ ?_
  refine ax_jne (off := 7) (tgt := 37) (by decide +kernel) (by decide) (fun h3 => ?_) (fun h3 => ?_)
  · refine ax_lump ax_layC ok_kX2 [(37, .iconst 0, 1, 0, 0, 0), (38, .iadd, 1, 1, 0, 0), (39, .istore_n 2, 1, 0, 0, 0), (40, .iinc 3 1, 3, 1, 0, 0), (43, .goto (-30), 3, 13, 0, 0)] (pc' := 13) (lc' := [(3, (0, 0, ((i : Int) + 1))), (2, (0, 0, (v2 + 0))), (0, (2, 2, 0)), (1, (0, 0, w1))]) (st' := []) (M' := M) (C' := ((True ∧ ax_r32 (v2 + 0)) ∧ ax_r32 ((i : Int) + 1))) (by decide +kernel) rfl ⟨⟨trivial, ⟨by omega, by omega⟩⟩, ⟨by omega, by omega⟩⟩ ?_
    refine ax_pk [2,3,1,0] (lc' := [(0, (2, 2, 0)), (1, (0, 0, w1)), (2, (0, 0, (v2 + 0))), (3, (0, 0, ((i : Int) + 1)))]) rfl ?_
    exact hkc (v2 + 0) (by omega)
  · refine ax_lump ax_layC ok_kX2 [(33, .iconst 1, 1, 0, 0, 0), (34, .goto 4, 3, 38, 0, 0), (38, .iadd, 1, 1, 0, 0), (39, .istore_n 2, 1, 0, 0, 0), (40, .iinc 3 1, 3, 1, 0, 0), (43, .goto (-30), 3, 13, 0, 0)] (pc' := 13) (lc' := [(3, (0, 0, ((i : Int) + 1))), (2, (0, 0, (v2 + 1))), (0, (2, 2, 0)), (1, (0, 0, w1))]) (st' := []) (M' := M) (C' := ((True ∧ ax_r32 (v2 + 1)) ∧ ax_r32 ((i : Int) + 1))) (by decide +kernel) rfl ⟨⟨trivial, ⟨by omega, by omega⟩⟩, ⟨by omega, by omega⟩⟩ ?_
    refine ax_pk [2,3,1,0] (lc' := [(0, (2, 2, 0)), (1, (0, 0, w1)), (2, (0, 0, (v2 + 1))), (3, (0, 0, ((i : Int) + 1)))]) rfl ?_
    exact hkc (v2 + 1) (by omega)
set_option maxRecDepth 100000 in
set_option maxHeartbeats 4000000 in
theorem w_X2_copies_L13 (d : Nat) (w1 : Int) (M : ax_M) (kx : Int → Int × ax_M) (hw_w1 : 0 ≤ w1 ∧ w1 ≤ 23) (hkx : ∀ (x2 : Int), ((0 ≤ x2 ∧ x2 ≤ 64)) → ax_W ax_LC gX2_copies (d + 1) 46 [(0, (2, 2, 0)), (1, (0, 0, w1)), (2, (0, 0, x2))] [] M ((ax_qm (-1) 64) (kx x2))) : ∀ (n : Nat) (i : Nat) (v2 : Int), 0 ≤ i ∧ i + n = 64 → 0 ≤ v2 ∧ v2 ≤ 0 + 1 * ((i : Int) - 0) → ax_W ax_LC gX2_copies (d + 1) 13 [(0, (2, 2, 0)), (1, (0, 0, w1)), (2, (0, 0, v2)), (3, (0, 0, (i : Int)))] [] M ((ax_qm (-1) 64) (f_X2_copies_L13 w1 M n i v2 kx)) := by
  intro n
  induction n with
  | zero =>
    intro i v2 hin hv2
    refine ax_lump ax_layC ok_kX2 [(13, .iload_n 3, 1, 0, 0, 0), (14, .bipush 64, 2, 0, 0, 0)] (pc' := 16) (lc' := [(0, (2, 2, 0)), (1, (0, 0, w1)), (2, (0, 0, v2)), (3, (0, 0, (i : Int)))]) (st' := [(0, 0, 64), (0, 0, (i : Int))]) (M' := M) (C' := True) (by decide +kernel) rfl trivial ?_
    refine ax_icmp_ge (off := 30) (tgt := 46) (by decide +kernel) (by decide) (fun h => ?_) (fun h => ?_)
    · refine ax_pk [0,1,2] (lc' := [(0, (2, 2, 0)), (1, (0, 0, w1)), (2, (0, 0, v2))]) rfl ?_
      exact hkx v2 (by omega)
    · exfalso; omega
  | succ n ih =>
    intro i v2 hin hv2
    refine ax_lump ax_layC ok_kX2 [(13, .iload_n 3, 1, 0, 0, 0), (14, .bipush 64, 2, 0, 0, 0)] (pc' := 16) (lc' := [(0, (2, 2, 0)), (1, (0, 0, w1)), (2, (0, 0, v2)), (3, (0, 0, (i : Int)))]) (st' := [(0, 0, 64), (0, 0, (i : Int))]) (M' := M) (C' := True) (by decide +kernel) rfl trivial ?_
    refine ax_icmp_ge (off := 30) (tgt := 46) (by decide +kernel) (by decide) (fun h => ?_) (fun h => ?_)
    · exfalso; omega
    · exact wb_X2_copies_B13 d w1 M i v2 _ kx hw_w1 (by omega) hv2 (fun u2 hu2 => ih (i + 1) u2 (by omega) (by omega)) hkx
def f_X2_copies_B55 (w1 : Int) (w2 : Int) (i : Int) (v3 : Int) (M : ax_M) (kc : Int → ax_M → Int × ax_M) (kx : ax_M → Int × ax_M) : Int × ax_M := (if 12 ≤ i then kx M else ax_bd (f_X0_copyBehind 1 w1 v3 M) (fun y8 => ax_bd (f_X2_tell y8 M) (fun M9 => kc y8 M9)))
def f_X2_copies_L55 (w1 : Int) (w2 : Int) : Nat → Int → Int → ax_M → (ax_M → Int × ax_M) → Int × ax_M
  | 0, i, v3, M, kx => kx M
  | n + 1, i, v3, M, kx => f_X2_copies_B55 w1 w2 i v3 M (fun u3 M9 => f_X2_copies_L55 w1 w2 n (i + 1) u3 M9 kx) kx
set_option maxRecDepth 100000 in
set_option maxHeartbeats 4000000 in
theorem wb_X2_copies_B55 (d : Nat) (w1 : Int) (w2 : Int) (i : Int) (v3 : Int) (M : ax_M) (kc : Int → ax_M → Int × ax_M) (kx : ax_M → Int × ax_M) (hw_w1 : 0 ≤ w1 ∧ w1 ≤ 23) (hw_w2 : 0 ≤ w2 ∧ w2 ≤ 64) (hi : 0 ≤ i ∧ i < w2) (hv3 : (-1) ≤ v3 ∧ v3 ≤ 63) (hkc : ∀ (u3 : Int) (M9 : ax_M), (-1) ≤ u3 ∧ u3 ≤ 63 → ax_W ax_LC gX2_copies (d + 1) 55 [(0, (2, 2, 0)), (1, (0, 0, w1)), (2, (0, 0, w2)), (3, (0, 0, u3)), (4, (0, 0, (i + 1)))] [] M9 ((ax_qm (-1) 64) (kc u3 M9))) (hkx : ∀ (M9 : ax_M), (True) → ax_W ax_LC gX2_copies (d + 1) 90 [(2, (0, 0, w2))] [] M9 ((ax_qm (-1) 64) (kx M9))) : ax_W ax_LC gX2_copies (d + 1) 61 [(0, (2, 2, 0)), (1, (0, 0, w1)), (2, (0, 0, w2)), (3, (0, 0, v3)), (4, (0, 0, i))] [] M ((ax_qm (-1) 64) (f_X2_copies_B55 w1 w2 i v3 M kc kx)) := by
  unfold f_X2_copies_B55
  refine ax_lump ax_layC ok_kX2 [(61, .iload 4, 2, 0, 0, 0), (63, .bipush 12, 2, 0, 0, 0)] (pc' := 65) (lc' := [(0, (2, 2, 0)), (1, (0, 0, w1)), (2, (0, 0, w2)), (3, (0, 0, v3)), (4, (0, 0, i))]) (st' := [(0, 0, 12), (0, 0, i)]) (M' := M) (C' := True) (by decide +kernel) rfl trivial ?_
  refine ax_jge (off := 25) (tgt := 90) (by decide +kernel) (by decide) (fun h6 => ?_) (fun h6 => ?_)
  · refine ax_pk [2] (lc' := [(2, (0, 0, w2))]) rfl ?_
    exact hkx M trivial
  · refine ax_lump ax_layC ok_kX2 [(68, .aload_n 0, 1, 0, 0, 0), (69, .getfield 12, 3, 2, 0, 0), (72, .iload_n 1, 1, 0, 0, 0), (73, .iload_n 3, 1, 0, 0, 0)] (pc' := 74) (lc' := [(0, (2, 2, 0)), (1, (0, 0, w1)), (2, (0, 0, w2)), (3, (0, 0, v3)), (4, (0, 0, i))]) (st' := [(0, 0, v3), (0, 0, w1), (2, 0, 1)]) (M' := M) (C' := True) (by decide +kernel) rfl trivial ?_
    refine ax_cNi (G1 := gX0_copyBehind) (d1 := d + 0) (i := 226) (n := 2) (as := [(0, 0, w1), (0, 0, v3)]) (st := []) (c := 0) (a := 1) (by decide +kernel) ax_cls0 calX0_copyBehind (by omega) rfl wn_619 wt_621 ws_58 (Nat.le_of_ble_eq_true rfl) rfl (c_X0_copyBehind d 1 w1 v3 M) (fun hc7 => ?_)
    refine ax_lump ax_layC ok_kX2 [(77, .istore_n 3, 1, 0, 0, 0)] (pc' := 78) (lc' := [(3, (0, 0, (f_X0_copyBehind 1 w1 v3 M))), (0, (2, 2, 0)), (1, (0, 0, w1)), (2, (0, 0, w2)), (4, (0, 0, i))]) (st' := []) (M' := M) (C' := True) (by decide +kernel) rfl trivial ?_
    refine ax_bdI (lo := (-1)) (hi := 63) (e := (f_X0_copyBehind 1 w1 v3 M)) (fun y8 => [(3, (0, 0, y8)), (0, (2, 2, 0)), (1, (0, 0, w1)), (2, (0, 0, w2)), (4, (0, 0, i))]) (fun y8 => []) (by omega) (fun y8 h_y8 => ?_)
    refine ax_lump ax_layC ok_kX2 [(78, .aload_n 0, 1, 0, 0, 0), (79, .iload_n 3, 1, 0, 0, 0), (80, .i2l, 1, 0, 0, 0)] (pc' := 81) (lc' := [(3, (0, 0, y8)), (0, (2, 2, 0)), (1, (0, 0, w1)), (2, (0, 0, w2)), (4, (0, 0, i))]) (st' := [(1, 0, y8), (2, 2, 0)]) (M' := M) (C' := True) (by decide +kernel) rfl trivial ?_
    refine ax_cVv (G1 := gX2_tell) (d1 := d + 0) (i := 155) (n := 1) (as := [(1, 0, y8)]) (st := []) (c := 2) (a := 0) (by decide +kernel) ax_cls2 calX2_tell (by omega) rfl wt_521 wt_523 ws_48 (Nat.le_of_ble_eq_true rfl) rfl (c_X2_tell d y8 M) (fun M9 => ?_)
    refine ax_lump ax_layC ok_kX2 [(84, .iinc 4 1, 3, 1, 0, 0), (87, .goto (-32), 3, 55, 0, 0)] (pc' := 55) (lc' := [(4, (0, 0, (i + 1))), (3, (0, 0, y8)), (0, (2, 2, 0)), (1, (0, 0, w1)), (2, (0, 0, w2))]) (st' := []) (M' := M9) (C' := (True ∧ ax_r32 (i + 1))) (by decide +kernel) rfl ⟨trivial, ⟨by omega, by omega⟩⟩ ?_
    refine ax_pk [2,3,4,1,0] (lc' := [(0, (2, 2, 0)), (1, (0, 0, w1)), (2, (0, 0, w2)), (3, (0, 0, y8)), (4, (0, 0, (i + 1)))]) rfl ?_
    exact hkc y8 M9 (by omega)
set_option maxRecDepth 100000 in
set_option maxHeartbeats 4000000 in
theorem w_X2_copies_L55 (d : Nat) (w1 : Int) (w2 : Int) (kx : ax_M → Int × ax_M) (hw_w1 : 0 ≤ w1 ∧ w1 ≤ 23) (hw_w2 : 0 ≤ w2 ∧ w2 ≤ 64) (hkx : ∀ (M9 : ax_M), (True) → ax_W ax_LC gX2_copies (d + 1) 90 [(2, (0, 0, w2))] [] M9 ((ax_qm (-1) 64) (kx M9))) : ∀ (n : Nat) (i : Int) (v3 : Int) (M : ax_M), 0 ≤ i ∧ n = (w2 - i).toNat → (-1) ≤ v3 ∧ v3 ≤ 63 → ax_W ax_LC gX2_copies (d + 1) 55 [(0, (2, 2, 0)), (1, (0, 0, w1)), (2, (0, 0, w2)), (3, (0, 0, v3)), (4, (0, 0, i))] [] M ((ax_qm (-1) 64) (f_X2_copies_L55 w1 w2 n i v3 M kx)) := by
  intro n
  induction n with
  | zero =>
    intro i v3 M hin hv3
    refine ax_lump ax_layC ok_kX2 [(55, .iload 4, 2, 0, 0, 0), (57, .iload_n 2, 1, 0, 0, 0)] (pc' := 58) (lc' := [(0, (2, 2, 0)), (1, (0, 0, w1)), (2, (0, 0, w2)), (3, (0, 0, v3)), (4, (0, 0, i))]) (st' := [(0, 0, w2), (0, 0, i)]) (M' := M) (C' := True) (by decide +kernel) rfl trivial ?_
    refine ax_icmp_ge (off := 32) (tgt := 90) (by decide +kernel) (by decide) (fun h => ?_) (fun h => ?_)
    · refine ax_pk [2] (lc' := [(2, (0, 0, w2))]) rfl ?_
      exact hkx M trivial
    · exfalso; omega
  | succ n ih =>
    intro i v3 M hin hv3
    refine ax_lump ax_layC ok_kX2 [(55, .iload 4, 2, 0, 0, 0), (57, .iload_n 2, 1, 0, 0, 0)] (pc' := 58) (lc' := [(0, (2, 2, 0)), (1, (0, 0, w1)), (2, (0, 0, w2)), (3, (0, 0, v3)), (4, (0, 0, i))]) (st' := [(0, 0, w2), (0, 0, i)]) (M' := M) (C' := True) (by decide +kernel) rfl trivial ?_
    refine ax_icmp_ge (off := 32) (tgt := 90) (by decide +kernel) (by decide) (fun h => ?_) (fun h => ?_)
    · exfalso; omega
    · exact wb_X2_copies_B55 d w1 w2 i v3 M _ kx hw_w1 hw_w2 (by omega) hv3 (fun u3 M9 hu3 => ih (i + 1) u3 M9 (by omega) hu3) hkx
def f_X2_copies (x1 : Int) (M : ax_M) : Int × ax_M := (if (f_X2_isPage x1 M) ≠ 0 then f_X2_copies_L13 x1 M 64 0 0 (fun z4 => ax_bd (f_X2_tellAnew M) (fun M5 => f_X2_copies_L55 x1 z4 (z4 - 0).toNat 0 (-1) M5 (fun M10 => (z4, M10)))) else ((-1), M))
set_option maxRecDepth 100000 in
set_option maxHeartbeats 4000000 in
theorem c_X2_copies (d : Nat) (x1 : Int) (M : ax_M)  : ax_Met ax_LC gX2_copies (d + 1) [(2, 2, 0), (0, 0, x1)] M ((ax_qm (-1) 64) (f_X2_copies x1 M)) := by
  refine ax_body (by decide) (fun X => Nat.le_of_ble_eq_true rfl) (fun hok => ?_)
  have hr_x1 : (-2147483648) ≤ x1 ∧ x1 ≤ 2147483647 := hok (0, 0, x1) (by simp)
  show ax_W ax_LC gX2_copies (d + 1) 0 [(0, (2, 2, 0)), (1, (0, 0, x1))] [] M _
  unfold f_X2_copies
  refine ax_lump ax_layC ok_kX2 [(0, .iload_n 1, 1, 0, 0, 0)] (pc' := 1) (lc' := [(0, (2, 2, 0)), (1, (0, 0, x1))]) (st' := [(0, 0, x1)]) (M' := M) (C' := True) (by decide +kernel) rfl trivial ?_
  refine ax_cSi (G1 := gX2_isPage) (d1 := d + 0) (i := 162) (n := 1) (as := [(0, 0, x1)]) (st := []) (by decide +kernel) calX2_isPage (by omega) rfl wt_537 wt_538 (Nat.le_of_ble_eq_true rfl) rfl (c_X2_isPage d x1 M) (fun hc1 => ?_)
  refine ax_zne (off := 5) (tgt := 9) (by decide +kernel) (by decide) (fun h2 => ?_) (fun h2 => ?_)
  · have hgh2 := g_X2_isPage h2
    refine ax_lump ax_layC ok_kX2 [(9, .iconst 0, 1, 0, 0, 0), (10, .istore_n 2, 1, 0, 0, 0), (11, .iconst 0, 1, 0, 0, 0), (12, .istore_n 3, 1, 0, 0, 0)] (pc' := 13) (lc' := [(3, (0, 0, 0)), (2, (0, 0, 0)), (0, (2, 2, 0)), (1, (0, 0, x1))]) (st' := []) (M' := M) (C' := True) (by decide +kernel) rfl trivial ?_
    refine ax_pk [2,3,1,0] (lc' := [(0, (2, 2, 0)), (1, (0, 0, x1)), (2, (0, 0, 0)), (3, (0, 0, 0))]) rfl ?_
    refine w_X2_copies_L13 d x1 M _ (by omega) (fun z4 hx_4 => ?_) 64 0 0 (by omega) (by omega)
    refine ax_lump ax_layC ok_kX2 [(46, .aload_n 0, 1, 0, 0, 0)] (pc' := 47) (lc' := [(0, (2, 2, 0)), (1, (0, 0, x1)), (2, (0, 0, z4))]) (st' := [(2, 2, 0)]) (M' := M) (C' := True) (by decide +kernel) rfl trivial ?_
    refine ax_cVv (G1 := gX2_tellAnew) (d1 := d + 0) (i := 168) (n := 0) (as := []) (st := []) (c := 2) (a := 0) (by decide +kernel) ax_cls2 calX2_tellAnew (by omega) rfl wt_517 wt_519 ws_47 (Nat.le_of_ble_eq_true rfl) rfl (c_X2_tellAnew d  M) (fun M5 => ?_)
    refine ax_lump ax_layC ok_kX2 [(50, .iconst (-1), 1, 0, 0, 0), (51, .istore_n 3, 1, 0, 0, 0), (52, .iconst 0, 1, 0, 0, 0), (53, .istore 4, 2, 0, 0, 0)] (pc' := 55) (lc' := [(4, (0, 0, 0)), (3, (0, 0, (-1))), (0, (2, 2, 0)), (1, (0, 0, x1)), (2, (0, 0, z4))]) (st' := []) (M' := M5) (C' := True) (by decide +kernel) rfl trivial ?_
    refine ax_pk [2,3,4,1,0] (lc' := [(0, (2, 2, 0)), (1, (0, 0, x1)), (2, (0, 0, z4)), (3, (0, 0, (-1))), (4, (0, 0, 0))]) rfl ?_
    refine w_X2_copies_L55 d x1 z4 _ (by omega) (by omega) (fun M10 hx_10 => ?_) (z4 - 0).toNat 0 (-1) M5 (by omega) (by omega)
    refine ax_lump ax_layC ok_kX2 [(90, .iload_n 2, 1, 0, 0, 0)] (pc' := 91) (lc' := [(2, (0, 0, z4))]) (st' := [(0, 0, z4)]) (M' := M10) (C' := True) (by decide +kernel) rfl trivial ?_
    exact ax_iret (by decide +kernel) rfl ⟨rfl, rfl, (show ((-1) : Int) ≤ z4 from by omega), (show z4 ≤ (64 : Int) from by omega)⟩
  · refine ax_lump ax_layC ok_kX2 [(7, .iconst (-1), 1, 0, 0, 0)] (pc' := 8) (lc' := [(0, (2, 2, 0)), (1, (0, 0, x1))]) (st' := [(0, 0, (-1))]) (M' := M) (C' := True) (by decide +kernel) rfl trivial ?_
    exact ax_iret (by decide +kernel) rfl ⟨rfl, rfl, (show ((-1) : Int) ≤ (-1) from by omega), (show (-1) ≤ (64 : Int) from by omega)⟩
def f_X2_hot_B6  (M : ax_M) (i : Nat) (v1 : Int) (v2 : Int) (kc : Int → Int → Int × ax_M) (kx : Int → Int → Int × ax_M) : Int × ax_M := (if (f_X0_isHot 1 (i : Int) M) = 0 then ax_bd (ax_or v1 0) (fun y3 => (if (M 8 i) ≤ (M 8 v2.toNat) then kc y3 v2 else kc y3 (i : Int))) else ax_bd (ax_or v1 (ax_shl 1 (i : Int))) (fun y5 => (if (M 8 i) ≤ (M 8 v2.toNat) then kc y5 v2 else kc y5 (i : Int))))
def f_X2_hot_L6  (M : ax_M) : Nat → Nat → Int → Int → (Int → Int → Int × ax_M) → Int × ax_M
  | 0, i, v1, v2, kx => kx v1 v2
  | n + 1, i, v1, v2, kx => f_X2_hot_B6  M i v1 v2 (fun u1 u2 => f_X2_hot_L6  M n (i + 1) u1 u2 kx) kx
set_option maxRecDepth 100000 in
set_option maxHeartbeats 4000000 in
theorem wb_X2_hot_B6 (d : Nat)  (M : ax_M) (i : Nat) (v1 : Int) (v2 : Int) (kc : Int → Int → Int × ax_M) (kx : Int → Int → Int × ax_M)  (hi : 0 ≤ i ∧ i < 24) (hv2 : 0 ≤ v2 ∧ v2 ≤ 23) (hkc : ∀ (u1 : Int) (u2 : Int), 0 ≤ u2 ∧ u2 ≤ 23 → ax_W ax_LC gX2_hot (d + 1) 6 [(0, (2, 2, 0)), (1, (0, 0, u1)), (2, (0, 0, u2)), (3, (0, 0, ((i : Int) + 1)))] [] M ((ax_qm (-2147483648) 2147483647) (kc u1 u2))) (hkx : ∀ (x1 : Int) (x2 : Int), ((0 ≤ x2 ∧ x2 ≤ 23)) → ax_W ax_LC gX2_hot (d + 1) 62 [(0, (2, 2, 0)), (1, (0, 0, x1)), (2, (0, 0, x2))] [] M ((ax_qm (-2147483648) 2147483647) (kx x1 x2))) : ax_W ax_LC gX2_hot (d + 1) 12 [(0, (2, 2, 0)), (1, (0, 0, v1)), (2, (0, 0, v2)), (3, (0, 0, (i : Int)))] [] M ((ax_qm (-2147483648) 2147483647) (f_X2_hot_B6  M i v1 v2 kc kx)) := by
  unfold f_X2_hot_B6
  refine ax_lump ax_layC ok_kX2 [(12, .iload_n 1, 1, 0, 0, 0), (13, .aload_n 0, 1, 0, 0, 0), (14, .getfield 12, 3, 2, 0, 0), (17, .iload_n 3, 1, 0, 0, 0)] (pc' := 18) (lc' := [(0, (2, 2, 0)), (1, (0, 0, v1)), (2, (0, 0, v2)), (3, (0, 0, (i : Int)))]) (st' := [(0, 0, (i : Int)), (2, 0, 1), (0, 0, v1)]) (M' := M) (C' := True) (by decide +kernel) rfl trivial ?_
  refine ax_cNi (G1 := gX0_isHot) (d1 := d + 0) (i := 234) (n := 1) (as := [(0, 0, (i : Int))]) (st := [(0, 0, v1)]) (c := 0) (a := 1) (by decide +kernel) ax_cls0 calX0_isHot (by omega) rfl wn_634 wt_449 ws_32 (Nat.le_of_ble_eq_true rfl) rfl (c_X0_isHot d 1 (i : Int) M) (fun hc1 => ?_)
  refine ax_zeq (off := 9) (tgt := 30) (by decide +kernel) (by decide) (fun h2 => ?_) (fun h2 => ?_)
  · refine ax_lump ax_layC ok_kX2 [(30, .iconst 0, 1, 0, 0, 0), (31, .ior, 1, 0, 0, 0), (32, .istore_n 1, 1, 0, 0, 0)] (pc' := 33) (lc' := [(1, (0, 0, (ax_or v1 0))), (0, (2, 2, 0)), (2, (0, 0, v2)), (3, (0, 0, (i : Int)))]) (st' := []) (M' := M) (C' := True) (by decide +kernel) rfl trivial ?_
    refine ax_bdI0 (e := (ax_or v1 0)) (fun y3 => [(1, (0, 0, y3)), (0, (2, 2, 0)), (2, (0, 0, v2)), (3, (0, 0, (i : Int)))]) (fun y3 => []) (fun y3 => ?_)
    refine ax_lump ax_layC ok_kX2 [(33, .aload_n 0, 1, 0, 0, 0), (34, .getfield 12, 3, 2, 0, 0), (37, .getfield 237, 3, 0, 6, 0), (40, .iload_n 3, 1, 0, 0, 0), (41, .iaload, 1, 0, 0, 0), (42, .aload_n 0, 1, 0, 0, 0), (43, .getfield 12, 3, 2, 0, 0), (46, .getfield 237, 3, 0, 6, 0), (49, .iload_n 2, 1, 0, 0, 0), (50, .iaload, 1, 0, 0, 0)] (pc' := 51) (lc' := [(1, (0, 0, y3)), (0, (2, 2, 0)), (2, (0, 0, v2)), (3, (0, 0, (i : Int)))]) (st' := [(0, 0, (M 8 v2.toNat)), (0, 0, (M 8 i))]) (M' := M) (C' := ((True ∧ (0 ≤ (i : Int) ∧ (i : Int) < ((24 : Nat) : Int))) ∧ (0 ≤ v2 ∧ v2 < ((24 : Nat) : Int)))) (by decide +kernel) rfl ⟨⟨trivial, by omega⟩, by omega⟩ ?_
    refine ax_jle (off := 5) (tgt := 56) (by decide +kernel) (by decide) (fun h4 => ?_) (fun h4 => ?_)
    · refine ax_lump ax_layC ok_kX2 [(56, .iinc 3 1, 3, 1, 0, 0), (59, .goto (-53), 3, 6, 0, 0)] (pc' := 6) (lc' := [(3, (0, 0, ((i : Int) + 1))), (1, (0, 0, y3)), (0, (2, 2, 0)), (2, (0, 0, v2))]) (st' := []) (M' := M) (C' := (True ∧ ax_r32 ((i : Int) + 1))) (by decide +kernel) rfl ⟨trivial, ⟨by omega, by omega⟩⟩ ?_
      refine ax_pk [2,1,3,0] (lc' := [(0, (2, 2, 0)), (1, (0, 0, y3)), (2, (0, 0, v2)), (3, (0, 0, ((i : Int) + 1)))]) rfl ?_
      exact hkc y3 v2 (by omega)
    · refine ax_lump ax_layC ok_kX2 [(54, .iload_n 3, 1, 0, 0, 0), (55, .istore_n 2, 1, 0, 0, 0), (56, .iinc 3 1, 3, 1, 0, 0), (59, .goto (-53), 3, 6, 0, 0)] (pc' := 6) (lc' := [(3, (0, 0, ((i : Int) + 1))), (2, (0, 0, (i : Int))), (1, (0, 0, y3)), (0, (2, 2, 0))]) (st' := []) (M' := M) (C' := (True ∧ ax_r32 ((i : Int) + 1))) (by decide +kernel) rfl ⟨trivial, ⟨by omega, by omega⟩⟩ ?_
      refine ax_pk [3,2,1,0] (lc' := [(0, (2, 2, 0)), (1, (0, 0, y3)), (2, (0, 0, (i : Int))), (3, (0, 0, ((i : Int) + 1)))]) rfl ?_
      exact hkc y3 (i : Int) (by omega)
  · refine ax_lump ax_layC ok_kX2 [(24, .iconst 1, 1, 0, 0, 0), (25, .iload_n 3, 1, 0, 0, 0), (26, .ishl, 1, 0, 0, 0), (27, .goto 4, 3, 31, 0, 0), (31, .ior, 1, 0, 0, 0), (32, .istore_n 1, 1, 0, 0, 0)] (pc' := 33) (lc' := [(1, (0, 0, (ax_or v1 (ax_shl 1 (i : Int))))), (0, (2, 2, 0)), (2, (0, 0, v2)), (3, (0, 0, (i : Int)))]) (st' := []) (M' := M) (C' := True) (by decide +kernel) rfl trivial ?_
    refine ax_bdI0 (e := (ax_or v1 (ax_shl 1 (i : Int)))) (fun y5 => [(1, (0, 0, y5)), (0, (2, 2, 0)), (2, (0, 0, v2)), (3, (0, 0, (i : Int)))]) (fun y5 => []) (fun y5 => ?_)
    refine ax_lump ax_layC ok_kX2 [(33, .aload_n 0, 1, 0, 0, 0), (34, .getfield 12, 3, 2, 0, 0), (37, .getfield 237, 3, 0, 6, 0), (40, .iload_n 3, 1, 0, 0, 0), (41, .iaload, 1, 0, 0, 0), (42, .aload_n 0, 1, 0, 0, 0), (43, .getfield 12, 3, 2, 0, 0), (46, .getfield 237, 3, 0, 6, 0), (49, .iload_n 2, 1, 0, 0, 0), (50, .iaload, 1, 0, 0, 0)] (pc' := 51) (lc' := [(1, (0, 0, y5)), (0, (2, 2, 0)), (2, (0, 0, v2)), (3, (0, 0, (i : Int)))]) (st' := [(0, 0, (M 8 v2.toNat)), (0, 0, (M 8 i))]) (M' := M) (C' := ((True ∧ (0 ≤ (i : Int) ∧ (i : Int) < ((24 : Nat) : Int))) ∧ (0 ≤ v2 ∧ v2 < ((24 : Nat) : Int)))) (by decide +kernel) rfl ⟨⟨trivial, by omega⟩, by omega⟩ ?_
    refine ax_jle (off := 5) (tgt := 56) (by decide +kernel) (by decide) (fun h6 => ?_) (fun h6 => ?_)
    · refine ax_lump ax_layC ok_kX2 [(56, .iinc 3 1, 3, 1, 0, 0), (59, .goto (-53), 3, 6, 0, 0)] (pc' := 6) (lc' := [(3, (0, 0, ((i : Int) + 1))), (1, (0, 0, y5)), (0, (2, 2, 0)), (2, (0, 0, v2))]) (st' := []) (M' := M) (C' := (True ∧ ax_r32 ((i : Int) + 1))) (by decide +kernel) rfl ⟨trivial, ⟨by omega, by omega⟩⟩ ?_
      refine ax_pk [2,1,3,0] (lc' := [(0, (2, 2, 0)), (1, (0, 0, y5)), (2, (0, 0, v2)), (3, (0, 0, ((i : Int) + 1)))]) rfl ?_
      exact hkc y5 v2 (by omega)
    · refine ax_lump ax_layC ok_kX2 [(54, .iload_n 3, 1, 0, 0, 0), (55, .istore_n 2, 1, 0, 0, 0), (56, .iinc 3 1, 3, 1, 0, 0), (59, .goto (-53), 3, 6, 0, 0)] (pc' := 6) (lc' := [(3, (0, 0, ((i : Int) + 1))), (2, (0, 0, (i : Int))), (1, (0, 0, y5)), (0, (2, 2, 0))]) (st' := []) (M' := M) (C' := (True ∧ ax_r32 ((i : Int) + 1))) (by decide +kernel) rfl ⟨trivial, ⟨by omega, by omega⟩⟩ ?_
      refine ax_pk [3,2,1,0] (lc' := [(0, (2, 2, 0)), (1, (0, 0, y5)), (2, (0, 0, (i : Int))), (3, (0, 0, ((i : Int) + 1)))]) rfl ?_
      exact hkc y5 (i : Int) (by omega)
set_option maxRecDepth 100000 in
set_option maxHeartbeats 4000000 in
theorem w_X2_hot_L6 (d : Nat)  (M : ax_M) (kx : Int → Int → Int × ax_M)  (hkx : ∀ (x1 : Int) (x2 : Int), ((0 ≤ x2 ∧ x2 ≤ 23)) → ax_W ax_LC gX2_hot (d + 1) 62 [(0, (2, 2, 0)), (1, (0, 0, x1)), (2, (0, 0, x2))] [] M ((ax_qm (-2147483648) 2147483647) (kx x1 x2))) : ∀ (n : Nat) (i : Nat) (v1 : Int) (v2 : Int), 0 ≤ i ∧ i + n = 24 → 0 ≤ v2 ∧ v2 ≤ 23 → ax_W ax_LC gX2_hot (d + 1) 6 [(0, (2, 2, 0)), (1, (0, 0, v1)), (2, (0, 0, v2)), (3, (0, 0, (i : Int)))] [] M ((ax_qm (-2147483648) 2147483647) (f_X2_hot_L6  M n i v1 v2 kx)) := by
  intro n
  induction n with
  | zero =>
    intro i v1 v2 hin hv2
    refine ax_lump ax_layC ok_kX2 [(6, .iload_n 3, 1, 0, 0, 0), (7, .bipush 24, 2, 0, 0, 0)] (pc' := 9) (lc' := [(0, (2, 2, 0)), (1, (0, 0, v1)), (2, (0, 0, v2)), (3, (0, 0, (i : Int)))]) (st' := [(0, 0, 24), (0, 0, (i : Int))]) (M' := M) (C' := True) (by decide +kernel) rfl trivial ?_
    refine ax_icmp_ge (off := 53) (tgt := 62) (by decide +kernel) (by decide) (fun h => ?_) (fun h => ?_)
    · refine ax_pk [0,1,2] (lc' := [(0, (2, 2, 0)), (1, (0, 0, v1)), (2, (0, 0, v2))]) rfl ?_
      exact hkx v1 v2 (by omega)
    · exfalso; omega
  | succ n ih =>
    intro i v1 v2 hin hv2
    refine ax_lump ax_layC ok_kX2 [(6, .iload_n 3, 1, 0, 0, 0), (7, .bipush 24, 2, 0, 0, 0)] (pc' := 9) (lc' := [(0, (2, 2, 0)), (1, (0, 0, v1)), (2, (0, 0, v2)), (3, (0, 0, (i : Int)))]) (st' := [(0, 0, 24), (0, 0, (i : Int))]) (M' := M) (C' := True) (by decide +kernel) rfl trivial ?_
    refine ax_icmp_ge (off := 53) (tgt := 62) (by decide +kernel) (by decide) (fun h => ?_) (fun h => ?_)
    · exfalso; omega
    · exact wb_X2_hot_B6 d  M i v1 v2 _ kx  (by omega) hv2 (fun u1 u2 hu2 => ih (i + 1) u1 u2 (by omega) hu2) hkx
def f_X2_hot  (M : ax_M) : Int × ax_M := f_X2_hot_L6  M 24 0 0 0 (fun z7 z8 => ax_bd (f_X2_tellAnew M) (fun M9 => ax_bd (f_X2_tell (f_J_bitCount z7 M9) M9) (fun M11 => ax_bd (f_X2_tell z8 M11) (fun M12 => ax_bd (f_X2_tell (M12 8 z8.toNat) M12) (fun M13 => (z7, M13))))))
set_option maxRecDepth 100000 in
set_option maxHeartbeats 4000000 in
theorem c_X2_hot (d : Nat)  (M : ax_M)  : ax_Met ax_LC gX2_hot (d + 1) [(2, 2, 0)] M ((ax_qm (-2147483648) 2147483647) (f_X2_hot  M)) := by
  refine ax_body (by decide) (fun X => Nat.le_of_ble_eq_true rfl) (fun hok => ?_)
  show ax_W ax_LC gX2_hot (d + 1) 0 [(0, (2, 2, 0))] [] M _
  unfold f_X2_hot
  refine ax_lump ax_layC ok_kX2 [(0, .iconst 0, 1, 0, 0, 0), (1, .istore_n 1, 1, 0, 0, 0), (2, .iconst 0, 1, 0, 0, 0), (3, .istore_n 2, 1, 0, 0, 0), (4, .iconst 0, 1, 0, 0, 0), (5, .istore_n 3, 1, 0, 0, 0)] (pc' := 6) (lc' := [(3, (0, 0, 0)), (2, (0, 0, 0)), (1, (0, 0, 0)), (0, (2, 2, 0))]) (st' := []) (M' := M) (C' := True) (by decide +kernel) rfl trivial ?_
  refine ax_pk [3,2,1,0] (lc' := [(0, (2, 2, 0)), (1, (0, 0, 0)), (2, (0, 0, 0)), (3, (0, 0, 0))]) rfl ?_
  refine w_X2_hot_L6 d  M _  (fun z7 z8 hx_8 => ?_) 24 0 0 0 (by omega) (by omega)
  refine ax_lump ax_layC ok_kX2 [(62, .aload_n 0, 1, 0, 0, 0)] (pc' := 63) (lc' := [(0, (2, 2, 0)), (1, (0, 0, z7)), (2, (0, 0, z8))]) (st' := [(2, 2, 0)]) (M' := M) (C' := True) (by decide +kernel) rfl trivial ?_
  refine ax_cVv (G1 := gX2_tellAnew) (d1 := d + 0) (i := 168) (n := 0) (as := []) (st := []) (c := 2) (a := 0) (by decide +kernel) ax_cls2 calX2_tellAnew (by omega) rfl wt_517 wt_519 ws_47 (Nat.le_of_ble_eq_true rfl) rfl (c_X2_tellAnew d  M) (fun M9 => ?_)
  refine ax_lump ax_layC ok_kX2 [(66, .aload_n 0, 1, 0, 0, 0), (67, .iload_n 1, 1, 0, 0, 0)] (pc' := 68) (lc' := [(0, (2, 2, 0)), (1, (0, 0, z7)), (2, (0, 0, z8))]) (st' := [(0, 0, z7), (2, 2, 0)]) (M' := M9) (C' := True) (by decide +kernel) rfl trivial ?_
  refine ax_cSi (G1 := gJ_bitCount) (d1 := d + 0) (i := 229) (n := 1) (as := [(0, 0, z7)]) (st := [(2, 2, 0)]) (by decide +kernel) calJ_bitCount (by omega) rfl wt_628 wt_468 (Nat.le_of_ble_eq_true rfl) rfl (c_J_bitCount ax_LC ax_layC d z7 M9) (fun hc10 => ?_)
  refine ax_lump ax_layC ok_kX2 [(71, .i2l, 1, 0, 0, 0)] (pc' := 72) (lc' := [(0, (2, 2, 0)), (1, (0, 0, z7)), (2, (0, 0, z8))]) (st' := [(1, 0, (f_J_bitCount z7 M9)), (2, 2, 0)]) (M' := M9) (C' := True) (by decide +kernel) rfl trivial ?_
  refine ax_cVv (G1 := gX2_tell) (d1 := d + 0) (i := 155) (n := 1) (as := [(1, 0, (f_J_bitCount z7 M9))]) (st := []) (c := 2) (a := 0) (by decide +kernel) ax_cls2 calX2_tell (by omega) rfl wt_521 wt_523 ws_48 (Nat.le_of_ble_eq_true rfl) rfl (c_X2_tell d (f_J_bitCount z7 M9) M9) (fun M11 => ?_)
  refine ax_lump ax_layC ok_kX2 [(75, .aload_n 0, 1, 0, 0, 0), (76, .iload_n 2, 1, 0, 0, 0), (77, .i2l, 1, 0, 0, 0)] (pc' := 78) (lc' := [(0, (2, 2, 0)), (1, (0, 0, z7)), (2, (0, 0, z8))]) (st' := [(1, 0, z8), (2, 2, 0)]) (M' := M11) (C' := True) (by decide +kernel) rfl trivial ?_
  refine ax_cVv (G1 := gX2_tell) (d1 := d + 0) (i := 155) (n := 1) (as := [(1, 0, z8)]) (st := []) (c := 2) (a := 0) (by decide +kernel) ax_cls2 calX2_tell (by omega) rfl wt_521 wt_523 ws_48 (Nat.le_of_ble_eq_true rfl) rfl (c_X2_tell d z8 M11) (fun M12 => ?_)
  refine ax_lump ax_layC ok_kX2 [(81, .aload_n 0, 1, 0, 0, 0), (82, .aload_n 0, 1, 0, 0, 0), (83, .getfield 12, 3, 2, 0, 0), (86, .getfield 237, 3, 0, 6, 0), (89, .iload_n 2, 1, 0, 0, 0), (90, .iaload, 1, 0, 0, 0), (91, .i2l, 1, 0, 0, 0)] (pc' := 92) (lc' := [(0, (2, 2, 0)), (1, (0, 0, z7)), (2, (0, 0, z8))]) (st' := [(1, 0, (M12 8 z8.toNat)), (2, 2, 0)]) (M' := M12) (C' := (True ∧ (0 ≤ z8 ∧ z8 < ((24 : Nat) : Int)))) (by decide +kernel) rfl ⟨trivial, by omega⟩ ?_
  refine ax_cVv (G1 := gX2_tell) (d1 := d + 0) (i := 155) (n := 1) (as := [(1, 0, (M12 8 z8.toNat))]) (st := []) (c := 2) (a := 0) (by decide +kernel) ax_cls2 calX2_tell (by omega) rfl wt_521 wt_523 ws_48 (Nat.le_of_ble_eq_true rfl) rfl (c_X2_tell d (M12 8 z8.toNat) M12) (fun M13 => ?_)
  refine ax_lump ax_layC ok_kX2 [(95, .iload_n 1, 1, 0, 0, 0)] (pc' := 96) (lc' := [(0, (2, 2, 0)), (1, (0, 0, z7)), (2, (0, 0, z8))]) (st' := [(0, 0, z7)]) (M' := M13) (C' := True) (by decide +kernel) rfl trivial ?_
  refine ax_rngS (fun hr => ?_)
  exact ax_iret (by decide +kernel) rfl ⟨rfl, rfl, hr.1, hr.2⟩
def f_X2_heat (x1 : Int) (M : ax_M) : Int := (if (f_X2_isPage x1 M) = 0 then (-1) else (M 8 x1.toNat))
set_option maxRecDepth 100000 in
set_option maxHeartbeats 4000000 in
theorem c_X2_heat (d : Nat) (x1 : Int) (M : ax_M)  : ax_Met ax_LC gX2_heat (d + 1) [(2, 2, 0), (0, 0, x1)] M ((ax_qi (-2147483648) 2147483647 M) (f_X2_heat x1 M)) := by
  refine ax_body (by decide) (fun X => Nat.le_of_ble_eq_true rfl) (fun hok => ?_)
  have hr_x1 : (-2147483648) ≤ x1 ∧ x1 ≤ 2147483647 := hok (0, 0, x1) (by simp)
  show ax_W ax_LC gX2_heat (d + 1) 0 [(0, (2, 2, 0)), (1, (0, 0, x1))] [] M _
  unfold f_X2_heat
  refine ax_lump ax_layC ok_kX2 [(0, .iload_n 1, 1, 0, 0, 0)] (pc' := 1) (lc' := [(0, (2, 2, 0)), (1, (0, 0, x1))]) (st' := [(0, 0, x1)]) (M' := M) (C' := True) (by decide +kernel) rfl trivial ?_
  refine ax_cSi (G1 := gX2_isPage) (d1 := d + 0) (i := 162) (n := 1) (as := [(0, 0, x1)]) (st := []) (by decide +kernel) calX2_isPage (by omega) rfl wt_537 wt_538 (Nat.le_of_ble_eq_true rfl) rfl (c_X2_isPage d x1 M) (fun hc1 => ?_)
  refine ax_zeq (off := 15) (tgt := 19) (by decide +kernel) (by decide) (fun h2 => ?_) (fun h2 => ?_)
  · refine ax_lump ax_layC ok_kX2 [(19, .iconst (-1), 1, 0, 0, 0)] (pc' := 20) (lc' := [(0, (2, 2, 0)), (1, (0, 0, x1))]) (st' := [(0, 0, (-1))]) (M' := M) (C' := True) (by decide +kernel) rfl trivial ?_
    refine ax_rngS (fun hr => ?_)
    exact ax_iret (by decide +kernel) rfl ⟨rfl, rfl, hr.1, hr.2⟩
  · have hgh2 := g_X2_isPage h2
    refine ax_lump ax_layC ok_kX2 [(7, .aload_n 0, 1, 0, 0, 0), (8, .getfield 12, 3, 2, 0, 0), (11, .getfield 237, 3, 0, 6, 0), (14, .iload_n 1, 1, 0, 0, 0), (15, .iaload, 1, 0, 0, 0), (16, .goto 4, 3, 20, 0, 0)] (pc' := 20) (lc' := [(0, (2, 2, 0)), (1, (0, 0, x1))]) (st' := [(0, 0, (M 8 x1.toNat))]) (M' := M) (C' := (True ∧ (0 ≤ x1 ∧ x1 < ((24 : Nat) : Int)))) (by decide +kernel) rfl ⟨trivial, by omega⟩ ?_
    refine ax_rngS (fun hr => ?_)
    exact ax_iret (by decide +kernel) rfl ⟨rfl, rfl, hr.1, hr.2⟩
def f_X2_next  (M : ax_M) : Int × ax_M := ax_bd (f_X0_leastWornFree 1 M) (fun y2 => (if y2 ≠ (-1) then ax_bd (f_X2_tellAnew M) (fun M4 => ax_bd (f_X2_tell (M4 7 y2.toNat) M4) (fun M5 => ax_bd (f_X2_tell (f_X0_howMany 1 0 M5) M5) (fun M7 => (y2, M7)))) else ((-1), M)))
set_option maxRecDepth 100000 in
set_option maxHeartbeats 4000000 in
theorem c_X2_next (d : Nat)  (M : ax_M)  : ax_Met ax_LC gX2_next (d + 1) [(2, 2, 0)] M ((ax_qm (-1) 15) (f_X2_next  M)) := by
  refine ax_body (by decide) (fun X => Nat.le_of_ble_eq_true rfl) (fun hok => ?_)
  show ax_W ax_LC gX2_next (d + 1) 0 [(0, (2, 2, 0))] [] M _
  unfold f_X2_next
  refine ax_lump ax_layC ok_kX2 [(0, .aload_n 0, 1, 0, 0, 0), (1, .getfield 12, 3, 2, 0, 0)] (pc' := 4) (lc' := [(0, (2, 2, 0))]) (st' := [(2, 0, 1)]) (M' := M) (C' := True) (by decide +kernel) rfl trivial ?_
  refine ax_cNi (G1 := gX0_leastWornFree) (d1 := d + 0) (i := 240) (n := 0) (as := []) (st := []) (c := 0) (a := 1) (by decide +kernel) ax_cls0 calX0_leastWornFree (by omega) rfl wn_643 wt_392 ws_18 (Nat.le_of_ble_eq_true rfl) rfl (c_X0_leastWornFree d 1 M) (fun hc1 => ?_)
  refine ax_lump ax_layC ok_kX2 [(7, .istore_n 1, 1, 0, 0, 0)] (pc' := 8) (lc' := [(1, (0, 0, (f_X0_leastWornFree 1 M))), (0, (2, 2, 0))]) (st' := []) (M' := M) (C' := True) (by decide +kernel) rfl trivial ?_
  refine ax_bdI (lo := (-1)) (hi := 15) (e := (f_X0_leastWornFree 1 M)) (fun y2 => [(1, (0, 0, y2)), (0, (2, 2, 0))]) (fun y2 => []) (by omega) (fun y2 h_y2 => ?_)
  refine ax_lump ax_layC ok_kX2 [(8, .iload_n 1, 1, 0, 0, 0), (9, .iconst (-1), 1, 0, 0, 0)] (pc' := 10) (lc' := [(1, (0, 0, y2)), (0, (2, 2, 0))]) (st' := [(0, 0, (-1)), (0, 0, y2)]) (M' := M) (C' := True) (by decide +kernel) rfl trivial ?_
  refine ax_jne (off := 5) (tgt := 15) (by decide +kernel) (by decide) (fun h3 => ?_) (fun h3 => ?_)
  · refine ax_lump ax_layC ok_kX2 [(15, .aload_n 0, 1, 0, 0, 0)] (pc' := 16) (lc' := [(1, (0, 0, y2)), (0, (2, 2, 0))]) (st' := [(2, 2, 0)]) (M' := M) (C' := True) (by decide +kernel) rfl trivial ?_
    refine ax_cVv (G1 := gX2_tellAnew) (d1 := d + 0) (i := 168) (n := 0) (as := []) (st := []) (c := 2) (a := 0) (by decide +kernel) ax_cls2 calX2_tellAnew (by omega) rfl wt_517 wt_519 ws_47 (Nat.le_of_ble_eq_true rfl) rfl (c_X2_tellAnew d  M) (fun M4 => ?_)
    refine ax_lump ax_layC ok_kX2 [(19, .aload_n 0, 1, 0, 0, 0), (20, .aload_n 0, 1, 0, 0, 0), (21, .getfield 12, 3, 2, 0, 0), (24, .getfield 97, 3, 0, 5, 0), (27, .iload_n 1, 1, 0, 0, 0), (28, .iaload, 1, 0, 0, 0), (29, .i2l, 1, 0, 0, 0)] (pc' := 30) (lc' := [(1, (0, 0, y2)), (0, (2, 2, 0))]) (st' := [(1, 0, (M4 7 y2.toNat)), (2, 2, 0)]) (M' := M4) (C' := (True ∧ (0 ≤ y2 ∧ y2 < ((16 : Nat) : Int)))) (by decide +kernel) rfl ⟨trivial, by omega⟩ ?_
    refine ax_cVv (G1 := gX2_tell) (d1 := d + 0) (i := 155) (n := 1) (as := [(1, 0, (M4 7 y2.toNat))]) (st := []) (c := 2) (a := 0) (by decide +kernel) ax_cls2 calX2_tell (by omega) rfl wt_521 wt_523 ws_48 (Nat.le_of_ble_eq_true rfl) rfl (c_X2_tell d (M4 7 y2.toNat) M4) (fun M5 => ?_)
    refine ax_lump ax_layC ok_kX2 [(33, .aload_n 0, 1, 0, 0, 0), (34, .aload_n 0, 1, 0, 0, 0), (35, .getfield 12, 3, 2, 0, 0), (38, .iconst 0, 1, 0, 0, 0)] (pc' := 39) (lc' := [(1, (0, 0, y2)), (0, (2, 2, 0))]) (st' := [(0, 0, 0), (2, 0, 1), (2, 2, 0)]) (M' := M5) (C' := True) (by decide +kernel) rfl trivial ?_
    refine ax_cNi (G1 := gX0_howMany) (d1 := d + 0) (i := 207) (n := 1) (as := [(0, 0, 0)]) (st := [(2, 2, 0)]) (c := 0) (a := 1) (by decide +kernel) ax_cls0 calX0_howMany (by omega) rfl wn_587 wt_457 ws_34 (Nat.le_of_ble_eq_true rfl) rfl (c_X0_howMany d 1 0 M5) (fun hc6 => ?_)
    refine ax_lump ax_layC ok_kX2 [(42, .i2l, 1, 0, 0, 0)] (pc' := 43) (lc' := [(1, (0, 0, y2)), (0, (2, 2, 0))]) (st' := [(1, 0, (f_X0_howMany 1 0 M5)), (2, 2, 0)]) (M' := M5) (C' := True) (by decide +kernel) rfl trivial ?_
    refine ax_cVv (G1 := gX2_tell) (d1 := d + 0) (i := 155) (n := 1) (as := [(1, 0, (f_X0_howMany 1 0 M5))]) (st := []) (c := 2) (a := 0) (by decide +kernel) ax_cls2 calX2_tell (by omega) rfl wt_521 wt_523 ws_48 (Nat.le_of_ble_eq_true rfl) rfl (c_X2_tell d (f_X0_howMany 1 0 M5) M5) (fun M7 => ?_)
    refine ax_lump ax_layC ok_kX2 [(46, .iload_n 1, 1, 0, 0, 0)] (pc' := 47) (lc' := [(1, (0, 0, y2)), (0, (2, 2, 0))]) (st' := [(0, 0, y2)]) (M' := M7) (C' := True) (by decide +kernel) rfl trivial ?_
    exact ax_iret (by decide +kernel) rfl ⟨rfl, rfl, (show ((-1) : Int) ≤ y2 from by omega), (show y2 ≤ (15 : Int) from by omega)⟩
  · refine ax_lump ax_layC ok_kX2 [(13, .iconst (-1), 1, 0, 0, 0)] (pc' := 14) (lc' := [(1, (0, 0, y2)), (0, (2, 2, 0))]) (st' := [(0, 0, (-1))]) (M' := M) (C' := True) (by decide +kernel) rfl trivial ?_
    exact ax_iret (by decide +kernel) rfl ⟨rfl, rfl, (show ((-1) : Int) ≤ (-1) from by omega), (show (-1) ≤ (15 : Int) from by omega)⟩
def f_X2_logs_B28 (w2 : Int) (w3 : Int) (i : Int)  (M : ax_M) (kc : ax_M → Int × ax_M) (kx : ax_M → Int × ax_M) : Int × ax_M := ax_bd (f_X2_tell (f_X0_owned 1 w2 i M) M) (fun M8 => kc M8)
def f_X2_logs_L28 (w2 : Int) (w3 : Int) : Nat → Int → ax_M → (ax_M → Int × ax_M) → Int × ax_M
  | 0, i, M, kx => kx M
  | n + 1, i, M, kx => f_X2_logs_B28 w2 w3 i  M (fun M9 => f_X2_logs_L28 w2 w3 n (i + 1) M9 kx) kx
set_option maxRecDepth 100000 in
set_option maxHeartbeats 4000000 in
theorem wb_X2_logs_B28 (d : Nat) (w2 : Int) (w3 : Int) (i : Int)  (M : ax_M) (kc : ax_M → Int × ax_M) (kx : ax_M → Int × ax_M) (hw_w2 : 0 ≤ w2 ∧ w2 ≤ 4) (hw_w3 : 0 ≤ w3 ∧ w3 ≤ 16) (hi : 0 ≤ i ∧ i < w3)  (hkc : ∀ (M9 : ax_M), ax_W ax_LC gX2_logs (d + 1) 28 [(0, (2, 2, 0)), (2, (0, 0, w2)), (3, (0, 0, w3)), (4, (0, 0, (i + 1)))] [] M9 ((ax_qm (-1) 16) (kc M9))) (hkx : ∀ (M9 : ax_M), (True) → ax_W ax_LC gX2_logs (d + 1) 55 [(3, (0, 0, w3))] [] M9 ((ax_qm (-1) 16) (kx M9))) : ax_W ax_LC gX2_logs (d + 1) 34 [(0, (2, 2, 0)), (2, (0, 0, w2)), (3, (0, 0, w3)), (4, (0, 0, i))] [] M ((ax_qm (-1) 16) (f_X2_logs_B28 w2 w3 i  M kc kx)) := by
  unfold f_X2_logs_B28
  refine ax_lump ax_layC ok_kX2 [(34, .aload_n 0, 1, 0, 0, 0), (35, .aload_n 0, 1, 0, 0, 0), (36, .getfield 12, 3, 2, 0, 0), (39, .iload_n 2, 1, 0, 0, 0), (40, .iload 4, 2, 0, 0, 0)] (pc' := 42) (lc' := [(0, (2, 2, 0)), (2, (0, 0, w2)), (3, (0, 0, w3)), (4, (0, 0, i))]) (st' := [(0, 0, i), (0, 0, w2), (2, 0, 1), (2, 2, 0)]) (M' := M) (C' := True) (by decide +kernel) rfl trivial ?_
  refine ax_cNi (G1 := gX0_owned) (d1 := d + 0) (i := 243) (n := 2) (as := [(0, 0, w2), (0, 0, i)]) (st := [(2, 2, 0)]) (c := 0) (a := 1) (by decide +kernel) ax_cls0 calX0_owned (by omega) rfl wn_648 wt_384 ws_16 (Nat.le_of_ble_eq_true rfl) rfl (c_X0_owned d 1 w2 i M) (fun hc7 => ?_)
  refine ax_lump ax_layC ok_kX2 [(45, .i2l, 1, 0, 0, 0)] (pc' := 46) (lc' := [(0, (2, 2, 0)), (2, (0, 0, w2)), (3, (0, 0, w3)), (4, (0, 0, i))]) (st' := [(1, 0, (f_X0_owned 1 w2 i M)), (2, 2, 0)]) (M' := M) (C' := True) (by decide +kernel) rfl trivial ?_
  refine ax_cVv (G1 := gX2_tell) (d1 := d + 0) (i := 155) (n := 1) (as := [(1, 0, (f_X0_owned 1 w2 i M))]) (st := []) (c := 2) (a := 0) (by decide +kernel) ax_cls2 calX2_tell (by omega) rfl wt_521 wt_523 ws_48 (Nat.le_of_ble_eq_true rfl) rfl (c_X2_tell d (f_X0_owned 1 w2 i M) M) (fun M8 => ?_)
  refine ax_lump ax_layC ok_kX2 [(49, .iinc 4 1, 3, 1, 0, 0), (52, .goto (-24), 3, 28, 0, 0)] (pc' := 28) (lc' := [(4, (0, 0, (i + 1))), (0, (2, 2, 0)), (2, (0, 0, w2)), (3, (0, 0, w3))]) (st' := []) (M' := M8) (C' := (True ∧ ax_r32 (i + 1))) (by decide +kernel) rfl ⟨trivial, ⟨by omega, by omega⟩⟩ ?_
  refine ax_pk [1,2,3,0] (lc' := [(0, (2, 2, 0)), (2, (0, 0, w2)), (3, (0, 0, w3)), (4, (0, 0, (i + 1)))]) rfl ?_
  exact hkc M8 
set_option maxRecDepth 100000 in
set_option maxHeartbeats 4000000 in
theorem w_X2_logs_L28 (d : Nat) (w2 : Int) (w3 : Int) (kx : ax_M → Int × ax_M) (hw_w2 : 0 ≤ w2 ∧ w2 ≤ 4) (hw_w3 : 0 ≤ w3 ∧ w3 ≤ 16) (hkx : ∀ (M9 : ax_M), (True) → ax_W ax_LC gX2_logs (d + 1) 55 [(3, (0, 0, w3))] [] M9 ((ax_qm (-1) 16) (kx M9))) : ∀ (n : Nat) (i : Int) (M : ax_M), 0 ≤ i ∧ n = (w3 - i).toNat → ax_W ax_LC gX2_logs (d + 1) 28 [(0, (2, 2, 0)), (2, (0, 0, w2)), (3, (0, 0, w3)), (4, (0, 0, i))] [] M ((ax_qm (-1) 16) (f_X2_logs_L28 w2 w3 n i  M kx)) := by
  intro n
  induction n with
  | zero =>
    intro i M hin
    refine ax_lump ax_layC ok_kX2 [(28, .iload 4, 2, 0, 0, 0), (30, .iload_n 3, 1, 0, 0, 0)] (pc' := 31) (lc' := [(0, (2, 2, 0)), (2, (0, 0, w2)), (3, (0, 0, w3)), (4, (0, 0, i))]) (st' := [(0, 0, w3), (0, 0, i)]) (M' := M) (C' := True) (by decide +kernel) rfl trivial ?_
    refine ax_icmp_ge (off := 24) (tgt := 55) (by decide +kernel) (by decide) (fun h => ?_) (fun h => ?_)
    · refine ax_pk [2] (lc' := [(3, (0, 0, w3))]) rfl ?_
      exact hkx M trivial
    · exfalso; omega
  | succ n ih =>
    intro i M hin
    refine ax_lump ax_layC ok_kX2 [(28, .iload 4, 2, 0, 0, 0), (30, .iload_n 3, 1, 0, 0, 0)] (pc' := 31) (lc' := [(0, (2, 2, 0)), (2, (0, 0, w2)), (3, (0, 0, w3)), (4, (0, 0, i))]) (st' := [(0, 0, w3), (0, 0, i)]) (M' := M) (C' := True) (by decide +kernel) rfl trivial ?_
    refine ax_icmp_ge (off := 24) (tgt := 55) (by decide +kernel) (by decide) (fun h => ?_) (fun h => ?_)
    · exfalso; omega
    · exact wb_X2_logs_B28 d w2 w3 i  M _ kx hw_w2 hw_w3 (by omega)  (fun M9 => ih (i + 1)  M9 (by omega) ) hkx
def f_X2_logs (x1 : Int) (M : ax_M) : Int × ax_M := ax_bd (f_X2_kindOfRow x1 M) (fun y2 => (if y2 ≠ (-1) then ax_bd (f_X0_howMany 1 y2 M) (fun y5 => ax_bd (f_X2_tellAnew M) (fun M6 => f_X2_logs_L28 y2 y5 (y5 - 0).toNat 0  M6 (fun M9 => (y5, M9)))) else ((-1), M)))
set_option maxRecDepth 100000 in
set_option maxHeartbeats 4000000 in
theorem c_X2_logs (d : Nat) (x1 : Int) (M : ax_M)  : ax_Met ax_LC gX2_logs (d + 1) [(2, 2, 0), (0, 0, x1)] M ((ax_qm (-1) 16) (f_X2_logs x1 M)) := by
  refine ax_body (by decide) (fun X => Nat.le_of_ble_eq_true rfl) (fun hok => ?_)
  have hr_x1 : (-2147483648) ≤ x1 ∧ x1 ≤ 2147483647 := hok (0, 0, x1) (by simp)
  show ax_W ax_LC gX2_logs (d + 1) 0 [(0, (2, 2, 0)), (1, (0, 0, x1))] [] M _
  unfold f_X2_logs
  refine ax_lump ax_layC ok_kX2 [(0, .iload_n 1, 1, 0, 0, 0)] (pc' := 1) (lc' := [(0, (2, 2, 0)), (1, (0, 0, x1))]) (st' := [(0, 0, x1)]) (M' := M) (C' := True) (by decide +kernel) rfl trivial ?_
  refine ax_cSi (G1 := gX2_kindOfRow) (d1 := d + 0) (i := 180) (n := 1) (as := [(0, 0, x1)]) (st := []) (by decide +kernel) calX2_kindOfRow (by omega) rfl wt_562 wt_563 (Nat.le_of_ble_eq_true rfl) rfl (c_X2_kindOfRow d x1 M) (fun hc1 => ?_)
  refine ax_lump ax_layC ok_kX2 [(4, .istore_n 2, 1, 0, 0, 0)] (pc' := 5) (lc' := [(2, (0, 0, (f_X2_kindOfRow x1 M))), (0, (2, 2, 0)), (1, (0, 0, x1))]) (st' := []) (M' := M) (C' := True) (by decide +kernel) rfl trivial ?_
  refine ax_bdI (lo := (-1)) (hi := 4) (e := (f_X2_kindOfRow x1 M)) (fun y2 => [(2, (0, 0, y2)), (0, (2, 2, 0)), (1, (0, 0, x1))]) (fun y2 => []) (by omega) (fun y2 h_y2 => ?_)
  refine ax_lump ax_layC ok_kX2 [(5, .iload_n 2, 1, 0, 0, 0), (6, .iconst (-1), 1, 0, 0, 0)] (pc' := 7) (lc' := [(2, (0, 0, y2)), (0, (2, 2, 0)), (1, (0, 0, x1))]) (st' := [(0, 0, (-1)), (0, 0, y2)]) (M' := M) (C' := True) (by decide +kernel) rfl trivial ?_
  refine ax_jne (off := 5) (tgt := 12) (by decide +kernel) (by decide) (fun h3 => ?_) (fun h3 => ?_)
  · refine ax_lump ax_layC ok_kX2 [(12, .aload_n 0, 1, 0, 0, 0), (13, .getfield 12, 3, 2, 0, 0), (16, .iload_n 2, 1, 0, 0, 0)] (pc' := 17) (lc' := [(2, (0, 0, y2)), (0, (2, 2, 0)), (1, (0, 0, x1))]) (st' := [(0, 0, y2), (2, 0, 1)]) (M' := M) (C' := True) (by decide +kernel) rfl trivial ?_
    refine ax_cNi (G1 := gX0_howMany) (d1 := d + 0) (i := 207) (n := 1) (as := [(0, 0, y2)]) (st := []) (c := 0) (a := 1) (by decide +kernel) ax_cls0 calX0_howMany (by omega) rfl wn_587 wt_457 ws_34 (Nat.le_of_ble_eq_true rfl) rfl (c_X0_howMany d 1 y2 M) (fun hc4 => ?_)
    refine ax_lump ax_layC ok_kX2 [(20, .istore_n 3, 1, 0, 0, 0)] (pc' := 21) (lc' := [(3, (0, 0, (f_X0_howMany 1 y2 M))), (2, (0, 0, y2)), (0, (2, 2, 0)), (1, (0, 0, x1))]) (st' := []) (M' := M) (C' := True) (by decide +kernel) rfl trivial ?_
    refine ax_bdI (lo := 0) (hi := 16) (e := (f_X0_howMany 1 y2 M)) (fun y5 => [(3, (0, 0, y5)), (2, (0, 0, y2)), (0, (2, 2, 0)), (1, (0, 0, x1))]) (fun y5 => []) (by omega) (fun y5 h_y5 => ?_)
    refine ax_lump ax_layC ok_kX2 [(21, .aload_n 0, 1, 0, 0, 0)] (pc' := 22) (lc' := [(3, (0, 0, y5)), (2, (0, 0, y2)), (0, (2, 2, 0)), (1, (0, 0, x1))]) (st' := [(2, 2, 0)]) (M' := M) (C' := True) (by decide +kernel) rfl trivial ?_
    refine ax_cVv (G1 := gX2_tellAnew) (d1 := d + 0) (i := 168) (n := 0) (as := []) (st := []) (c := 2) (a := 0) (by decide +kernel) ax_cls2 calX2_tellAnew (by omega) rfl wt_517 wt_519 ws_47 (Nat.le_of_ble_eq_true rfl) rfl (c_X2_tellAnew d  M) (fun M6 => ?_)
    refine ax_lump ax_layC ok_kX2 [(25, .iconst 0, 1, 0, 0, 0), (26, .istore 4, 2, 0, 0, 0)] (pc' := 28) (lc' := [(4, (0, 0, 0)), (3, (0, 0, y5)), (2, (0, 0, y2)), (0, (2, 2, 0)), (1, (0, 0, x1))]) (st' := []) (M' := M6) (C' := True) (by decide +kernel) rfl trivial ?_
    refine ax_pk [3,2,1,0] (lc' := [(0, (2, 2, 0)), (2, (0, 0, y2)), (3, (0, 0, y5)), (4, (0, 0, 0))]) rfl ?_
    refine w_X2_logs_L28 d y2 y5 _ (by omega) (by omega) (fun M9 hx_9 => ?_) (y5 - 0).toNat 0  M6 (by omega) 
    refine ax_lump ax_layC ok_kX2 [(55, .iload_n 3, 1, 0, 0, 0)] (pc' := 56) (lc' := [(3, (0, 0, y5))]) (st' := [(0, 0, y5)]) (M' := M9) (C' := True) (by decide +kernel) rfl trivial ?_
    exact ax_iret (by decide +kernel) rfl ⟨rfl, rfl, (show ((-1) : Int) ≤ y5 from by omega), (show y5 ≤ (16 : Int) from by omega)⟩
  · refine ax_lump ax_layC ok_kX2 [(10, .iconst (-1), 1, 0, 0, 0)] (pc' := 11) (lc' := [(2, (0, 0, y2)), (0, (2, 2, 0)), (1, (0, 0, x1))]) (st' := [(0, 0, (-1))]) (M' := M) (C' := True) (by decide +kernel) rfl trivial ?_
    exact ax_iret (by decide +kernel) rfl ⟨rfl, rfl, (show ((-1) : Int) ≤ (-1) from by omega), (show (-1) ≤ (16 : Int) from by omega)⟩
def f_X2_spread  (M : ax_M) : Int × ax_M := ax_bd (f_X2_tellAnew M) (fun M1 => ax_bd (f_X2_tell (f_X0_mostWorn 1 M1) M1) (fun M3 => ax_bd (f_X2_tell (f_X0_leastWorn 1 M3) M3) (fun M5 => ax_bd (f_X2_tell (f_X0_wipesOfAll 1 M5) M5) (fun M7 => ((f_X0_wear 1 M7), M7)))))
set_option maxRecDepth 100000 in
set_option maxHeartbeats 4000000 in
theorem c_X2_spread (d : Nat)  (M : ax_M)  : ax_Met ax_LC gX2_spread (d + 2) [(2, 2, 0)] M ((ax_qm (-2147483648) 2147483647) (f_X2_spread  M)) := by
  refine ax_body (by decide) (fun X => Nat.le_of_ble_eq_true rfl) (fun hok => ?_)
  show ax_W ax_LC gX2_spread (d + 2) 0 [(0, (2, 2, 0))] [] M _
  unfold f_X2_spread
  refine ax_lump ax_layC ok_kX2 [(0, .aload_n 0, 1, 0, 0, 0)] (pc' := 1) (lc' := [(0, (2, 2, 0))]) (st' := [(2, 2, 0)]) (M' := M) (C' := True) (by decide +kernel) rfl trivial ?_
  refine ax_cVv (G1 := gX2_tellAnew) (d1 := d + 0) (i := 168) (n := 0) (as := []) (st := []) (c := 2) (a := 0) (by decide +kernel) ax_cls2 calX2_tellAnew (by omega) rfl wt_517 wt_519 ws_47 (Nat.le_of_ble_eq_true rfl) rfl (c_X2_tellAnew d  M) (fun M1 => ?_)
  refine ax_lump ax_layC ok_kX2 [(4, .aload_n 0, 1, 0, 0, 0), (5, .aload_n 0, 1, 0, 0, 0), (6, .getfield 12, 3, 2, 0, 0)] (pc' := 9) (lc' := [(0, (2, 2, 0))]) (st' := [(2, 0, 1), (2, 2, 0)]) (M' := M1) (C' := True) (by decide +kernel) rfl trivial ?_
  refine ax_cNi (G1 := gX0_mostWorn) (d1 := d + 0) (i := 255) (n := 0) (as := []) (st := [(2, 2, 0)]) (c := 0) (a := 1) (by decide +kernel) ax_cls0 calX0_mostWorn (by omega) rfl wn_662 wt_484 ws_39 (Nat.le_of_ble_eq_true rfl) rfl (c_X0_mostWorn d 1 M1) (fun hc2 => ?_)
  refine ax_lump ax_layC ok_kX2 [(12, .i2l, 1, 0, 0, 0)] (pc' := 13) (lc' := [(0, (2, 2, 0))]) (st' := [(1, 0, (f_X0_mostWorn 1 M1)), (2, 2, 0)]) (M' := M1) (C' := True) (by decide +kernel) rfl trivial ?_
  refine ax_cVv (G1 := gX2_tell) (d1 := d + 0) (i := 155) (n := 1) (as := [(1, 0, (f_X0_mostWorn 1 M1))]) (st := []) (c := 2) (a := 0) (by decide +kernel) ax_cls2 calX2_tell (by omega) rfl wt_521 wt_523 ws_48 (Nat.le_of_ble_eq_true rfl) rfl (c_X2_tell d (f_X0_mostWorn 1 M1) M1) (fun M3 => ?_)
  refine ax_lump ax_layC ok_kX2 [(16, .aload_n 0, 1, 0, 0, 0), (17, .aload_n 0, 1, 0, 0, 0), (18, .getfield 12, 3, 2, 0, 0)] (pc' := 21) (lc' := [(0, (2, 2, 0))]) (st' := [(2, 0, 1), (2, 2, 0)]) (M' := M3) (C' := True) (by decide +kernel) rfl trivial ?_
  refine ax_cNi (G1 := gX0_leastWorn) (d1 := d + 0) (i := 258) (n := 0) (as := []) (st := [(2, 2, 0)]) (c := 0) (a := 1) (by decide +kernel) ax_cls0 calX0_leastWorn (by omega) rfl wn_663 wt_488 ws_40 (Nat.le_of_ble_eq_true rfl) rfl (c_X0_leastWorn d 1 M3) (fun hc4 => ?_)
  refine ax_lump ax_layC ok_kX2 [(24, .i2l, 1, 0, 0, 0)] (pc' := 25) (lc' := [(0, (2, 2, 0))]) (st' := [(1, 0, (f_X0_leastWorn 1 M3)), (2, 2, 0)]) (M' := M3) (C' := True) (by decide +kernel) rfl trivial ?_
  refine ax_cVv (G1 := gX2_tell) (d1 := d + 0) (i := 155) (n := 1) (as := [(1, 0, (f_X0_leastWorn 1 M3))]) (st := []) (c := 2) (a := 0) (by decide +kernel) ax_cls2 calX2_tell (by omega) rfl wt_521 wt_523 ws_48 (Nat.le_of_ble_eq_true rfl) rfl (c_X2_tell d (f_X0_leastWorn 1 M3) M3) (fun M5 => ?_)
  refine ax_lump ax_layC ok_kX2 [(28, .aload_n 0, 1, 0, 0, 0), (29, .aload_n 0, 1, 0, 0, 0), (30, .getfield 12, 3, 2, 0, 0)] (pc' := 33) (lc' := [(0, (2, 2, 0))]) (st' := [(2, 0, 1), (2, 2, 0)]) (M' := M5) (C' := True) (by decide +kernel) rfl trivial ?_
  refine ax_cNi (G1 := gX0_wipesOfAll) (d1 := d + 0) (i := 131) (n := 0) (as := []) (st := [(2, 2, 0)]) (c := 0) (a := 1) (by decide +kernel) ax_cls0 calX0_wipesOfAll (by omega) rfl wn_343 wt_345 ws_9 (Nat.le_of_ble_eq_true rfl) rfl (c_X0_wipesOfAll d 1 M5) (fun hc6 => ?_)
  refine ax_lump ax_layC ok_kX2 [(36, .i2l, 1, 0, 0, 0)] (pc' := 37) (lc' := [(0, (2, 2, 0))]) (st' := [(1, 0, (f_X0_wipesOfAll 1 M5)), (2, 2, 0)]) (M' := M5) (C' := True) (by decide +kernel) rfl trivial ?_
  refine ax_cVv (G1 := gX2_tell) (d1 := d + 0) (i := 155) (n := 1) (as := [(1, 0, (f_X0_wipesOfAll 1 M5))]) (st := []) (c := 2) (a := 0) (by decide +kernel) ax_cls2 calX2_tell (by omega) rfl wt_521 wt_523 ws_48 (Nat.le_of_ble_eq_true rfl) rfl (c_X2_tell d (f_X0_wipesOfAll 1 M5) M5) (fun M7 => ?_)
  refine ax_lump ax_layC ok_kX2 [(40, .aload_n 0, 1, 0, 0, 0), (41, .getfield 12, 3, 2, 0, 0)] (pc' := 44) (lc' := [(0, (2, 2, 0))]) (st' := [(2, 0, 1)]) (M' := M7) (C' := True) (by decide +kernel) rfl trivial ?_
  refine ax_cNi (G1 := gX0_wear) (d1 := d + 1) (i := 261) (n := 0) (as := []) (st := []) (c := 0) (a := 1) (by decide +kernel) ax_cls0 calX0_wear (by omega) rfl wn_664 wt_480 ws_38 (Nat.le_of_ble_eq_true rfl) rfl (c_X0_wear d 1 M7) (fun hc8 => ?_)
  refine ax_rngS (fun hr => ?_)
  exact ax_iret (by decide +kernel) rfl ⟨rfl, rfl, hr.1, hr.2⟩
def f_X2_swells  (M : ax_M) : Prop × Int × ax_M := ax_bd (M 10 1) (fun y1 => (if 1 ≤ y1 then ax_bd (ax_wr (y1 + (M 10 2))) (fun y3 => ax_bd (f_X2_greatestShared y3 y1 M) (fun y5 => ax_bd (f_X2_tellAnew M) (fun M6 => ax_rq (y5 ≠ 0) (ax_bd (f_X2_tell (ax_div y3 y5) M6) (fun M8 => ax_rq (y5 ≠ 0) (ax_bd (f_X2_tell (ax_div y1 y5) M8) (fun M10 => (True, (0, M10))))))))) else (True, ((-2), M))))
set_option maxRecDepth 100000 in
set_option maxHeartbeats 4000000 in
theorem c_X2_swells (d : Nat)  (M : ax_M)  (hX : (f_X2_swells  M).1) : ax_Met ax_LC gX2_swells (d + 2) [(2, 2, 0)] M ((ax_qm (-2) 0) (f_X2_swells  M).2) := by
  refine ax_body (by decide) (fun X => Nat.le_of_ble_eq_true rfl) (fun hok => ?_)
  show ax_W ax_LC gX2_swells (d + 2) 0 [(0, (2, 2, 0))] [] M _
  unfold f_X2_swells at hX ⊢
  refine ax_lump ax_layC ok_kX2 [(0, .aload_n 0, 1, 0, 0, 0), (1, .getfield 12, 3, 2, 0, 0), (4, .getfield 283, 3, 0, 8, 0), (7, .iconst 1, 1, 0, 0, 0), (8, .iaload, 1, 0, 0, 0), (9, .istore_n 1, 1, 0, 0, 0)] (pc' := 10) (lc' := [(1, (0, 0, (M 10 1))), (0, (2, 2, 0))]) (st' := []) (M' := M) (C' := (True ∧ (0 ≤ 1 ∧ 1 < ((7 : Nat) : Int)))) (by decide +kernel) rfl ⟨trivial, by omega⟩ ?_
  refine ax_bdI0_s hX (e := (M 10 1)) (fun y1 => [(1, (0, 0, y1)), (0, (2, 2, 0))]) (fun y1 => []) (fun y1 hX => ?_)
  refine ax_lump ax_layC ok_kX2 [(10, .iload_n 1, 1, 0, 0, 0), (11, .iconst 1, 1, 0, 0, 0)] (pc' := 12) (lc' := [(1, (0, 0, y1)), (0, (2, 2, 0))]) (st' := [(0, 0, 1), (0, 0, y1)]) (M' := M) (C' := True) (by decide +kernel) rfl trivial ?_
  refine ax_jge_s hX (off := 6) (tgt := 18) (by decide +kernel) (by decide) (fun h2 hX => ?_) (fun h2 hX => ?_)
  · refine ax_lump ax_layC ok_kX2 [(18, .iload_n 1, 1, 0, 0, 0), (19, .aload_n 0, 1, 0, 0, 0), (20, .getfield 12, 3, 2, 0, 0), (23, .getfield 283, 3, 0, 8, 0), (26, .iconst 2, 1, 0, 0, 0), (27, .iaload, 1, 0, 0, 0), (28, .iadd, 1, 0, 0, 0), (29, .istore_n 2, 1, 0, 0, 0)] (pc' := 30) (lc' := [(2, (0, 0, (ax_wr (y1 + (M 10 2))))), (1, (0, 0, y1)), (0, (2, 2, 0))]) (st' := []) (M' := M) (C' := (True ∧ (0 ≤ 2 ∧ 2 < ((7 : Nat) : Int)))) (by decide +kernel) rfl ⟨trivial, by omega⟩ ?_
    refine ax_bdI0_s hX (e := (ax_wr (y1 + (M 10 2)))) (fun y3 => [(2, (0, 0, y3)), (1, (0, 0, y1)), (0, (2, 2, 0))]) (fun y3 => []) (fun y3 hX => ?_)
    refine ax_lump ax_layC ok_kX2 [(30, .iload_n 2, 1, 0, 0, 0), (31, .iload_n 1, 1, 0, 0, 0)] (pc' := 32) (lc' := [(2, (0, 0, y3)), (1, (0, 0, y1)), (0, (2, 2, 0))]) (st' := [(0, 0, y1), (0, 0, y3)]) (M' := M) (C' := True) (by decide +kernel) rfl trivial ?_
    refine ax_cSi (G1 := gX2_greatestShared) (d1 := d + 1) (i := 286) (n := 2) (as := [(0, 0, y3), (0, 0, y1)]) (st := []) (by decide +kernel) calX2_greatestShared (by omega) rfl wt_698 wt_699 (Nat.le_of_ble_eq_true rfl) rfl (c_X2_greatestShared d y3 y1 M) (fun hc4 => ?_)
    refine ax_lump ax_layC ok_kX2 [(35, .istore_n 3, 1, 0, 0, 0)] (pc' := 36) (lc' := [(3, (0, 0, (f_X2_greatestShared y3 y1 M))), (2, (0, 0, y3)), (1, (0, 0, y1)), (0, (2, 2, 0))]) (st' := []) (M' := M) (C' := True) (by decide +kernel) rfl trivial ?_
    refine ax_bdI0_s hX (e := (f_X2_greatestShared y3 y1 M)) (fun y5 => [(3, (0, 0, y5)), (2, (0, 0, y3)), (1, (0, 0, y1)), (0, (2, 2, 0))]) (fun y5 => []) (fun y5 hX => ?_)
    refine ax_lump ax_layC ok_kX2 [(36, .aload_n 0, 1, 0, 0, 0)] (pc' := 37) (lc' := [(3, (0, 0, y5)), (2, (0, 0, y3)), (1, (0, 0, y1)), (0, (2, 2, 0))]) (st' := [(2, 2, 0)]) (M' := M) (C' := True) (by decide +kernel) rfl trivial ?_
    refine ax_cVv_s hX (G1 := gX2_tellAnew) (d1 := d + 0) (i := 168) (n := 0) (as := []) (st := []) (c := 2) (a := 0) (by decide +kernel) ax_cls2 calX2_tellAnew (by omega) rfl wt_517 wt_519 ws_47 (Nat.le_of_ble_eq_true rfl) rfl (c_X2_tellAnew d  M) (fun M6 hX => ?_)
    refine ax_rq_s hX (fun hS7 hX => ?_)
    refine ax_lump ax_layC ok_kX2 [(40, .aload_n 0, 1, 0, 0, 0), (41, .iload_n 2, 1, 0, 0, 0), (42, .iload_n 3, 1, 0, 0, 0), (43, .idiv, 1, 0, 0, 0), (44, .i2l, 1, 0, 0, 0)] (pc' := 45) (lc' := [(3, (0, 0, y5)), (2, (0, 0, y3)), (1, (0, 0, y1)), (0, (2, 2, 0))]) (st' := [(1, 0, (ax_div y3 y5)), (2, 2, 0)]) (M' := M6) (C' := (True ∧ y5 ≠ 0)) (by decide +kernel) rfl ⟨trivial, hS7⟩ ?_
    refine ax_cVv_s hX (G1 := gX2_tell) (d1 := d + 0) (i := 155) (n := 1) (as := [(1, 0, (ax_div y3 y5))]) (st := []) (c := 2) (a := 0) (by decide +kernel) ax_cls2 calX2_tell (by omega) rfl wt_521 wt_523 ws_48 (Nat.le_of_ble_eq_true rfl) rfl (c_X2_tell d (ax_div y3 y5) M6) (fun M8 hX => ?_)
    refine ax_rq_s hX (fun hS9 hX => ?_)
    refine ax_lump ax_layC ok_kX2 [(48, .aload_n 0, 1, 0, 0, 0), (49, .iload_n 1, 1, 0, 0, 0), (50, .iload_n 3, 1, 0, 0, 0), (51, .idiv, 1, 0, 0, 0), (52, .i2l, 1, 0, 0, 0)] (pc' := 53) (lc' := [(3, (0, 0, y5)), (2, (0, 0, y3)), (1, (0, 0, y1)), (0, (2, 2, 0))]) (st' := [(1, 0, (ax_div y1 y5)), (2, 2, 0)]) (M' := M8) (C' := (True ∧ y5 ≠ 0)) (by decide +kernel) rfl ⟨trivial, hS9⟩ ?_
    refine ax_cVv_s hX (G1 := gX2_tell) (d1 := d + 0) (i := 155) (n := 1) (as := [(1, 0, (ax_div y1 y5))]) (st := []) (c := 2) (a := 0) (by decide +kernel) ax_cls2 calX2_tell (by omega) rfl wt_521 wt_523 ws_48 (Nat.le_of_ble_eq_true rfl) rfl (c_X2_tell d (ax_div y1 y5) M8) (fun M10 hX => ?_)
    refine ax_lump ax_layC ok_kX2 [(56, .iconst 0, 1, 0, 0, 0)] (pc' := 57) (lc' := [(3, (0, 0, y5)), (2, (0, 0, y3)), (1, (0, 0, y1)), (0, (2, 2, 0))]) (st' := [(0, 0, 0)]) (M' := M10) (C' := True) (by decide +kernel) rfl trivial ?_
    exact ax_iret (by decide +kernel) rfl ⟨rfl, rfl, (show ((-2) : Int) ≤ 0 from by omega), (show 0 ≤ (0 : Int) from by omega)⟩
  · refine ax_lump ax_layC ok_kX2 [(15, .bipush (-2), 2, 0, 0, 0)] (pc' := 17) (lc' := [(1, (0, 0, y1)), (0, (2, 2, 0))]) (st' := [(0, 0, (-2))]) (M' := M) (C' := True) (by decide +kernel) rfl trivial ?_
    exact ax_iret (by decide +kernel) rfl ⟨rfl, rfl, (show ((-2) : Int) ≤ (-2) from by omega), (show (-2) ≤ (0 : Int) from by omega)⟩
def f_X2_sum  (M : ax_M) : Int × ax_M := ax_bd (f_X2_tellAnew M) (fun M1 => ax_bd (f_X2_tell (f_X0_sumOfLeaves 1 M1) M1) (fun M3 => (0, M3)))
set_option maxRecDepth 100000 in
set_option maxHeartbeats 4000000 in
theorem c_X2_sum (d : Nat)  (M : ax_M)  : ax_Met ax_LC gX2_sum (d + 1) [(2, 2, 0)] M ((ax_qm 0 0) (f_X2_sum  M)) := by
  refine ax_body (by decide) (fun X => Nat.le_of_ble_eq_true rfl) (fun hok => ?_)
  show ax_W ax_LC gX2_sum (d + 1) 0 [(0, (2, 2, 0))] [] M _
  unfold f_X2_sum
  refine ax_lump ax_layC ok_kX2 [(0, .aload_n 0, 1, 0, 0, 0)] (pc' := 1) (lc' := [(0, (2, 2, 0))]) (st' := [(2, 2, 0)]) (M' := M) (C' := True) (by decide +kernel) rfl trivial ?_
  refine ax_cVv (G1 := gX2_tellAnew) (d1 := d + 0) (i := 168) (n := 0) (as := []) (st := []) (c := 2) (a := 0) (by decide +kernel) ax_cls2 calX2_tellAnew (by omega) rfl wt_517 wt_519 ws_47 (Nat.le_of_ble_eq_true rfl) rfl (c_X2_tellAnew d  M) (fun M1 => ?_)
  refine ax_lump ax_layC ok_kX2 [(4, .aload_n 0, 1, 0, 0, 0), (5, .aload_n 0, 1, 0, 0, 0), (6, .getfield 12, 3, 2, 0, 0)] (pc' := 9) (lc' := [(0, (2, 2, 0))]) (st' := [(2, 0, 1), (2, 2, 0)]) (M' := M1) (C' := True) (by decide +kernel) rfl trivial ?_
  refine ax_cNi (G1 := gX0_sumOfLeaves) (d1 := d + 0) (i := 302) (n := 0) (as := []) (st := [(2, 2, 0)]) (c := 0) (a := 1) (by decide +kernel) ax_cls0 calX0_sumOfLeaves (by omega) rfl wn_749 wt_751 ws_67 (Nat.le_of_ble_eq_true rfl) rfl (c_X0_sumOfLeaves d 1 M1) (fun hc2 => ?_)
  refine ax_lump ax_layC ok_kX2 [(12, .i2l, 1, 0, 0, 0)] (pc' := 13) (lc' := [(0, (2, 2, 0))]) (st' := [(1, 0, (f_X0_sumOfLeaves 1 M1)), (2, 2, 0)]) (M' := M1) (C' := True) (by decide +kernel) rfl trivial ?_
  refine ax_cVv (G1 := gX2_tell) (d1 := d + 0) (i := 155) (n := 1) (as := [(1, 0, (f_X0_sumOfLeaves 1 M1))]) (st := []) (c := 2) (a := 0) (by decide +kernel) ax_cls2 calX2_tell (by omega) rfl wt_521 wt_523 ws_48 (Nat.le_of_ble_eq_true rfl) rfl (c_X2_tell d (f_X0_sumOfLeaves 1 M1) M1) (fun M3 => ?_)
  refine ax_lump ax_layC ok_kX2 [(16, .iconst 0, 1, 0, 0, 0)] (pc' := 17) (lc' := [(0, (2, 2, 0))]) (st' := [(0, 0, 0)]) (M' := M3) (C' := True) (by decide +kernel) rfl trivial ?_
  exact ax_iret (by decide +kernel) rfl ⟨rfl, rfl, (show (0 : Int) ≤ 0 from by omega), (show 0 ≤ (0 : Int) from by omega)⟩
def f_X2_tellMore  (M : ax_M) : ax_M := ax_bd (f_X2_tell (f_X0_since 1 2 M) M) (fun M2 => ax_bd (f_X2_tell (f_X0_since 1 3 M2) M2) (fun M4 => M4))
set_option maxRecDepth 100000 in
set_option maxHeartbeats 4000000 in
theorem c_X2_tellMore (d : Nat)  (M : ax_M)  : ax_Met ax_LC gX2_tellMore (d + 1) [(2, 2, 0)] M (ax_qv (f_X2_tellMore  M)) := by
  refine ax_body (by decide) (fun X => Nat.le_of_ble_eq_true rfl) (fun hok => ?_)
  show ax_W ax_LC gX2_tellMore (d + 1) 0 [(0, (2, 2, 0))] [] M _
  unfold f_X2_tellMore
  refine ax_lump ax_layC ok_kX2 [(0, .aload_n 0, 1, 0, 0, 0), (1, .aload_n 0, 1, 0, 0, 0), (2, .getfield 12, 3, 2, 0, 0), (5, .iconst 2, 1, 0, 0, 0)] (pc' := 6) (lc' := [(0, (2, 2, 0))]) (st' := [(0, 0, 2), (2, 0, 1), (2, 2, 0)]) (M' := M) (C' := True) (by decide +kernel) rfl trivial ?_
  refine ax_cNi (G1 := gX0_since) (d1 := d + 0) (i := 252) (n := 1) (as := [(0, 0, 2)]) (st := [(2, 2, 0)]) (c := 0) (a := 1) (by decide +kernel) ax_cls0 calX0_since (by omega) rfl wn_529 wt_531 ws_50 (Nat.le_of_ble_eq_true rfl) rfl (c_X0_since d 1 2 M) (fun hc1 => ?_)
  refine ax_lump ax_layC ok_kX2 [(9, .i2l, 1, 0, 0, 0)] (pc' := 10) (lc' := [(0, (2, 2, 0))]) (st' := [(1, 0, (f_X0_since 1 2 M)), (2, 2, 0)]) (M' := M) (C' := True) (by decide +kernel) rfl trivial ?_
  refine ax_cVv (G1 := gX2_tell) (d1 := d + 0) (i := 155) (n := 1) (as := [(1, 0, (f_X0_since 1 2 M))]) (st := []) (c := 2) (a := 0) (by decide +kernel) ax_cls2 calX2_tell (by omega) rfl wt_521 wt_523 ws_48 (Nat.le_of_ble_eq_true rfl) rfl (c_X2_tell d (f_X0_since 1 2 M) M) (fun M2 => ?_)
  refine ax_lump ax_layC ok_kX2 [(13, .aload_n 0, 1, 0, 0, 0), (14, .aload_n 0, 1, 0, 0, 0), (15, .getfield 12, 3, 2, 0, 0), (18, .iconst 3, 1, 0, 0, 0)] (pc' := 19) (lc' := [(0, (2, 2, 0))]) (st' := [(0, 0, 3), (2, 0, 1), (2, 2, 0)]) (M' := M2) (C' := True) (by decide +kernel) rfl trivial ?_
  refine ax_cNi (G1 := gX0_since) (d1 := d + 0) (i := 252) (n := 1) (as := [(0, 0, 3)]) (st := [(2, 2, 0)]) (c := 0) (a := 1) (by decide +kernel) ax_cls0 calX0_since (by omega) rfl wn_529 wt_531 ws_50 (Nat.le_of_ble_eq_true rfl) rfl (c_X0_since d 1 3 M2) (fun hc3 => ?_)
  refine ax_lump ax_layC ok_kX2 [(22, .i2l, 1, 0, 0, 0)] (pc' := 23) (lc' := [(0, (2, 2, 0))]) (st' := [(1, 0, (f_X0_since 1 3 M2)), (2, 2, 0)]) (M' := M2) (C' := True) (by decide +kernel) rfl trivial ?_
  refine ax_cVv (G1 := gX2_tell) (d1 := d + 0) (i := 155) (n := 1) (as := [(1, 0, (f_X0_since 1 3 M2))]) (st := []) (c := 2) (a := 0) (by decide +kernel) ax_cls2 calX2_tell (by omega) rfl wt_521 wt_523 ws_48 (Nat.le_of_ble_eq_true rfl) rfl (c_X2_tell d (f_X0_since 1 3 M2) M2) (fun M4 => ?_)
  exact ax_vret (by decide +kernel) rfl ⟨rfl, rfl⟩
def f_X2_settleMore (x1 : Int) (M : ax_M) : Int × ax_M := ax_bd (f_X2_settle x1 M) (fun y1 => (if y1.1 = 0 then (x1, y1.2) else ax_bd (f_X2_tellMore y1.2) (fun M3 => (x1, M3))))
set_option maxRecDepth 100000 in
set_option maxHeartbeats 4000000 in
theorem c_X2_settleMore (d : Nat) (x1 : Int) (M : ax_M)  : ax_Met ax_LC gX2_settleMore (d + 2) [(2, 2, 0), (0, 0, x1)] M ((ax_qm (-2147483648) 2147483647) (f_X2_settleMore x1 M)) := by
  refine ax_body (by decide) (fun X => Nat.le_of_ble_eq_true rfl) (fun hok => ?_)
  have hr_x1 : (-2147483648) ≤ x1 ∧ x1 ≤ 2147483647 := hok (0, 0, x1) (by simp)
  show ax_W ax_LC gX2_settleMore (d + 2) 0 [(0, (2, 2, 0)), (1, (0, 0, x1))] [] M _
  unfold f_X2_settleMore
  refine ax_lump ax_layC ok_kX2 [(0, .aload_n 0, 1, 0, 0, 0), (1, .iload_n 1, 1, 0, 0, 0)] (pc' := 2) (lc' := [(0, (2, 2, 0)), (1, (0, 0, x1))]) (st' := [(0, 0, x1), (2, 2, 0)]) (M' := M) (C' := True) (by decide +kernel) rfl trivial ?_
  refine ax_cVm (G1 := gX2_settle) (d1 := d + 1) (i := 149) (n := 1) (as := [(0, 0, x1)]) (st := []) (c := 2) (a := 0) (by decide +kernel) ax_cls2 calX2_settle (by omega) rfl wt_509 wt_511 ws_45 (Nat.le_of_ble_eq_true rfl) rfl (c_X2_settle d x1 M) (fun y1 h_y1 => ?_)
  refine ax_zeq (off := 7) (tgt := 12) (by decide +kernel) (by decide) (fun h2 => ?_) (fun h2 => ?_)
  · refine ax_lump ax_layC ok_kX2 [(12, .iload_n 1, 1, 0, 0, 0)] (pc' := 13) (lc' := [(0, (2, 2, 0)), (1, (0, 0, x1))]) (st' := [(0, 0, x1)]) (M' := y1.2) (C' := True) (by decide +kernel) rfl trivial ?_
    refine ax_rngS (fun hr => ?_)
    exact ax_iret (by decide +kernel) rfl ⟨rfl, rfl, hr.1, hr.2⟩
  · refine ax_lump ax_layC ok_kX2 [(8, .aload_n 0, 1, 0, 0, 0)] (pc' := 9) (lc' := [(0, (2, 2, 0)), (1, (0, 0, x1))]) (st' := [(2, 2, 0)]) (M' := y1.2) (C' := True) (by decide +kernel) rfl trivial ?_
    refine ax_cVv (G1 := gX2_tellMore) (d1 := d + 1) (i := 159) (n := 0) (as := []) (st := []) (c := 2) (a := 0) (by decide +kernel) ax_cls2 calX2_tellMore (by omega) rfl wt_525 wt_527 ws_49 (Nat.le_of_ble_eq_true rfl) rfl (c_X2_tellMore d  y1.2) (fun M3 => ?_)
    refine ax_lump ax_layC ok_kX2 [(12, .iload_n 1, 1, 0, 0, 0)] (pc' := 13) (lc' := [(0, (2, 2, 0)), (1, (0, 0, x1))]) (st' := [(0, 0, x1)]) (M' := M3) (C' := True) (by decide +kernel) rfl trivial ?_
    refine ax_rngS (fun hr => ?_)
    exact ax_iret (by decide +kernel) rfl ⟨rfl, rfl, hr.1, hr.2⟩
def f_X3_writesOne_J89 (a1 : Nat) (j4 : Int) (j6 : Int) (M : ax_M) : Prop × Int × ax_M := ax_bd (f_X3_counts a1 264 M) (fun M11 => ax_bd (ax_up M11 0 23 0) (fun M12 => (if (f_X3_isWiped j4 a1 M12) = 0 then (True, (j6, M12)) else ax_rc (f_X3_isRuled a1 M12) (fun y15 => (if y15.1 = 0 then (True, (j6, y15.2)) else ax_rc (f_X3_levelsOne a1 y15.2) (fun y17 => (if y17.1 < 0 then ax_bd (ax_up y17.2 0 23 0) (fun M19 => (True, (j6, M19))) else ax_bd (ax_up y17.2 0 23 1) (fun M20 => (True, (j6, M20))))))))))
set_option maxRecDepth 100000 in
set_option maxHeartbeats 4000000 in
theorem w_X3_writesOne_J89 (d : Nat) (a1 : Nat) (j4 : Int) (j6 : Int) (M : ax_M) (hw_j6 : (-4) ≤ j6 ∧ j6 ≤ 63) (hX : (f_X3_writesOne_J89 a1 j4 j6 M).1) : ax_W ax_LM gX3_writesOne (d + 8) 89 [(0, (2, 3, 0)), (1, (3, 274, (a1 : Int))), (4, (0, 0, j4)), (6, (0, 0, j6))] [] M ((ax_qm (-4) 63) (f_X3_writesOne_J89 a1 j4 j6 M).2) := by
  unfold f_X3_writesOne_J89 at hX ⊢
  refine ax_lump ax_layM ok_kX3 [(89, .aload_n 1, 1, 0, 0, 0), (90, .sipush 264, 3, 0, 0, 0)] (pc' := 93) (lc' := [(0, (2, 3, 0)), (1, (3, 274, (a1 : Int))), (4, (0, 0, j4)), (6, (0, 0, j6))]) (st' := [(0, 0, 264), (3, 274, (a1 : Int))]) (M' := M) (C' := True) (by decide +kernel) rfl trivial ?_
  refine ax_cSv_s hX (G1 := gX3_counts) (d1 := d + 1) (i := 214) (n := 2) (as := [(3, 274, (a1 : Int)), (0, 0, 264)]) (st := []) (by decide +kernel) calX3_counts (by omega) rfl wt_1188 wt_1189 (Nat.le_of_ble_eq_true rfl) rfl (c_X3_counts d a1 264 M (by omega)) (fun M11 hX => ?_)
  refine ax_lump ax_layM ok_kX3 [(96, .aload_n 0, 1, 0, 0, 0), (97, .iconst 0, 1, 0, 0, 0), (98, .putfield 303, 3, 3, 23, 0)] (pc' := 101) (lc' := [(0, (2, 3, 0)), (1, (3, 274, (a1 : Int))), (4, (0, 0, j4)), (6, (0, 0, j6))]) (st' := []) (M' := (ax_up M11 0 23 0)) (C' := (True ∧ (0 ≤ 0 ∧ 0 ≤ 1))) (by decide +kernel) rfl ⟨trivial, by omega⟩ ?_
  refine ax_bdMe_s hX (fun M12 hM_M12 hX => ?_)
  refine ax_lump ax_layM ok_kX3 [(101, .aload_n 0, 1, 0, 0, 0), (102, .iload 4, 2, 0, 0, 0), (104, .aload_n 1, 1, 0, 0, 0)] (pc' := 105) (lc' := [(0, (2, 3, 0)), (1, (3, 274, (a1 : Int))), (4, (0, 0, j4)), (6, (0, 0, j6))]) (st' := [(3, 274, (a1 : Int)), (0, 0, j4), (2, 3, 0)]) (M' := M12) (C' := True) (by decide +kernel) rfl trivial ?_
  refine ax_cVi (G1 := gX3_isWiped) (d1 := d + 0) (i := 307) (n := 2) (as := [(0, 0, j4), (3, 274, (a1 : Int))]) (st := []) (c := 3) (a := 0) (by decide +kernel) ax_cls3 calX3_isWiped (by omega) rfl wt_1222 wt_1224 ws_94 (Nat.le_of_ble_eq_true rfl) rfl (c_X3_isWiped d j4 a1 M12) (fun hc13 => ?_)
  refine ax_zeq_s hX (off := 28) (tgt := 136) (by decide +kernel) (by decide) (fun h14 hX => ?_) (fun h14 hX => ?_)
  · refine ax_lump ax_layM ok_kX3 [(136, .iload 6, 2, 0, 0, 0)] (pc' := 138) (lc' := [(0, (2, 3, 0)), (1, (3, 274, (a1 : Int))), (4, (0, 0, j4)), (6, (0, 0, j6))]) (st' := [(0, 0, j6)]) (M' := M12) (C' := True) (by decide +kernel) rfl trivial ?_
    exact ax_iret (by decide +kernel) rfl ⟨rfl, rfl, (show ((-4) : Int) ≤ j6 from by omega), (show j6 ≤ (63 : Int) from by omega)⟩
  · refine ax_lump ax_layM ok_kX3 [(111, .aload_n 0, 1, 0, 0, 0), (112, .aload_n 1, 1, 0, 0, 0)] (pc' := 113) (lc' := [(0, (2, 3, 0)), (1, (3, 274, (a1 : Int))), (4, (0, 0, j4)), (6, (0, 0, j6))]) (st' := [(3, 274, (a1 : Int)), (2, 3, 0)]) (M' := M12) (C' := True) (by decide +kernel) rfl trivial ?_
    refine ax_cVm_r hX (G1 := gX3_isRuled) (d1 := d + 6) (i := 311) (n := 1) (as := [(3, 274, (a1 : Int))]) (st := []) (c := 3) (a := 0) (by decide +kernel) ax_cls3 calX3_isRuled (by omega) rfl wt_1226 wt_1228 ws_95 (Nat.le_of_ble_eq_true rfl) rfl (fun hY => c_X3_isRuled d a1 M12 hY) (fun y15 h_y15 hX => ?_)
    refine ax_zeq_s hX (off := 20) (tgt := 136) (by decide +kernel) (by decide) (fun h16 hX => ?_) (fun h16 hX => ?_)
    · refine ax_lump ax_layM ok_kX3 [(136, .iload 6, 2, 0, 0, 0)] (pc' := 138) (lc' := [(0, (2, 3, 0)), (1, (3, 274, (a1 : Int))), (4, (0, 0, j4)), (6, (0, 0, j6))]) (st' := [(0, 0, j6)]) (M' := y15.2) (C' := True) (by decide +kernel) rfl trivial ?_
      exact ax_iret (by decide +kernel) rfl ⟨rfl, rfl, (show ((-4) : Int) ≤ j6 from by omega), (show j6 ≤ (63 : Int) from by omega)⟩
    · refine ax_lump ax_layM ok_kX3 [(119, .aload_n 0, 1, 0, 0, 0), (120, .aload_n 0, 1, 0, 0, 0), (121, .aload_n 1, 1, 0, 0, 0)] (pc' := 122) (lc' := [(0, (2, 3, 0)), (1, (3, 274, (a1 : Int))), (4, (0, 0, j4)), (6, (0, 0, j6))]) (st' := [(3, 274, (a1 : Int)), (2, 3, 0), (2, 3, 0)]) (M' := y15.2) (C' := True) (by decide +kernel) rfl trivial ?_
      refine ax_cVm_r hX (G1 := gX3_levelsOne) (d1 := d + 3) (i := 315) (n := 1) (as := [(3, 274, (a1 : Int))]) (st := [(2, 3, 0)]) (c := 3) (a := 0) (by decide +kernel) ax_cls3 calX3_levelsOne (by omega) rfl wt_1249 wt_1251 ws_97 (Nat.le_of_ble_eq_true rfl) rfl (fun hY => c_X3_levelsOne d a1 y15.2 hY) (fun y17 h_y17 hX => ?_)
      refine ax_zlt_s hX (off := 7) (tgt := 132) (by decide +kernel) (by decide) (fun h18 hX => ?_) (fun h18 hX => ?_)
      · refine ax_lump ax_layM ok_kX3 [(132, .iconst 0, 1, 0, 0, 0), (133, .putfield 303, 3, 3, 23, 0)] (pc' := 136) (lc' := [(0, (2, 3, 0)), (1, (3, 274, (a1 : Int))), (4, (0, 0, j4)), (6, (0, 0, j6))]) (st' := []) (M' := (ax_up y17.2 0 23 0)) (C' := (True ∧ (0 ≤ 0 ∧ 0 ≤ 1))) (by decide +kernel) rfl ⟨trivial, by omega⟩ ?_
        refine ax_bdMe_s hX (fun M19 hM_M19 hX => ?_)
        refine ax_lump ax_layM ok_kX3 [(136, .iload 6, 2, 0, 0, 0)] (pc' := 138) (lc' := [(0, (2, 3, 0)), (1, (3, 274, (a1 : Int))), (4, (0, 0, j4)), (6, (0, 0, j6))]) (st' := [(0, 0, j6)]) (M' := M19) (C' := True) (by decide +kernel) rfl trivial ?_
        exact ax_iret (by decide +kernel) rfl ⟨rfl, rfl, (show ((-4) : Int) ≤ j6 from by omega), (show j6 ≤ (63 : Int) from by omega)⟩
      · refine ax_lump ax_layM ok_kX3 [(128, .iconst 1, 1, 0, 0, 0), (129, .goto 4, 3, 133, 0, 0), (133, .putfield 303, 3, 3, 23, 0)] (pc' := 136) (lc' := [(0, (2, 3, 0)), (1, (3, 274, (a1 : Int))), (4, (0, 0, j4)), (6, (0, 0, j6))]) (st' := []) (M' := (ax_up y17.2 0 23 1)) (C' := (True ∧ (0 ≤ 1 ∧ 1 ≤ 1))) (by decide +kernel) rfl ⟨trivial, by omega⟩ ?_
        refine ax_bdMe_s hX (fun M20 hM_M20 hX => ?_)
        refine ax_lump ax_layM ok_kX3 [(136, .iload 6, 2, 0, 0, 0)] (pc' := 138) (lc' := [(0, (2, 3, 0)), (1, (3, 274, (a1 : Int))), (4, (0, 0, j4)), (6, (0, 0, j6))]) (st' := [(0, 0, j6)]) (M' := M20) (C' := True) (by decide +kernel) rfl trivial ?_
        exact ax_iret (by decide +kernel) rfl ⟨rfl, rfl, (show ((-4) : Int) ≤ j6 from by omega), (show j6 ≤ (63 : Int) from by omega)⟩
def f_X3_writesOne (a1 : Nat) (x2 : Int) (x3 : Int) (M : ax_M) : Prop × Int × ax_M := ax_bd (ax_up M 0 20 0) (fun M1 => ax_bd (M1 a1 266) (fun y2 => ax_bd (ax_up M1 a1 270 (ax_wr ((M1 a1 270) + 1))) (fun M3 => ax_bd (M3 a1 270) (fun y4 => ax_bd (ax_up M3 a1 (240 + x2).toNat (if (ax_wr ((M3 a1 (240 + x2).toNat) + 1)) < 99 then (ax_wr ((M3 a1 (240 + x2).toNat) + 1)) else 99)) (fun M5 => ax_rc (f_X3_leafFor a1 x2 M5) (fun y6 => ax_rq ((0 ≤ y6.1 ∧ y6.1 ≤ 63)) (ax_bd (f_X3_puts a1 y6.1 x2 x3 y4 y6.2) (fun M8 => (if (M8 0 22) ≠ 4 then f_X3_writesOne_J89 a1 y2 y6.1 M8 else (if (x2 % 4) ≠ 3 then f_X3_writesOne_J89 a1 y2 y6.1 M8 else ax_rc (f_X3_sealsRun a1 M8) (fun y22 => f_X3_writesOne_J89 a1 y2 y6.1 y22.2)))))))))))
set_option maxRecDepth 100000 in
set_option maxHeartbeats 4000000 in
theorem c_X3_writesOne (d : Nat) (a1 : Nat) (x2 : Int) (x3 : Int) (M : ax_M) (hp1 : 0 ≤ x2 ∧ x2 ≤ 23) (hX : (f_X3_writesOne a1 x2 x3 M).1) : ax_Met ax_LM gX3_writesOne (d + 8) [(2, 3, 0), (3, 274, (a1 : Int)), (0, 0, x2), (0, 0, x3)] M ((ax_qm (-4) 63) (f_X3_writesOne a1 x2 x3 M).2) := by
  refine ax_body (by decide) (fun X => Nat.le_of_ble_eq_true rfl) (fun hok => ?_)
  have hr_x2 : (-2147483648) ≤ x2 ∧ x2 ≤ 2147483647 := hok (0, 0, x2) (by simp)
  have hr_x3 : (-2147483648) ≤ x3 ∧ x3 ≤ 2147483647 := hok (0, 0, x3) (by simp)
  show ax_W ax_LM gX3_writesOne (d + 8) 0 [(0, (2, 3, 0)), (1, (3, 274, (a1 : Int))), (2, (0, 0, x2)), (3, (0, 0, x3))] [] M _
  unfold f_X3_writesOne at hX ⊢
  refine ax_lump ax_layM ok_kX3 [(0, .aload_n 0, 1, 0, 0, 0), (1, .iconst 0, 1, 0, 0, 0), (2, .putfield 203, 3, 3, 20, 0)] (pc' := 5) (lc' := [(0, (2, 3, 0)), (1, (3, 274, (a1 : Int))), (2, (0, 0, x2)), (3, (0, 0, x3))]) (st' := []) (M' := (ax_up M 0 20 0)) (C' := (True ∧ (0 ≤ 0 ∧ 0 < ((401 : Nat) : Int)))) (by decide +kernel) rfl ⟨trivial, by omega⟩ ?_
  refine ax_bdMe_s hX (fun M1 hM_M1 hX => ?_)
  refine ax_lump ax_layM ok_kX3 [(5, .aload_n 1, 1, 0, 0, 0), (6, .sipush 266, 3, 0, 0, 0), (9, .iaload, 1, 0, 0, 0), (10, .istore 4, 2, 0, 0, 0)] (pc' := 12) (lc' := [(4, (0, 0, (M1 a1 266))), (0, (2, 3, 0)), (1, (3, 274, (a1 : Int))), (2, (0, 0, x2)), (3, (0, 0, x3))]) (st' := []) (M' := M1) (C' := (True ∧ (0 ≤ 266 ∧ 266 < ((274 : Nat) : Int)))) (by decide +kernel) rfl ⟨trivial, by omega⟩ ?_
  refine ax_bdI0_s hX (e := (M1 a1 266)) (fun y2 => [(4, (0, 0, y2)), (0, (2, 3, 0)), (1, (3, 274, (a1 : Int))), (2, (0, 0, x2)), (3, (0, 0, x3))]) (fun y2 => []) (fun y2 hX => ?_)
  refine ax_lump ax_layM ok_kX3 [(12, .aload_n 1, 1, 0, 0, 0), (13, .sipush 270, 3, 0, 0, 0), (16, .dup2, 1, 0, 0, 0), (17, .iaload, 1, 0, 0, 0), (18, .iconst 1, 1, 0, 0, 0), (19, .iadd, 1, 0, 0, 0), (20, .iastore, 1, 0, 0, 0)] (pc' := 21) (lc' := [(4, (0, 0, y2)), (0, (2, 3, 0)), (1, (3, 274, (a1 : Int))), (2, (0, 0, x2)), (3, (0, 0, x3))]) (st' := []) (M' := (ax_up M1 a1 270 (ax_wr ((M1 a1 270) + 1)))) (C' := ((True ∧ (0 ≤ 270 ∧ 270 < ((274 : Nat) : Int))) ∧ (0 ≤ 270 ∧ 270 < ((274 : Nat) : Int)))) (by decide +kernel) rfl ⟨⟨trivial, by omega⟩, by omega⟩ ?_
  refine ax_bdMe_s hX (fun M3 hM_M3 hX => ?_)
  refine ax_lump ax_layM ok_kX3 [(21, .aload_n 1, 1, 0, 0, 0), (22, .sipush 270, 3, 0, 0, 0), (25, .iaload, 1, 0, 0, 0), (26, .istore 5, 2, 0, 0, 0)] (pc' := 28) (lc' := [(5, (0, 0, (M3 a1 270))), (4, (0, 0, y2)), (0, (2, 3, 0)), (1, (3, 274, (a1 : Int))), (2, (0, 0, x2)), (3, (0, 0, x3))]) (st' := []) (M' := M3) (C' := (True ∧ (0 ≤ 270 ∧ 270 < ((274 : Nat) : Int)))) (by decide +kernel) rfl ⟨trivial, by omega⟩ ?_
  refine ax_bdI0_s hX (e := (M3 a1 270)) (fun y4 => [(5, (0, 0, y4)), (4, (0, 0, y2)), (0, (2, 3, 0)), (1, (3, 274, (a1 : Int))), (2, (0, 0, x2)), (3, (0, 0, x3))]) (fun y4 => []) (fun y4 hX => ?_)
  refine ax_lump ax_layM ok_kX3 [(28, .aload_n 1, 1, 0, 0, 0), (29, .sipush 240, 3, 0, 0, 0), (32, .iload_n 2, 1, 0, 0, 0), (33, .iadd, 1, 1, 0, 0), (34, .bipush 99, 2, 0, 0, 0), (36, .aload_n 1, 1, 0, 0, 0), (37, .sipush 240, 3, 0, 0, 0), (40, .iload_n 2, 1, 0, 0, 0), (41, .iadd, 1, 1, 0, 0), (42, .iaload, 1, 0, 0, 0), (43, .iconst 1, 1, 0, 0, 0), (44, .iadd, 1, 0, 0, 0)] (pc' := 45) (lc' := [(5, (0, 0, y4)), (4, (0, 0, y2)), (0, (2, 3, 0)), (1, (3, 274, (a1 : Int))), (2, (0, 0, x2)), (3, (0, 0, x3))]) (st' := [(0, 0, (ax_wr ((M3 a1 (240 + x2).toNat) + 1))), (0, 0, 99), (0, 0, (240 + x2)), (3, 274, (a1 : Int))]) (M' := M3) (C' := (((True ∧ ax_r32 (240 + x2)) ∧ ax_r32 (240 + x2)) ∧ (0 ≤ (240 + x2) ∧ (240 + x2) < ((274 : Nat) : Int)))) (by decide +kernel) rfl ⟨⟨⟨trivial, ⟨by omega, by omega⟩⟩, ⟨by omega, by omega⟩⟩, by omega⟩ ?_
  refine ax_mmin (i := 35) (by decide +kernel) (by omega) (Nat.le_of_ble_eq_true rfl) wt_891 wt_266 wt_8 wt_267 ?_
  refine ax_lump ax_layM ok_kX3 [(48, .iastore, 1, 0, 0, 0)] (pc' := 49) (lc' := [(5, (0, 0, y4)), (4, (0, 0, y2)), (0, (2, 3, 0)), (1, (3, 274, (a1 : Int))), (2, (0, 0, x2)), (3, (0, 0, x3))]) (st' := []) (M' := (ax_up M3 a1 (240 + x2).toNat (if (ax_wr ((M3 a1 (240 + x2).toNat) + 1)) < 99 then (ax_wr ((M3 a1 (240 + x2).toNat) + 1)) else 99))) (C' := (True ∧ (0 ≤ (240 + x2) ∧ (240 + x2) < ((274 : Nat) : Int)))) (by decide +kernel) rfl ⟨trivial, by omega⟩ ?_
  refine ax_bdMe_s hX (fun M5 hM_M5 hX => ?_)
  refine ax_lump ax_layM ok_kX3 [(49, .aload_n 0, 1, 0, 0, 0), (50, .aload_n 1, 1, 0, 0, 0), (51, .iload_n 2, 1, 0, 0, 0)] (pc' := 52) (lc' := [(5, (0, 0, y4)), (4, (0, 0, y2)), (0, (2, 3, 0)), (1, (3, 274, (a1 : Int))), (2, (0, 0, x2)), (3, (0, 0, x3))]) (st' := [(0, 0, x2), (3, 274, (a1 : Int)), (2, 3, 0)]) (M' := M5) (C' := True) (by decide +kernel) rfl trivial ?_
  refine ax_cVm_r hX (G1 := gX3_leafFor) (d1 := d + 7) (i := 300) (n := 2) (as := [(3, 274, (a1 : Int)), (0, 0, x2)]) (st := []) (c := 3) (a := 0) (by decide +kernel) ax_cls3 calX3_leafFor (by omega) rfl wt_1148 wt_1150 ws_84 (Nat.le_of_ble_eq_true rfl) rfl (fun hY => c_X3_leafFor d a1 x2 M5 (by omega) hY) (fun y6 h_y6 hX => ?_)
  refine ax_rq_s hX (fun hS7 hX => ?_)
  refine ax_lump ax_layM ok_kX3 [(55, .istore 6, 2, 0, 0, 0), (57, .aload_n 0, 1, 0, 0, 0), (58, .aload_n 1, 1, 0, 0, 0), (59, .iload 6, 2, 0, 0, 0), (61, .iload_n 2, 1, 0, 0, 0), (62, .iload_n 3, 1, 0, 0, 0), (63, .iload 5, 2, 0, 0, 0)] (pc' := 65) (lc' := [(6, (0, 0, y6.1)), (5, (0, 0, y4)), (4, (0, 0, y2)), (0, (2, 3, 0)), (1, (3, 274, (a1 : Int))), (2, (0, 0, x2)), (3, (0, 0, x3))]) (st' := [(0, 0, y4), (0, 0, x3), (0, 0, x2), (0, 0, y6.1), (3, 274, (a1 : Int)), (2, 3, 0)]) (M' := y6.2) (C' := True) (by decide +kernel) rfl trivial ?_
  refine ax_cVv_s hX (G1 := gX3_puts) (d1 := d + 1) (i := 210) (n := 5) (as := [(3, 274, (a1 : Int)), (0, 0, y6.1), (0, 0, x2), (0, 0, x3), (0, 0, y4)]) (st := []) (c := 3) (a := 0) (by decide +kernel) ax_cls3 calX3_puts (by omega) rfl wt_1180 wt_1182 ws_89 (Nat.le_of_ble_eq_true rfl) rfl (c_X3_puts d a1 y6.1 x2 x3 y4 y6.2 (hS7)) (fun M8 hX => ?_)
  refine ax_fact (i := 0) (c := 3) (f := 22) (hi := 5) (s := 0) (by simp) rfl rfl rfl (fun hf9 => ?_)
  have hf9 : 0 ≤ (M8 0 22) ∧ (M8 0 22) ≤ 5 := hf9
  refine ax_lump ax_layM ok_kX3 [(68, .aload_n 0, 1, 0, 0, 0), (69, .getfield 291, 3, 3, 22, 0), (72, .iconst 4, 1, 0, 0, 0)] (pc' := 73) (lc' := [(6, (0, 0, y6.1)), (5, (0, 0, y4)), (4, (0, 0, y2)), (0, (2, 3, 0)), (1, (3, 274, (a1 : Int))), (2, (0, 0, x2)), (3, (0, 0, x3))]) (st' := [(0, 0, 4), (0, 0, (M8 0 22))]) (M' := M8) (C' := True) (by decide +kernel) rfl trivial ?_
  refine ax_jne_s hX (off := 16) (tgt := 89) (by decide +kernel) (by decide) (fun h10 hX => ?_) (fun h10 hX => ?_)
  · refine ax_pk [3,4,2,0] (lc' := [(0, (2, 3, 0)), (1, (3, 274, (a1 : Int))), (4, (0, 0, y2)), (6, (0, 0, y6.1))]) rfl ?_
    exact w_X3_writesOne_J89 d a1 y2 y6.1 M8 (by omega) hX
  · refine ax_lump ax_layM ok_kX3 [(76, .iload_n 2, 1, 0, 0, 0), (77, .iconst 4, 1, 0, 0, 0), (78, .irem, 1, 1, 0, 0), (79, .iconst 3, 1, 0, 0, 0)] (pc' := 80) (lc' := [(6, (0, 0, y6.1)), (5, (0, 0, y4)), (4, (0, 0, y2)), (0, (2, 3, 0)), (1, (3, 274, (a1 : Int))), (2, (0, 0, x2)), (3, (0, 0, x3))]) (st' := [(0, 0, 3), (0, 0, (x2 % 4))]) (M' := M8) (C' := (True ∧ (0 ≤ x2 ∧ 0 < 4))) (by decide +kernel) rfl ⟨trivial, by omega⟩ ?_
    refine ax_jne_s hX (off := 9) (tgt := 89) (by decide +kernel) (by decide) (fun h21 hX => ?_) (fun h21 hX => ?_)
    · refine ax_pk [3,4,2,0] (lc' := [(0, (2, 3, 0)), (1, (3, 274, (a1 : Int))), (4, (0, 0, y2)), (6, (0, 0, y6.1))]) rfl ?_
      exact w_X3_writesOne_J89 d a1 y2 y6.1 M8 (by omega) hX
    · refine ax_lump ax_layM ok_kX3 [(83, .aload_n 0, 1, 0, 0, 0), (84, .aload_n 1, 1, 0, 0, 0)] (pc' := 85) (lc' := [(6, (0, 0, y6.1)), (5, (0, 0, y4)), (4, (0, 0, y2)), (0, (2, 3, 0)), (1, (3, 274, (a1 : Int))), (2, (0, 0, x2)), (3, (0, 0, x3))]) (st' := [(3, 274, (a1 : Int)), (2, 3, 0)]) (M' := M8) (C' := True) (by decide +kernel) rfl trivial ?_
      refine ax_cVm_r hX (G1 := gX3_sealsRun) (d1 := d + 5) (i := 294) (n := 1) (as := [(3, 274, (a1 : Int))]) (st := []) (c := 3) (a := 0) (by decide +kernel) ax_cls3 calX3_sealsRun (by omega) rfl wt_1164 wt_1166 ws_85 (Nat.le_of_ble_eq_true rfl) rfl (fun hY => c_X3_sealsRun d a1 M8 hY) (fun y22 h_y22 hX => ?_)
      refine ax_lump ax_layM ok_kX3 [(88, .pop, 1, 0, 0, 0)] (pc' := 89) (lc' := [(6, (0, 0, y6.1)), (5, (0, 0, y4)), (4, (0, 0, y2)), (0, (2, 3, 0)), (1, (3, 274, (a1 : Int))), (2, (0, 0, x2)), (3, (0, 0, x3))]) (st' := []) (M' := y22.2) (C' := True) (by decide +kernel) rfl trivial ?_
      refine ax_pk [3,4,2,0] (lc' := [(0, (2, 3, 0)), (1, (3, 274, (a1 : Int))), (4, (0, 0, y2)), (6, (0, 0, y6.1))]) rfl ?_
      exact w_X3_writesOne_J89 d a1 y2 y6.1 y22.2 (by omega) hX
def f_X3_writes (x1 : Int) (x2 : Int) (M : ax_M) : Prop × Int × ax_M := ax_bd (ax_up M 0 0 0) (fun M1 => (if (f_X3_isPage x1 M1) = 0 then (True, ((-1), M1)) else (if (f_X3_in x2 0 99 M1) ≠ 0 then ax_rc (f_X3_putsBy M1) (fun M6 => ax_bd (f_X3_marks 7 M6) (fun M7 => ax_rc (f_X3_writesOne 7 x1 x2 M7) (fun y8 => ax_bd (ax_up y8.2 0 1 0) (fun M9 => ax_rc (f_X3_enters (ax_rem y8.1 4) M9) (fun M10 => ax_rc (f_X3_entersMore 7 M10) (fun M11 => ax_rc (f_X3_adds (ax_div y8.1 4) M11) (fun y12 => (True, (y12.1, y12.2))))))))) else (True, ((-1), M1)))))
set_option maxRecDepth 100000 in
set_option maxHeartbeats 4000000 in
theorem c_X3_writes (d : Nat) (x1 : Int) (x2 : Int) (M : ax_M)  (hX : (f_X3_writes x1 x2 M).1) : ax_Met ax_LM gX3_writes (d + 9) [(2, 3, 0), (0, 0, x1), (0, 0, x2)] M ((ax_qm (-2147483648) 2147483647) (f_X3_writes x1 x2 M).2) := by
  refine ax_body (by decide) (fun X => Nat.le_of_ble_eq_true rfl) (fun hok => ?_)
  have hr_x1 : (-2147483648) ≤ x1 ∧ x1 ≤ 2147483647 := hok (0, 0, x1) (by simp)
  have hr_x2 : (-2147483648) ≤ x2 ∧ x2 ≤ 2147483647 := hok (0, 0, x2) (by simp)
  show ax_W ax_LM gX3_writes (d + 9) 0 [(0, (2, 3, 0)), (1, (0, 0, x1)), (2, (0, 0, x2))] [] M _
  unfold f_X3_writes at hX ⊢
  refine ax_lump ax_layM ok_kX3 [(0, .aload_n 0, 1, 0, 0, 0), (1, .iconst 0, 1, 0, 0, 0), (2, .putfield 3, 3, 3, 0, 0)] (pc' := 5) (lc' := [(0, (2, 3, 0)), (1, (0, 0, x1)), (2, (0, 0, x2))]) (st' := []) (M' := (ax_up M 0 0 0)) (C' := (True ∧ (0 ≤ 0 ∧ 0 < ((2 : Nat) : Int)))) (by decide +kernel) rfl ⟨trivial, by omega⟩ ?_
  refine ax_bdMe_s hX (fun M1 hM_M1 hX => ?_)
  refine ax_lump ax_layM ok_kX3 [(5, .iload_n 1, 1, 0, 0, 0)] (pc' := 6) (lc' := [(0, (2, 3, 0)), (1, (0, 0, x1)), (2, (0, 0, x2))]) (st' := [(0, 0, x1)]) (M' := M1) (C' := True) (by decide +kernel) rfl trivial ?_
  refine ax_cSi (G1 := gX3_isPage) (d1 := d + 1) (i := 349) (n := 1) (as := [(0, 0, x1)]) (st := []) (by decide +kernel) calX3_isPage (by omega) rfl wt_1131 wt_1132 (Nat.le_of_ble_eq_true rfl) rfl (c_X3_isPage d x1 M1) (fun hc2 => ?_)
  refine ax_zeq_s hX (off := 15) (tgt := 24) (by decide +kernel) (by decide) (fun h3 hX => ?_) (fun h3 hX => ?_)
  · refine ax_lump ax_layM ok_kX3 [(24, .iconst (-1), 1, 0, 0, 0)] (pc' := 25) (lc' := [(0, (2, 3, 0)), (1, (0, 0, x1)), (2, (0, 0, x2))]) (st' := [(0, 0, (-1))]) (M' := M1) (C' := True) (by decide +kernel) rfl trivial ?_
    refine ax_rngS (fun hr => ?_)
    exact ax_iret (by decide +kernel) rfl ⟨rfl, rfl, hr.1, hr.2⟩
  · have hgh3 := g_X3_isPage h3
    refine ax_lump ax_layM ok_kX3 [(12, .iload_n 2, 1, 0, 0, 0), (13, .i2l, 1, 0, 0, 0), (14, .lconst 0, 1, 0, 0, 0), (15, .ldc2_w 352, 3, 0, 0, 99)] (pc' := 18) (lc' := [(0, (2, 3, 0)), (1, (0, 0, x1)), (2, (0, 0, x2))]) (st' := [(1, 0, 99), (1, 0, 0), (1, 0, x2)]) (M' := M1) (C' := True) (by decide +kernel) rfl trivial ?_
    refine ax_cSi (G1 := gX3_in) (d1 := d + 0) (i := 25) (n := 3) (as := [(1, 0, x2), (1, 0, 0), (1, 0, 99)]) (st := []) (by decide +kernel) calX3_in (by omega) rfl wt_875 wt_876 (Nat.le_of_ble_eq_true rfl) rfl (c_X3_in d x2 0 99 M1) (fun hc4 => ?_)
    refine ax_zne_s hX (off := 5) (tgt := 26) (by decide +kernel) (by decide) (fun h5 hX => ?_) (fun h5 hX => ?_)
    · have hgh5 := g_X3_in h5
      refine ax_lump ax_layM ok_kX3 [(26, .aload_n 0, 1, 0, 0, 0)] (pc' := 27) (lc' := [(0, (2, 3, 0)), (1, (0, 0, x1)), (2, (0, 0, x2))]) (st' := [(2, 3, 0)]) (M' := M1) (C' := True) (by decide +kernel) rfl trivial ?_
      refine ax_cVv_r hX (G1 := gX3_putsBy) (d1 := d + 0) (i := 354) (n := 0) (as := []) (st := []) (c := 3) (a := 0) (by decide +kernel) ax_cls3 calX3_putsBy (by omega) rfl wt_1136 wt_1138 ws_81 (Nat.le_of_ble_eq_true rfl) rfl (fun hY => c_X3_putsBy d  M1 hY) (fun M6 hX => ?_)
      refine ax_lump ax_layM ok_kX3 [(30, .aload_n 0, 1, 0, 0, 0), (31, .aload_n 0, 1, 0, 0, 0), (32, .getfield 138, 3, 3, 14, 0)] (pc' := 35) (lc' := [(0, (2, 3, 0)), (1, (0, 0, x1)), (2, (0, 0, x2))]) (st' := [(3, 274, 7), (2, 3, 0)]) (M' := M6) (C' := True) (by decide +kernel) rfl trivial ?_
      refine ax_cVv_s hX (G1 := gX3_marks) (d1 := d + 0) (i := 357) (n := 1) (as := [(3, 274, 7)]) (st := []) (c := 3) (a := 0) (by decide +kernel) ax_cls3 calX3_marks (by omega) rfl wt_1140 wt_1142 ws_82 (Nat.le_of_ble_eq_true rfl) rfl (c_X3_marks d 7 M6) (fun M7 hX => ?_)
      refine ax_lump ax_layM ok_kX3 [(38, .aload_n 0, 1, 0, 0, 0), (39, .aload_n 0, 1, 0, 0, 0), (40, .getfield 138, 3, 3, 14, 0), (43, .iload_n 1, 1, 0, 0, 0), (44, .iload_n 2, 1, 0, 0, 0)] (pc' := 45) (lc' := [(0, (2, 3, 0)), (1, (0, 0, x1)), (2, (0, 0, x2))]) (st' := [(0, 0, x2), (0, 0, x1), (3, 274, 7), (2, 3, 0)]) (M' := M7) (C' := True) (by decide +kernel) rfl trivial ?_
      refine ax_cVm_r hX (G1 := gX3_writesOne) (d1 := d + 8) (i := 361) (n := 3) (as := [(3, 274, 7), (0, 0, x1), (0, 0, x2)]) (st := []) (c := 3) (a := 0) (by decide +kernel) ax_cls3 calX3_writesOne (by omega) rfl wt_1144 wt_1146 ws_83 (Nat.le_of_ble_eq_true rfl) rfl (fun hY => c_X3_writesOne d 7 x1 x2 M7 (by omega) hY) (fun y8 h_y8 hX => ?_)
      refine ax_lump ax_layM ok_kX3 [(48, .istore_n 3, 1, 0, 0, 0), (49, .aload_n 0, 1, 0, 0, 0), (50, .iconst 0, 1, 0, 0, 0), (51, .putfield 15, 3, 3, 1, 0)] (pc' := 54) (lc' := [(3, (0, 0, y8.1)), (0, (2, 3, 0)), (1, (0, 0, x1)), (2, (0, 0, x2))]) (st' := []) (M' := (ax_up y8.2 0 1 0)) (C' := (True ∧ (0 ≤ 0 ∧ 0 < ((25 : Nat) : Int)))) (by decide +kernel) rfl ⟨trivial, by omega⟩ ?_
      refine ax_bdMe_s hX (fun M9 hM_M9 hX => ?_)
      refine ax_lump ax_layM ok_kX3 [(54, .aload_n 0, 1, 0, 0, 0), (55, .iload_n 3, 1, 0, 0, 0), (56, .iconst 4, 1, 0, 0, 0), (57, .irem, 1, 0, 0, 0), (58, .i2l, 1, 0, 0, 0)] (pc' := 59) (lc' := [(3, (0, 0, y8.1)), (0, (2, 3, 0)), (1, (0, 0, x1)), (2, (0, 0, x2))]) (st' := [(1, 0, (ax_rem y8.1 4)), (2, 3, 0)]) (M' := M9) (C' := (True ∧ 4 ≠ 0)) (by decide +kernel) rfl ⟨trivial, by omega⟩ ?_
      refine ax_cVv_r hX (G1 := gX3_enters) (d1 := d + 0) (i := 345) (n := 1) (as := [(1, 0, (ax_rem y8.1 4))]) (st := []) (c := 3) (a := 0) (by decide +kernel) ax_cls3 calX3_enters (by omega) rfl wt_1256 wt_1258 ws_98 (Nat.le_of_ble_eq_true rfl) rfl (fun hY => c_X3_enters d (ax_rem y8.1 4) M9 hY) (fun M10 hX => ?_)
      refine ax_lump ax_layM ok_kX3 [(62, .aload_n 0, 1, 0, 0, 0), (63, .aload_n 0, 1, 0, 0, 0), (64, .getfield 138, 3, 3, 14, 0)] (pc' := 67) (lc' := [(3, (0, 0, y8.1)), (0, (2, 3, 0)), (1, (0, 0, x1)), (2, (0, 0, x2))]) (st' := [(3, 274, 7), (2, 3, 0)]) (M' := M10) (C' := True) (by decide +kernel) rfl trivial ?_
      refine ax_cVv_r hX (G1 := gX3_entersMore) (d1 := d + 1) (i := 364) (n := 1) (as := [(3, 274, 7)]) (st := []) (c := 3) (a := 0) (by decide +kernel) ax_cls3 calX3_entersMore (by omega) rfl wt_1260 wt_1262 ws_99 (Nat.le_of_ble_eq_true rfl) rfl (fun hY => c_X3_entersMore d 7 M10 hY) (fun M11 hX => ?_)
      refine ax_lump ax_layM ok_kX3 [(70, .aload_n 0, 1, 0, 0, 0), (71, .iload_n 3, 1, 0, 0, 0), (72, .iconst 4, 1, 0, 0, 0), (73, .idiv, 1, 0, 0, 0)] (pc' := 74) (lc' := [(3, (0, 0, y8.1)), (0, (2, 3, 0)), (1, (0, 0, x1)), (2, (0, 0, x2))]) (st' := [(0, 0, (ax_div y8.1 4)), (2, 3, 0)]) (M' := M11) (C' := (True ∧ 4 ≠ 0)) (by decide +kernel) rfl ⟨trivial, by omega⟩ ?_
      refine ax_cVm_r hX (G1 := gX3_adds) (d1 := d + 0) (i := 367) (n := 1) (as := [(0, 0, (ax_div y8.1 4))]) (st := []) (c := 3) (a := 0) (by decide +kernel) ax_cls3 calX3_adds (by omega) rfl wt_1264 wt_1266 ws_100 (Nat.le_of_ble_eq_true rfl) rfl (fun hY => c_X3_adds d (ax_div y8.1 4) M11 hY) (fun y12 h_y12 hX => ?_)
      refine ax_rngS (fun hr => ?_)
      exact ax_iret (by decide +kernel) rfl ⟨rfl, rfl, hr.1, hr.2⟩
    · refine ax_lump ax_layM ok_kX3 [(24, .iconst (-1), 1, 0, 0, 0)] (pc' := 25) (lc' := [(0, (2, 3, 0)), (1, (0, 0, x1)), (2, (0, 0, x2))]) (st' := [(0, 0, (-1))]) (M' := M1) (C' := True) (by decide +kernel) rfl trivial ?_
      refine ax_rngS (fun hr => ?_)
      exact ax_iret (by decide +kernel) rfl ⟨rfl, rfl, hr.1, hr.2⟩
