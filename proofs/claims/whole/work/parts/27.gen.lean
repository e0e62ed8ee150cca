def f_X0_leastWornFree_B4 (b : Nat) (M : ax_M) (i : Nat) (v1 : Int) (kc : Int → Int) (kx : Int → Int) : Int := (if (M (b + 4) i) ≠ 0 then kc v1 else (if v1 = (-1) then kc (i : Int) else (if (M (b + 6) v1.toNat) ≤ (M (b + 6) i) then kc v1 else kc (i : Int))))
def f_X0_leastWornFree_L4 (b : Nat) (M : ax_M) : Nat → Nat → Int → (Int → Int) → Int
  | 0, i, v1, kx => kx v1
  | n + 1, i, v1, kx => f_X0_leastWornFree_B4 b M i v1 (fun u1 => f_X0_leastWornFree_L4 b M n (i + 1) u1 kx) kx
set_option maxRecDepth 100000 in
set_option maxHeartbeats 4000000 in
theorem wb_X0_leastWornFree_B4 (d : Nat) (b : Nat) (M : ax_M) (i : Nat) (v1 : Int) (kc : Int → Int) (kx : Int → Int)  (hi : 0 ≤ i ∧ i < 16) (hv1 : (-1) ≤ v1 ∧ v1 ≤ 15) (hkc : ∀ (u1 : Int), (-1) ≤ u1 ∧ u1 ≤ 15 → ax_W ax_LC gX0_leastWornFree (d + 0) 4 [(0, (2, 0, (b : Int))), (1, (0, 0, u1)), (2, (0, 0, ((i : Int) + 1)))] [] M ((ax_qi (-1) 15 M) (kc u1))) (hkx : ∀ (x1 : Int), (((-1) ≤ x1 ∧ x1 ≤ 15)) → ax_W ax_LC gX0_leastWornFree (d + 0) 47 [(1, (0, 0, x1))] [] M ((ax_qi (-1) 15 M) (kx x1))) : ax_W ax_LC gX0_leastWornFree (d + 0) 10 [(0, (2, 0, (b : Int))), (1, (0, 0, v1)), (2, (0, 0, (i : Int)))] [] M ((ax_qi (-1) 15 M) (f_X0_leastWornFree_B4 b M i v1 kc kx)) := by
  unfold f_X0_leastWornFree_B4
  refine ax_lump ax_layC ok_kX0 [(10, .aload_n 0, 1, 0, 0, 0), (11, .getfield 21, 3, 0, 3, 0), (14, .iload_n 2, 1, 0, 0, 0), (15, .iaload, 1, 0, 0, 0)] (pc' := 16) (lc' := [(0, (2, 0, (b : Int))), (1, (0, 0, v1)), (2, (0, 0, (i : Int)))]) (st' := [(0, 0, (M (b + 4) i))]) (M' := M) (C' := (True ∧ (0 ≤ (i : Int) ∧ (i : Int) < ((16 : Nat) : Int)))) (by decide +kernel) rfl ⟨trivial, by omega⟩ ?_
  refine ax_zne (off := 25) (tgt := 41) (by decide +kernel) (by decide) (fun h1 => ?_) (fun h1 => ?_)
  · refine ax_lump ax_layC ok_kX0 [(41, .iinc 2 1, 3, 1, 0, 0), (44, .goto (-40), 3, 4, 0, 0)] (pc' := 4) (lc' := [(2, (0, 0, ((i : Int) + 1))), (0, (2, 0, (b : Int))), (1, (0, 0, v1))]) (st' := []) (M' := M) (C' := (True ∧ ax_r32 ((i : Int) + 1))) (by decide +kernel) rfl ⟨trivial, ⟨by omega, by omega⟩⟩ ?_
    refine ax_pk [1,2,0] (lc' := [(0, (2, 0, (b : Int))), (1, (0, 0, v1)), (2, (0, 0, ((i : Int) + 1)))]) rfl ?_
    exact hkc v1 (by omega)
  · refine ax_lump ax_layC ok_kX0 [(19, .iload_n 1, 1, 0, 0, 0), (20, .iconst (-1), 1, 0, 0, 0)] (pc' := 21) (lc' := [(0, (2, 0, (b : Int))), (1, (0, 0, v1)), (2, (0, 0, (i : Int)))]) (st' := [(0, 0, (-1)), (0, 0, v1)]) (M' := M) (C' := True) (by decide +kernel) rfl trivial ?_
    refine ax_jeq (off := 18) (tgt := 39) (by decide +kernel) (by decide) (fun h2 => ?_) (fun h2 => ?_)
    · refine ax_lump ax_layC ok_kX0 [(39, .iload_n 2, 1, 0, 0, 0), (40, .istore_n 1, 1, 0, 0, 0), (41, .iinc 2 1, 3, 1, 0, 0), (44, .goto (-40), 3, 4, 0, 0)] (pc' := 4) (lc' := [(2, (0, 0, ((i : Int) + 1))), (1, (0, 0, (i : Int))), (0, (2, 0, (b : Int)))]) (st' := []) (M' := M) (C' := (True ∧ ax_r32 ((i : Int) + 1))) (by decide +kernel) rfl ⟨trivial, ⟨by omega, by omega⟩⟩ ?_
      refine ax_pk [2,1,0] (lc' := [(0, (2, 0, (b : Int))), (1, (0, 0, (i : Int))), (2, (0, 0, ((i : Int) + 1)))]) rfl ?_
      exact hkc (i : Int) (by omega)
    · refine ax_lump ax_layC ok_kX0 [(24, .aload_n 0, 1, 0, 0, 0), (25, .getfield 27, 3, 0, 5, 0), (28, .iload_n 2, 1, 0, 0, 0), (29, .iaload, 1, 0, 0, 0), (30, .aload_n 0, 1, 0, 0, 0), (31, .getfield 27, 3, 0, 5, 0), (34, .iload_n 1, 1, 0, 0, 0), (35, .iaload, 1, 0, 0, 0)] (pc' := 36) (lc' := [(0, (2, 0, (b : Int))), (1, (0, 0, v1)), (2, (0, 0, (i : Int)))]) (st' := [(0, 0, (M (b + 6) v1.toNat)), (0, 0, (M (b + 6) i))]) (M' := M) (C' := ((True ∧ (0 ≤ (i : Int) ∧ (i : Int) < ((16 : Nat) : Int))) ∧ (0 ≤ v1 ∧ v1 < ((16 : Nat) : Int)))) (by decide +kernel) rfl ⟨⟨trivial, by omega⟩, by omega⟩ ?_
      refine ax_jge (off := 5) (tgt := 41) (by decide +kernel) (by decide) (fun h3 => ?_) (fun h3 => ?_)
      · refine ax_lump ax_layC ok_kX0 [(41, .iinc 2 1, 3, 1, 0, 0), (44, .goto (-40), 3, 4, 0, 0)] (pc' := 4) (lc' := [(2, (0, 0, ((i : Int) + 1))), (0, (2, 0, (b : Int))), (1, (0, 0, v1))]) (st' := []) (M' := M) (C' := (True ∧ ax_r32 ((i : Int) + 1))) (by decide +kernel) rfl ⟨trivial, ⟨by omega, by omega⟩⟩ ?_
        refine ax_pk [1,2,0] (lc' := [(0, (2, 0, (b : Int))), (1, (0, 0, v1)), (2, (0, 0, ((i : Int) + 1)))]) rfl ?_
        exact hkc v1 (by omega)
      · refine ax_lump ax_layC ok_kX0 [(39, .iload_n 2, 1, 0, 0, 0), (40, .istore_n 1, 1, 0, 0, 0), (41, .iinc 2 1, 3, 1, 0, 0), (44, .goto (-40), 3, 4, 0, 0)] (pc' := 4) (lc' := [(2, (0, 0, ((i : Int) + 1))), (1, (0, 0, (i : Int))), (0, (2, 0, (b : Int)))]) (st' := []) (M' := M) (C' := (True ∧ ax_r32 ((i : Int) + 1))) (by decide +kernel) rfl ⟨trivial, ⟨by omega, by omega⟩⟩ ?_
        refine ax_pk [2,1,0] (lc' := [(0, (2, 0, (b : Int))), (1, (0, 0, (i : Int))), (2, (0, 0, ((i : Int) + 1)))]) rfl ?_
        exact hkc (i : Int) (by omega)
set_option maxRecDepth 100000 in
set_option maxHeartbeats 4000000 in
theorem w_X0_leastWornFree_L4 (d : Nat) (b : Nat) (M : ax_M) (kx : Int → Int)  (hkx : ∀ (x1 : Int), (((-1) ≤ x1 ∧ x1 ≤ 15)) → ax_W ax_LC gX0_leastWornFree (d + 0) 47 [(1, (0, 0, x1))] [] M ((ax_qi (-1) 15 M) (kx x1))) : ∀ (n : Nat) (i : Nat) (v1 : Int), 0 ≤ i ∧ i + n = 16 → (-1) ≤ v1 ∧ v1 ≤ 15 → ax_W ax_LC gX0_leastWornFree (d + 0) 4 [(0, (2, 0, (b : Int))), (1, (0, 0, v1)), (2, (0, 0, (i : Int)))] [] M ((ax_qi (-1) 15 M) (f_X0_leastWornFree_L4 b M n i v1 kx)) := by
  intro n
  induction n with
  | zero =>
    intro i v1 hin hv1
    refine ax_lump ax_layC ok_kX0 [(4, .iload_n 2, 1, 0, 0, 0), (5, .bipush 16, 2, 0, 0, 0)] (pc' := 7) (lc' := [(0, (2, 0, (b : Int))), (1, (0, 0, v1)), (2, (0, 0, (i : Int)))]) (st' := [(0, 0, 16), (0, 0, (i : Int))]) (M' := M) (C' := True) (by decide +kernel) rfl trivial ?_
    refine ax_icmp_ge (off := 40) (tgt := 47) (by decide +kernel) (by decide) (fun h => ?_) (fun h => ?_)
    · refine ax_pk [1] (lc' := [(1, (0, 0, v1))]) rfl ?_
      exact hkx v1 (by omega)
    · exfalso; omega
  | succ n ih =>
    intro i v1 hin hv1
    refine ax_lump ax_layC ok_kX0 [(4, .iload_n 2, 1, 0, 0, 0), (5, .bipush 16, 2, 0, 0, 0)] (pc' := 7) (lc' := [(0, (2, 0, (b : Int))), (1, (0, 0, v1)), (2, (0, 0, (i : Int)))]) (st' := [(0, 0, 16), (0, 0, (i : Int))]) (M' := M) (C' := True) (by decide +kernel) rfl trivial ?_
    refine ax_icmp_ge (off := 40) (tgt := 47) (by decide +kernel) (by decide) (fun h => ?_) (fun h => ?_)
    · exfalso; omega
    · exact wb_X0_leastWornFree_B4 d b M i v1 _ kx  (by omega) hv1 (fun u1 hu1 => ih (i + 1) u1 (by omega) hu1) hkx
def f_X0_leastWornFree (b : Nat) (M : ax_M) : Int := f_X0_leastWornFree_L4 b M 16 0 (-1) (fun z4 => z4)
set_option maxRecDepth 100000 in
set_option maxHeartbeats 4000000 in
theorem c_X0_leastWornFree (d : Nat) (b : Nat) (M : ax_M)  : ax_Met ax_LC gX0_leastWornFree (d + 0) [(2, 0, (b : Int))] M ((ax_qi (-1) 15 M) (f_X0_leastWornFree b M)) := by
  refine ax_body (by decide) (fun X => Nat.le_of_ble_eq_true rfl) (fun hok => ?_)
  show ax_W ax_LC gX0_leastWornFree (d + 0) 0 [(0, (2, 0, (b : Int)))] [] M _
  unfold f_X0_leastWornFree
  refine ax_lump ax_layC ok_kX0 [(0, .iconst (-1), 1, 0, 0, 0), (1, .istore_n 1, 1, 0, 0, 0), (2, .iconst 0, 1, 0, 0, 0), (3, .istore_n 2, 1, 0, 0, 0)] (pc' := 4) (lc' := [(2, (0, 0, 0)), (1, (0, 0, (-1))), (0, (2, 0, (b : Int)))]) (st' := []) (M' := M) (C' := True) (by decide +kernel) rfl trivial ?_
  refine ax_pk [2,1,0] (lc' := [(0, (2, 0, (b : Int))), (1, (0, 0, (-1))), (2, (0, 0, 0))]) rfl ?_
  refine w_X0_leastWornFree_L4 d b M _  (fun z4 hx_4 => ?_) 16 0 (-1) (by omega) (by omega)
  refine ax_lump ax_layC ok_kX0 [(47, .iload_n 1, 1, 0, 0, 0)] (pc' := 48) (lc' := [(1, (0, 0, z4))]) (st' := [(0, 0, z4)]) (M' := M) (C' := True) (by decide +kernel) rfl trivial ?_
  exact ax_iret (by decide +kernel) rfl ⟨rfl, rfl, (show ((-1) : Int) ≤ z4 from by omega), (show z4 ≤ (15 : Int) from by omega)⟩
def f_X0_howMany_B4 (b : Nat) (w1 : Int) (M : ax_M) (i : Nat) (v2 : Int) (kc : Int → Int) (kx : Int → Int) : Int := (if (M (b + 4) i) ≠ w1 then kc (v2 + 0) else kc (v2 + 1))
def f_X0_howMany_L4 (b : Nat) (w1 : Int) (M : ax_M) : Nat → Nat → Int → (Int → Int) → Int
  | 0, i, v2, kx => kx v2
  | n + 1, i, v2, kx => f_X0_howMany_B4 b w1 M i v2 (fun u2 => f_X0_howMany_L4 b w1 M n (i + 1) u2 kx) kx
set_option maxRecDepth 100000 in
set_option maxHeartbeats 4000000 in
theorem wb_X0_howMany_B4 (d : Nat) (b : Nat) (w1 : Int) (M : ax_M) (i : Nat) (v2 : Int) (kc : Int → Int) (kx : Int → Int)  (hi : 0 ≤ i ∧ i < 16) (hv2 : 0 ≤ v2 ∧ v2 ≤ 0 + 1 * ((i : Int) - 0)) (hkc : ∀ (u2 : Int), 0 ≤ u2 ∧ u2 ≤ 0 + 1 * (((i : Int) + 1) - 0) → ax_W ax_LC gX0_howMany (d + 0) 4 [(0, (2, 0, (b : Int))), (1, (0, 0, w1)), (2, (0, 0, u2)), (3, (0, 0, ((i : Int) + 1)))] [] M ((ax_qi 0 16 M) (kc u2))) (hkx : ∀ (x2 : Int), ((0 ≤ x2 ∧ x2 ≤ 16)) → ax_W ax_LC gX0_howMany (d + 0) 34 [(2, (0, 0, x2))] [] M ((ax_qi 0 16 M) (kx x2))) : ax_W ax_LC gX0_howMany (d + 0) 10 [(0, (2, 0, (b : Int))), (1, (0, 0, w1)), (2, (0, 0, v2)), (3, (0, 0, (i : Int)))] [] M ((ax_qi 0 16 M) (f_X0_howMany_B4 b w1 M i v2 kc kx)) := by
  unfold f_X0_howMany_B4
  refine ax_lump ax_layC ok_kX0 [(10, .iload_n 2, 1, 0, 0, 0), (11, .aload_n 0, 1, 0, 0, 0), (12, .getfield 21, 3, 0, 3, 0), (15, .iload_n 3, 1, 0, 0, 0), (16, .iaload, 1, 0, 0, 0), (17, .iload_n 1, 1, 0, 0, 0)] (pc' := 18) (lc' := [(0, (2, 0, (b : Int))), (1, (0, 0, w1)), (2, (0, 0, v2)), (3, (0, 0, (i : Int)))]) (st' := [(0, 0, w1), (0, 0, (M (b + 4) i)), (0, 0, v2)]) (M' := M) (C' := (True ∧ (0 ≤ (i : Int) ∧ (i : Int) < ((16 : Nat) : Int)))) (by decide +kernel) rfl ⟨trivial, by omega⟩ ?_
  refine ax_jne (off := 7) (tgt := 25) (by decide +kernel) (by decide) (fun h1 => ?_) (fun h1 => ?_)
  · refine ax_lump ax_layC ok_kX0 [(25, .iconst 0, 1, 0, 0, 0), (26, .iadd, 1, 1, 0, 0), (27, .istore_n 2, 1, 0, 0, 0), (28, .iinc 3 1, 3, 1, 0, 0), (31, .goto (-27), 3, 4, 0, 0)] (pc' := 4) (lc' := [(3, (0, 0, ((i : Int) + 1))), (2, (0, 0, (v2 + 0))), (0, (2, 0, (b : Int))), (1, (0, 0, w1))]) (st' := []) (M' := M) (C' := ((True ∧ ax_r32 (v2 + 0)) ∧ ax_r32 ((i : Int) + 1))) (by decide +kernel) rfl ⟨⟨trivial, ⟨by omega, by omega⟩⟩, ⟨by omega, by omega⟩⟩ ?_
    refine ax_pk [2,3,1,0] (lc' := [(0, (2, 0, (b : Int))), (1, (0, 0, w1)), (2, (0, 0, (v2 + 0))), (3, (0, 0, ((i : Int) + 1)))]) rfl ?_
    exact hkc (v2 + 0) (by omega)
  · refine ax_lump ax_layC ok_kX0 [(21, .iconst 1, 1, 0, 0, 0), (22, .goto 4, 3, 26, 0, 0), (26, .iadd, 1, 1, 0, 0), (27, .istore_n 2, 1, 0, 0, 0), (28, .iinc 3 1, 3, 1, 0, 0), (31, .goto (-27), 3, 4, 0, 0)] (pc' := 4) (lc' := [(3, (0, 0, ((i : Int) + 1))), (2, (0, 0, (v2 + 1))), (0, (2, 0, (b : Int))), (1, (0, 0, w1))]) (st' := []) (M' := M) (C' := ((True ∧ ax_r32 (v2 + 1)) ∧ ax_r32 ((i : Int) + 1))) (by decide +kernel) rfl ⟨⟨trivial, ⟨by omega, by omega⟩⟩, ⟨by omega, by omega⟩⟩ ?_
    refine ax_pk [2,3,1,0] (lc' := [(0, (2, 0, (b : Int))), (1, (0, 0, w1)), (2, (0, 0, (v2 + 1))), (3, (0, 0, ((i : Int) + 1)))]) rfl ?_
    exact hkc (v2 + 1) (by omega)
set_option maxRecDepth 100000 in
set_option maxHeartbeats 4000000 in
theorem w_X0_howMany_L4 (d : Nat) (b : Nat) (w1 : Int) (M : ax_M) (kx : Int → Int)  (hkx : ∀ (x2 : Int), ((0 ≤ x2 ∧ x2 ≤ 16)) → ax_W ax_LC gX0_howMany (d + 0) 34 [(2, (0, 0, x2))] [] M ((ax_qi 0 16 M) (kx x2))) : ∀ (n : Nat) (i : Nat) (v2 : Int), 0 ≤ i ∧ i + n = 16 → 0 ≤ v2 ∧ v2 ≤ 0 + 1 * ((i : Int) - 0) → ax_W ax_LC gX0_howMany (d + 0) 4 [(0, (2, 0, (b : Int))), (1, (0, 0, w1)), (2, (0, 0, v2)), (3, (0, 0, (i : Int)))] [] M ((ax_qi 0 16 M) (f_X0_howMany_L4 b w1 M n i v2 kx)) := by
  intro n
  induction n with
  | zero =>
    intro i v2 hin hv2
    refine ax_lump ax_layC ok_kX0 [(4, .iload_n 3, 1, 0, 0, 0), (5, .bipush 16, 2, 0, 0, 0)] (pc' := 7) (lc' := [(0, (2, 0, (b : Int))), (1, (0, 0, w1)), (2, (0, 0, v2)), (3, (0, 0, (i : Int)))]) (st' := [(0, 0, 16), (0, 0, (i : Int))]) (M' := M) (C' := True) (by decide +kernel) rfl trivial ?_
    refine ax_icmp_ge (off := 27) (tgt := 34) (by decide +kernel) (by decide) (fun h => ?_) (fun h => ?_)
    · refine ax_pk [2] (lc' := [(2, (0, 0, v2))]) rfl ?_
      exact hkx v2 (by omega)
    · exfalso; omega
  | succ n ih =>
    intro i v2 hin hv2
    refine ax_lump ax_layC ok_kX0 [(4, .iload_n 3, 1, 0, 0, 0), (5, .bipush 16, 2, 0, 0, 0)] (pc' := 7) (lc' := [(0, (2, 0, (b : Int))), (1, (0, 0, w1)), (2, (0, 0, v2)), (3, (0, 0, (i : Int)))]) (st' := [(0, 0, 16), (0, 0, (i : Int))]) (M' := M) (C' := True) (by decide +kernel) rfl trivial ?_
    refine ax_icmp_ge (off := 27) (tgt := 34) (by decide +kernel) (by decide) (fun h => ?_) (fun h => ?_)
    · exfalso; omega
    · exact wb_X0_howMany_B4 d b w1 M i v2 _ kx  (by omega) hv2 (fun u2 hu2 => ih (i + 1) u2 (by omega) (by omega)) hkx
def f_X0_howMany (b : Nat) (x1 : Int) (M : ax_M) : Int := f_X0_howMany_L4 b x1 M 16 0 0 (fun z2 => z2)
set_option maxRecDepth 100000 in
set_option maxHeartbeats 4000000 in
theorem c_X0_howMany (d : Nat) (b : Nat) (x1 : Int) (M : ax_M)  : ax_Met ax_LC gX0_howMany (d + 0) [(2, 0, (b : Int)), (0, 0, x1)] M ((ax_qi 0 16 M) (f_X0_howMany b x1 M)) := by
  refine ax_body (by decide) (fun X => Nat.le_of_ble_eq_true rfl) (fun hok => ?_)
  have hr_x1 : (-2147483648) ≤ x1 ∧ x1 ≤ 2147483647 := hok (0, 0, x1) (by simp)
  show ax_W ax_LC gX0_howMany (d + 0) 0 [(0, (2, 0, (b : Int))), (1, (0, 0, x1))] [] M _
  unfold f_X0_howMany
  refine ax_lump ax_layC ok_kX0 [(0, .iconst 0, 1, 0, 0, 0), (1, .istore_n 2, 1, 0, 0, 0), (2, .iconst 0, 1, 0, 0, 0), (3, .istore_n 3, 1, 0, 0, 0)] (pc' := 4) (lc' := [(3, (0, 0, 0)), (2, (0, 0, 0)), (0, (2, 0, (b : Int))), (1, (0, 0, x1))]) (st' := []) (M' := M) (C' := True) (by decide +kernel) rfl trivial ?_
  refine ax_pk [2,3,1,0] (lc' := [(0, (2, 0, (b : Int))), (1, (0, 0, x1)), (2, (0, 0, 0)), (3, (0, 0, 0))]) rfl ?_
  refine w_X0_howMany_L4 d b x1 M _  (fun z2 hx_2 => ?_) 16 0 0 (by omega) (by omega)
  refine ax_lump ax_layC ok_kX0 [(34, .iload_n 2, 1, 0, 0, 0)] (pc' := 35) (lc' := [(2, (0, 0, z2))]) (st' := [(0, 0, z2)]) (M' := M) (C' := True) (by decide +kernel) rfl trivial ?_
  exact ax_iret (by decide +kernel) rfl ⟨rfl, rfl, (show (0 : Int) ≤ z2 from by omega), (show z2 ≤ (16 : Int) from by omega)⟩
def f_X0_mostWorn_B4 (b : Nat) (M : ax_M) (i : Nat) (v1 : Int) (kc : Int → Int) (kx : Int → Int) : Int := (if (M (b + 6) i) ≤ (M (b + 6) v1.toNat) then kc v1 else kc (i : Int))
def f_X0_mostWorn_L4 (b : Nat) (M : ax_M) : Nat → Nat → Int → (Int → Int) → Int
  | 0, i, v1, kx => kx v1
  | n + 1, i, v1, kx => f_X0_mostWorn_B4 b M i v1 (fun u1 => f_X0_mostWorn_L4 b M n (i + 1) u1 kx) kx
set_option maxRecDepth 100000 in
set_option maxHeartbeats 4000000 in
theorem wb_X0_mostWorn_B4 (d : Nat) (b : Nat) (M : ax_M) (i : Nat) (v1 : Int) (kc : Int → Int) (kx : Int → Int)  (hi : 1 ≤ i ∧ i < 16) (hv1 : 0 ≤ v1 ∧ v1 ≤ 15) (hkc : ∀ (u1 : Int), 0 ≤ u1 ∧ u1 ≤ 15 → ax_W ax_LC gX0_mostWorn (d + 0) 4 [(0, (2, 0, (b : Int))), (1, (0, 0, u1)), (2, (0, 0, ((i : Int) + 1)))] [] M ((ax_qi 0 15 M) (kc u1))) (hkx : ∀ (x1 : Int), ((0 ≤ x1 ∧ x1 ≤ 15)) → ax_W ax_LC gX0_mostWorn (d + 0) 37 [(1, (0, 0, x1))] [] M ((ax_qi 0 15 M) (kx x1))) : ax_W ax_LC gX0_mostWorn (d + 0) 10 [(0, (2, 0, (b : Int))), (1, (0, 0, v1)), (2, (0, 0, (i : Int)))] [] M ((ax_qi 0 15 M) (f_X0_mostWorn_B4 b M i v1 kc kx)) := by
  unfold f_X0_mostWorn_B4
  refine ax_lump ax_layC ok_kX0 [(10, .aload_n 0, 1, 0, 0, 0), (11, .getfield 27, 3, 0, 5, 0), (14, .iload_n 2, 1, 0, 0, 0), (15, .iaload, 1, 0, 0, 0), (16, .aload_n 0, 1, 0, 0, 0), (17, .getfield 27, 3, 0, 5, 0), (20, .iload_n 1, 1, 0, 0, 0), (21, .iaload, 1, 0, 0, 0)] (pc' := 22) (lc' := [(0, (2, 0, (b : Int))), (1, (0, 0, v1)), (2, (0, 0, (i : Int)))]) (st' := [(0, 0, (M (b + 6) v1.toNat)), (0, 0, (M (b + 6) i))]) (M' := M) (C' := ((True ∧ (0 ≤ (i : Int) ∧ (i : Int) < ((16 : Nat) : Int))) ∧ (0 ≤ v1 ∧ v1 < ((16 : Nat) : Int)))) (by decide +kernel) rfl ⟨⟨trivial, by omega⟩, by omega⟩ ?_
  refine ax_jle (off := 7) (tgt := 29) (by decide +kernel) (by decide) (fun h1 => ?_) (fun h1 => ?_)
  · refine ax_lump ax_layC ok_kX0 [(29, .iload_n 1, 1, 0, 0, 0), (30, .istore_n 1, 1, 0, 0, 0), (31, .iinc 2 1, 3, 1, 0, 0), (34, .goto (-30), 3, 4, 0, 0)] (pc' := 4) (lc' := [(2, (0, 0, ((i : Int) + 1))), (1, (0, 0, v1)), (0, (2, 0, (b : Int)))]) (st' := []) (M' := M) (C' := (True ∧ ax_r32 ((i : Int) + 1))) (by decide +kernel) rfl ⟨trivial, ⟨by omega, by omega⟩⟩ ?_
    refine ax_pk [2,1,0] (lc' := [(0, (2, 0, (b : Int))), (1, (0, 0, v1)), (2, (0, 0, ((i : Int) + 1)))]) rfl ?_
    exact hkc v1 (by omega)
  · refine ax_lump ax_layC ok_kX0 [(25, .iload_n 2, 1, 0, 0, 0), (26, .goto 4, 3, 30, 0, 0), (30, .istore_n 1, 1, 0, 0, 0), (31, .iinc 2 1, 3, 1, 0, 0), (34, .goto (-30), 3, 4, 0, 0)] (pc' := 4) (lc' := [(2, (0, 0, ((i : Int) + 1))), (1, (0, 0, (i : Int))), (0, (2, 0, (b : Int)))]) (st' := []) (M' := M) (C' := (True ∧ ax_r32 ((i : Int) + 1))) (by decide +kernel) rfl ⟨trivial, ⟨by omega, by omega⟩⟩ ?_
    refine ax_pk [2,1,0] (lc' := [(0, (2, 0, (b : Int))), (1, (0, 0, (i : Int))), (2, (0, 0, ((i : Int) + 1)))]) rfl ?_
    exact hkc (i : Int) (by omega)
set_option maxRecDepth 100000 in
set_option maxHeartbeats 4000000 in
theorem w_X0_mostWorn_L4 (d : Nat) (b : Nat) (M : ax_M) (kx : Int → Int)  (hkx : ∀ (x1 : Int), ((0 ≤ x1 ∧ x1 ≤ 15)) → ax_W ax_LC gX0_mostWorn (d + 0) 37 [(1, (0, 0, x1))] [] M ((ax_qi 0 15 M) (kx x1))) : ∀ (n : Nat) (i : Nat) (v1 : Int), 1 ≤ i ∧ i + n = 16 → 0 ≤ v1 ∧ v1 ≤ 15 → ax_W ax_LC gX0_mostWorn (d + 0) 4 [(0, (2, 0, (b : Int))), (1, (0, 0, v1)), (2, (0, 0, (i : Int)))] [] M ((ax_qi 0 15 M) (f_X0_mostWorn_L4 b M n i v1 kx)) := by
  intro n
  induction n with
  | zero =>
    intro i v1 hin hv1
    refine ax_lump ax_layC ok_kX0 [(4, .iload_n 2, 1, 0, 0, 0), (5, .bipush 16, 2, 0, 0, 0)] (pc' := 7) (lc' := [(0, (2, 0, (b : Int))), (1, (0, 0, v1)), (2, (0, 0, (i : Int)))]) (st' := [(0, 0, 16), (0, 0, (i : Int))]) (M' := M) (C' := True) (by decide +kernel) rfl trivial ?_
    refine ax_icmp_ge (off := 30) (tgt := 37) (by decide +kernel) (by decide) (fun h => ?_) (fun h => ?_)
    · refine ax_pk [1] (lc' := [(1, (0, 0, v1))]) rfl ?_
      exact hkx v1 (by omega)
    · exfalso; omega
  | succ n ih =>
    intro i v1 hin hv1
    refine ax_lump ax_layC ok_kX0 [(4, .iload_n 2, 1, 0, 0, 0), (5, .bipush 16, 2, 0, 0, 0)] (pc' := 7) (lc' := [(0, (2, 0, (b : Int))), (1, (0, 0, v1)), (2, (0, 0, (i : Int)))]) (st' := [(0, 0, 16), (0, 0, (i : Int))]) (M' := M) (C' := True) (by decide +kernel) rfl trivial ?_
    refine ax_icmp_ge (off := 30) (tgt := 37) (by decide +kernel) (by decide) (fun h => ?_) (fun h => ?_)
    · exfalso; omega
    · exact wb_X0_mostWorn_B4 d b M i v1 _ kx  (by omega) hv1 (fun u1 hu1 => ih (i + 1) u1 (by omega) hu1) hkx
def f_X0_mostWorn (b : Nat) (M : ax_M) : Int := f_X0_mostWorn_L4 b M 15 1 0 (fun z2 => z2)
set_option maxRecDepth 100000 in
set_option maxHeartbeats 4000000 in
theorem c_X0_mostWorn (d : Nat) (b : Nat) (M : ax_M)  : ax_Met ax_LC gX0_mostWorn (d + 0) [(2, 0, (b : Int))] M ((ax_qi 0 15 M) (f_X0_mostWorn b M)) := by
  refine ax_body (by decide) (fun X => Nat.le_of_ble_eq_true rfl) (fun hok => ?_)
  show ax_W ax_LC gX0_mostWorn (d + 0) 0 [(0, (2, 0, (b : Int)))] [] M _
  unfold f_X0_mostWorn
  refine ax_lump ax_layC ok_kX0 [(0, .iconst 0, 1, 0, 0, 0), (1, .istore_n 1, 1, 0, 0, 0), (2, .iconst 1, 1, 0, 0, 0), (3, .istore_n 2, 1, 0, 0, 0)] (pc' := 4) (lc' := [(2, (0, 0, 1)), (1, (0, 0, 0)), (0, (2, 0, (b : Int)))]) (st' := []) (M' := M) (C' := True) (by decide +kernel) rfl trivial ?_
  refine ax_pk [2,1,0] (lc' := [(0, (2, 0, (b : Int))), (1, (0, 0, 0)), (2, (0, 0, 1))]) rfl ?_
  refine w_X0_mostWorn_L4 d b M _  (fun z2 hx_2 => ?_) 15 1 0 (by omega) (by omega)
  refine ax_lump ax_layC ok_kX0 [(37, .iload_n 1, 1, 0, 0, 0)] (pc' := 38) (lc' := [(1, (0, 0, z2))]) (st' := [(0, 0, z2)]) (M' := M) (C' := True) (by decide +kernel) rfl trivial ?_
  exact ax_iret (by decide +kernel) rfl ⟨rfl, rfl, (show (0 : Int) ≤ z2 from by omega), (show z2 ≤ (15 : Int) from by omega)⟩
def f_X0_leastWorn_B4 (b : Nat) (M : ax_M) (i : Nat) (v1 : Int) (kc : Int → Int) (kx : Int → Int) : Int := (if (M (b + 6) v1.toNat) ≤ (M (b + 6) i) then kc v1 else kc (i : Int))
def f_X0_leastWorn_L4 (b : Nat) (M : ax_M) : Nat → Nat → Int → (Int → Int) → Int
  | 0, i, v1, kx => kx v1
  | n + 1, i, v1, kx => f_X0_leastWorn_B4 b M i v1 (fun u1 => f_X0_leastWorn_L4 b M n (i + 1) u1 kx) kx
set_option maxRecDepth 100000 in
set_option maxHeartbeats 4000000 in
theorem wb_X0_leastWorn_B4 (d : Nat) (b : Nat) (M : ax_M) (i : Nat) (v1 : Int) (kc : Int → Int) (kx : Int → Int)  (hi : 1 ≤ i ∧ i < 16) (hv1 : 0 ≤ v1 ∧ v1 ≤ 15) (hkc : ∀ (u1 : Int), 0 ≤ u1 ∧ u1 ≤ 15 → ax_W ax_LC gX0_leastWorn (d + 0) 4 [(0, (2, 0, (b : Int))), (1, (0, 0, u1)), (2, (0, 0, ((i : Int) + 1)))] [] M ((ax_qi 0 15 M) (kc u1))) (hkx : ∀ (x1 : Int), ((0 ≤ x1 ∧ x1 ≤ 15)) → ax_W ax_LC gX0_leastWorn (d + 0) 37 [(1, (0, 0, x1))] [] M ((ax_qi 0 15 M) (kx x1))) : ax_W ax_LC gX0_leastWorn (d + 0) 10 [(0, (2, 0, (b : Int))), (1, (0, 0, v1)), (2, (0, 0, (i : Int)))] [] M ((ax_qi 0 15 M) (f_X0_leastWorn_B4 b M i v1 kc kx)) := by
  unfold f_X0_leastWorn_B4
  refine ax_lump ax_layC ok_kX0 [(10, .aload_n 0, 1, 0, 0, 0), (11, .getfield 27, 3, 0, 5, 0), (14, .iload_n 2, 1, 0, 0, 0), (15, .iaload, 1, 0, 0, 0), (16, .aload_n 0, 1, 0, 0, 0), (17, .getfield 27, 3, 0, 5, 0), (20, .iload_n 1, 1, 0, 0, 0), (21, .iaload, 1, 0, 0, 0)] (pc' := 22) (lc' := [(0, (2, 0, (b : Int))), (1, (0, 0, v1)), (2, (0, 0, (i : Int)))]) (st' := [(0, 0, (M (b + 6) v1.toNat)), (0, 0, (M (b + 6) i))]) (M' := M) (C' := ((True ∧ (0 ≤ (i : Int) ∧ (i : Int) < ((16 : Nat) : Int))) ∧ (0 ≤ v1 ∧ v1 < ((16 : Nat) : Int)))) (by decide +kernel) rfl ⟨⟨trivial, by omega⟩, by omega⟩ ?_
  refine ax_jge (off := 7) (tgt := 29) (by decide +kernel) (by decide) (fun h1 => ?_) (fun h1 => ?_)
  · refine ax_lump ax_layC ok_kX0 [(29, .iload_n 1, 1, 0, 0, 0), (30, .istore_n 1, 1, 0, 0, 0), (31, .iinc 2 1, 3, 1, 0, 0), (34, .goto (-30), 3, 4, 0, 0)] (pc' := 4) (lc' := [(2, (0, 0, ((i : Int) + 1))), (1, (0, 0, v1)), (0, (2, 0, (b : Int)))]) (st' := []) (M' := M) (C' := (True ∧ ax_r32 ((i : Int) + 1))) (by decide +kernel) rfl ⟨trivial, ⟨by omega, by omega⟩⟩ ?_
    refine ax_pk [2,1,0] (lc' := [(0, (2, 0, (b : Int))), (1, (0, 0, v1)), (2, (0, 0, ((i : Int) + 1)))]) rfl ?_
    exact hkc v1 (by omega)
  · refine ax_lump ax_layC ok_kX0 [(25, .iload_n 2, 1, 0, 0, 0), (26, .goto 4, 3, 30, 0, 0), (30, .istore_n 1, 1, 0, 0, 0), (31, .iinc 2 1, 3, 1, 0, 0), (34, .goto (-30), 3, 4, 0, 0)] (pc' := 4) (lc' := [(2, (0, 0, ((i : Int) + 1))), (1, (0, 0, (i : Int))), (0, (2, 0, (b : Int)))]) (st' := []) (M' := M) (C' := (True ∧ ax_r32 ((i : Int) + 1))) (by decide +kernel) rfl ⟨trivial, ⟨by omega, by omega⟩⟩ ?_
    refine ax_pk [2,1,0] (lc' := [(0, (2, 0, (b : Int))), (1, (0, 0, (i : Int))), (2, (0, 0, ((i : Int) + 1)))]) rfl ?_
    exact hkc (i : Int) (by omega)
set_option maxRecDepth 100000 in
set_option maxHeartbeats 4000000 in
theorem w_X0_leastWorn_L4 (d : Nat) (b : Nat) (M : ax_M) (kx : Int → Int)  (hkx : ∀ (x1 : Int), ((0 ≤ x1 ∧ x1 ≤ 15)) → ax_W ax_LC gX0_leastWorn (d + 0) 37 [(1, (0, 0, x1))] [] M ((ax_qi 0 15 M) (kx x1))) : ∀ (n : Nat) (i : Nat) (v1 : Int), 1 ≤ i ∧ i + n = 16 → 0 ≤ v1 ∧ v1 ≤ 15 → ax_W ax_LC gX0_leastWorn (d + 0) 4 [(0, (2, 0, (b : Int))), (1, (0, 0, v1)), (2, (0, 0, (i : Int)))] [] M ((ax_qi 0 15 M) (f_X0_leastWorn_L4 b M n i v1 kx)) := by
  intro n
  induction n with
  | zero =>
    intro i v1 hin hv1
    refine ax_lump ax_layC ok_kX0 [(4, .iload_n 2, 1, 0, 0, 0), (5, .bipush 16, 2, 0, 0, 0)] (pc' := 7) (lc' := [(0, (2, 0, (b : Int))), (1, (0, 0, v1)), (2, (0, 0, (i : Int)))]) (st' := [(0, 0, 16), (0, 0, (i : Int))]) (M' := M) (C' := True) (by decide +kernel) rfl trivial ?_
    refine ax_icmp_ge (off := 30) (tgt := 37) (by decide +kernel) (by decide) (fun h => ?_) (fun h => ?_)
    · refine ax_pk [1] (lc' := [(1, (0, 0, v1))]) rfl ?_
      exact hkx v1 (by omega)
    · exfalso; omega
  | succ n ih =>
    intro i v1 hin hv1
    refine ax_lump ax_layC ok_kX0 [(4, .iload_n 2, 1, 0, 0, 0), (5, .bipush 16, 2, 0, 0, 0)] (pc' := 7) (lc' := [(0, (2, 0, (b : Int))), (1, (0, 0, v1)), (2, (0, 0, (i : Int)))]) (st' := [(0, 0, 16), (0, 0, (i : Int))]) (M' := M) (C' := True) (by decide +kernel) rfl trivial ?_
    refine ax_icmp_ge (off := 30) (tgt := 37) (by decide +kernel) (by decide) (fun h => ?_) (fun h => ?_)
    · exfalso; omega
    · exact wb_X0_leastWorn_B4 d b M i v1 _ kx  (by omega) hv1 (fun u1 hu1 => ih (i + 1) u1 (by omega) hu1) hkx
def f_X0_leastWorn (b : Nat) (M : ax_M) : Int := f_X0_leastWorn_L4 b M 15 1 0 (fun z2 => z2)
set_option maxRecDepth 100000 in
set_option maxHeartbeats 4000000 in
theorem c_X0_leastWorn (d : Nat) (b : Nat) (M : ax_M)  : ax_Met ax_LC gX0_leastWorn (d + 0) [(2, 0, (b : Int))] M ((ax_qi 0 15 M) (f_X0_leastWorn b M)) := by
  refine ax_body (by decide) (fun X => Nat.le_of_ble_eq_true rfl) (fun hok => ?_)
  show ax_W ax_LC gX0_leastWorn (d + 0) 0 [(0, (2, 0, (b : Int)))] [] M _
  unfold f_X0_leastWorn
  refine ax_lump ax_layC ok_kX0 [(0, .iconst 0, 1, 0, 0, 0), (1, .istore_n 1, 1, 0, 0, 0), (2, .iconst 1, 1, 0, 0, 0), (3, .istore_n 2, 1, 0, 0, 0)] (pc' := 4) (lc' := [(2, (0, 0, 1)), (1, (0, 0, 0)), (0, (2, 0, (b : Int)))]) (st' := []) (M' := M) (C' := True) (by decide +kernel) rfl trivial ?_
  refine ax_pk [2,1,0] (lc' := [(0, (2, 0, (b : Int))), (1, (0, 0, 0)), (2, (0, 0, 1))]) rfl ?_
  refine w_X0_leastWorn_L4 d b M _  (fun z2 hx_2 => ?_) 15 1 0 (by omega) (by omega)
  refine ax_lump ax_layC ok_kX0 [(37, .iload_n 1, 1, 0, 0, 0)] (pc' := 38) (lc' := [(1, (0, 0, z2))]) (st' := [(0, 0, z2)]) (M' := M) (C' := True) (by decide +kernel) rfl trivial ?_
  exact ax_iret (by decide +kernel) rfl ⟨rfl, rfl, (show (0 : Int) ≤ z2 from by omega), (show z2 ≤ (15 : Int) from by omega)⟩
def f_X0_wear (b : Nat) (M : ax_M) : Int := (ax_wr ((M (b + 6) (f_X0_mostWorn b M).toNat) - (M (b + 6) (f_X0_leastWorn b M).toNat)))
set_option maxRecDepth 100000 in
set_option maxHeartbeats 4000000 in
theorem c_X0_wear (d : Nat) (b : Nat) (M : ax_M)  : ax_Met ax_LC gX0_wear (d + 1) [(2, 0, (b : Int))] M ((ax_qi (-2147483648) 2147483647 M) (f_X0_wear b M)) := by
  refine ax_body (by decide) (fun X => Nat.le_of_ble_eq_true rfl) (fun hok => ?_)
  show ax_W ax_LC gX0_wear (d + 1) 0 [(0, (2, 0, (b : Int)))] [] M _
  unfold f_X0_wear
  refine ax_lump ax_layC ok_kX0 [(0, .aload_n 0, 1, 0, 0, 0), (1, .getfield 27, 3, 0, 5, 0), (4, .aload_n 0, 1, 0, 0, 0)] (pc' := 5) (lc' := [(0, (2, 0, (b : Int)))]) (st' := [(2, 0, (b : Int)), (3, 16, ((b : Int) + 6))]) (M' := M) (C' := True) (by decide +kernel) rfl trivial ?_
  refine ax_cVi (G1 := gX0_mostWorn) (d1 := d + 0) (i := 183) (n := 0) (as := []) (st := [(3, 16, ((b : Int) + 6))]) (c := 0) (a := (b : Int)) (by decide +kernel) ax_cls0 calX0_mostWorn (by omega) rfl wt_482 wt_484 ws_39 (Nat.le_of_ble_eq_true rfl) rfl (c_X0_mostWorn d b M) (fun hc1 => ?_)
  refine ax_lump ax_layC ok_kX0 [(8, .iaload, 1, 0, 0, 0), (9, .aload_n 0, 1, 0, 0, 0), (10, .getfield 27, 3, 0, 5, 0), (13, .aload_n 0, 1, 0, 0, 0)] (pc' := 14) (lc' := [(0, (2, 0, (b : Int)))]) (st' := [(2, 0, (b : Int)), (3, 16, ((b : Int) + 6)), (0, 0, (M (b + 6) (f_X0_mostWorn b M).toNat))]) (M' := M) (C' := (True ∧ (0 ≤ (f_X0_mostWorn b M) ∧ (f_X0_mostWorn b M) < ((16 : Nat) : Int)))) (by decide +kernel) rfl ⟨trivial, by omega⟩ ?_
  refine ax_cVi (G1 := gX0_leastWorn) (d1 := d + 0) (i := 186) (n := 0) (as := []) (st := [(3, 16, ((b : Int) + 6)), (0, 0, (M (b + 6) (f_X0_mostWorn b M).toNat))]) (c := 0) (a := (b : Int)) (by decide +kernel) ax_cls0 calX0_leastWorn (by omega) rfl wt_486 wt_488 ws_40 (Nat.le_of_ble_eq_true rfl) rfl (c_X0_leastWorn d b M) (fun hc2 => ?_)
  refine ax_lump ax_layC ok_kX0 [(17, .iaload, 1, 0, 0, 0), (18, .isub, 1, 0, 0, 0)] (pc' := 19) (lc' := [(0, (2, 0, (b : Int)))]) (st' := [(0, 0, (ax_wr ((M (b + 6) (f_X0_mostWorn b M).toNat) - (M (b + 6) (f_X0_leastWorn b M).toNat))))]) (M' := M) (C' := (True ∧ (0 ≤ (f_X0_leastWorn b M) ∧ (f_X0_leastWorn b M) < ((16 : Nat) : Int)))) (by decide +kernel) rfl ⟨trivial, by omega⟩ ?_
  refine ax_rngS (fun hr => ?_)
  exact ax_iret (by decide +kernel) rfl ⟨rfl, rfl, hr.1, hr.2⟩
def f_X0_wipesOfAll_B4 (b : Nat) (M : ax_M) (i : Nat) (v1 : Int) (kc : Int → Int) (kx : Int → Int) : Int := kc (ax_wr (v1 + (M (b + 6) i)))
def f_X0_wipesOfAll_L4 (b : Nat) (M : ax_M) : Nat → Nat → Int → (Int → Int) → Int
  | 0, i, v1, kx => kx v1
  | n + 1, i, v1, kx => f_X0_wipesOfAll_B4 b M i v1 (fun u1 => f_X0_wipesOfAll_L4 b M n (i + 1) u1 kx) kx
set_option maxRecDepth 100000 in
set_option maxHeartbeats 4000000 in
theorem wb_X0_wipesOfAll_B4 (d : Nat) (b : Nat) (M : ax_M) (i : Nat) (v1 : Int) (kc : Int → Int) (kx : Int → Int)  (hi : 0 ≤ i ∧ i < 16)  (hkc : ∀ (u1 : Int), ax_W ax_LC gX0_wipesOfAll (d + 0) 4 [(0, (2, 0, (b : Int))), (1, (0, 0, u1)), (2, (0, 0, ((i : Int) + 1)))] [] M ((ax_qi (-2147483648) 2147483647 M) (kc u1))) (hkx : ∀ (x1 : Int), (True) → ax_W ax_LC gX0_wipesOfAll (d + 0) 25 [(1, (0, 0, x1))] [] M ((ax_qi (-2147483648) 2147483647 M) (kx x1))) : ax_W ax_LC gX0_wipesOfAll (d + 0) 10 [(0, (2, 0, (b : Int))), (1, (0, 0, v1)), (2, (0, 0, (i : Int)))] [] M ((ax_qi (-2147483648) 2147483647 M) (f_X0_wipesOfAll_B4 b M i v1 kc kx)) := by
  unfold f_X0_wipesOfAll_B4
  refine ax_lump ax_layC ok_kX0 [(10, .iload_n 1, 1, 0, 0, 0), (11, .aload_n 0, 1, 0, 0, 0), (12, .getfield 27, 3, 0, 5, 0), (15, .iload_n 2, 1, 0, 0, 0), (16, .iaload, 1, 0, 0, 0), (17, .iadd, 1, 0, 0, 0), (18, .istore_n 1, 1, 0, 0, 0), (19, .iinc 2 1, 3, 1, 0, 0), (22, .goto (-18), 3, 4, 0, 0)] (pc' := 4) (lc' := [(2, (0, 0, ((i : Int) + 1))), (1, (0, 0, (ax_wr (v1 + (M (b + 6) i))))), (0, (2, 0, (b : Int)))]) (st' := []) (M' := M) (C' := ((True ∧ (0 ≤ (i : Int) ∧ (i : Int) < ((16 : Nat) : Int))) ∧ ax_r32 ((i : Int) + 1))) (by decide +kernel) rfl ⟨⟨trivial, by omega⟩, ⟨by omega, by omega⟩⟩ ?_
  refine ax_pk [2,1,0] (lc' := [(0, (2, 0, (b : Int))), (1, (0, 0, (ax_wr (v1 + (M (b + 6) i))))), (2, (0, 0, ((i : Int) + 1)))]) rfl ?_
  exact hkc (ax_wr (v1 + (M (b + 6) i))) 
set_option maxRecDepth 100000 in
set_option maxHeartbeats 4000000 in
theorem w_X0_wipesOfAll_L4 (d : Nat) (b : Nat) (M : ax_M) (kx : Int → Int)  (hkx : ∀ (x1 : Int), (True) → ax_W ax_LC gX0_wipesOfAll (d + 0) 25 [(1, (0, 0, x1))] [] M ((ax_qi (-2147483648) 2147483647 M) (kx x1))) : ∀ (n : Nat) (i : Nat) (v1 : Int), 0 ≤ i ∧ i + n = 16 → ax_W ax_LC gX0_wipesOfAll (d + 0) 4 [(0, (2, 0, (b : Int))), (1, (0, 0, v1)), (2, (0, 0, (i : Int)))] [] M ((ax_qi (-2147483648) 2147483647 M) (f_X0_wipesOfAll_L4 b M n i v1 kx)) := by
  intro n
  induction n with
  | zero =>
    intro i v1 hin
    refine ax_lump ax_layC ok_kX0 [(4, .iload_n 2, 1, 0, 0, 0), (5, .bipush 16, 2, 0, 0, 0)] (pc' := 7) (lc' := [(0, (2, 0, (b : Int))), (1, (0, 0, v1)), (2, (0, 0, (i : Int)))]) (st' := [(0, 0, 16), (0, 0, (i : Int))]) (M' := M) (C' := True) (by decide +kernel) rfl trivial ?_
    refine ax_icmp_ge (off := 18) (tgt := 25) (by decide +kernel) (by decide) (fun h => ?_) (fun h => ?_)
    · refine ax_pk [1] (lc' := [(1, (0, 0, v1))]) rfl ?_
      exact hkx v1 trivial
    · exfalso; omega
  | succ n ih =>
    intro i v1 hin
    refine ax_lump ax_layC ok_kX0 [(4, .iload_n 2, 1, 0, 0, 0), (5, .bipush 16, 2, 0, 0, 0)] (pc' := 7) (lc' := [(0, (2, 0, (b : Int))), (1, (0, 0, v1)), (2, (0, 0, (i : Int)))]) (st' := [(0, 0, 16), (0, 0, (i : Int))]) (M' := M) (C' := True) (by decide +kernel) rfl trivial ?_
    refine ax_icmp_ge (off := 18) (tgt := 25) (by decide +kernel) (by decide) (fun h => ?_) (fun h => ?_)
    · exfalso; omega
    · exact wb_X0_wipesOfAll_B4 d b M i v1 _ kx  (by omega)  (fun u1 => ih (i + 1) u1 (by omega) ) hkx
def f_X0_wipesOfAll (b : Nat) (M : ax_M) : Int := f_X0_wipesOfAll_L4 b M 16 0 0 (fun z1 => z1)
set_option maxRecDepth 100000 in
set_option maxHeartbeats 4000000 in
theorem c_X0_wipesOfAll (d : Nat) (b : Nat) (M : ax_M)  : ax_Met ax_LC gX0_wipesOfAll (d + 0) [(2, 0, (b : Int))] M ((ax_qi (-2147483648) 2147483647 M) (f_X0_wipesOfAll b M)) := by
  refine ax_body (by decide) (fun X => Nat.le_of_ble_eq_true rfl) (fun hok => ?_)
  show ax_W ax_LC gX0_wipesOfAll (d + 0) 0 [(0, (2, 0, (b : Int)))] [] M _
  unfold f_X0_wipesOfAll
  refine ax_lump ax_layC ok_kX0 [(0, .iconst 0, 1, 0, 0, 0), (1, .istore_n 1, 1, 0, 0, 0), (2, .iconst 0, 1, 0, 0, 0), (3, .istore_n 2, 1, 0, 0, 0)] (pc' := 4) (lc' := [(2, (0, 0, 0)), (1, (0, 0, 0)), (0, (2, 0, (b : Int)))]) (st' := []) (M' := M) (C' := True) (by decide +kernel) rfl trivial ?_
  refine ax_pk [2,1,0] (lc' := [(0, (2, 0, (b : Int))), (1, (0, 0, 0)), (2, (0, 0, 0))]) rfl ?_
  refine w_X0_wipesOfAll_L4 d b M _  (fun z1 hx_1 => ?_) 16 0 0 (by omega) 
  refine ax_lump ax_layC ok_kX0 [(25, .iload_n 1, 1, 0, 0, 0)] (pc' := 26) (lc' := [(1, (0, 0, z1))]) (st' := [(0, 0, z1)]) (M' := M) (C' := True) (by decide +kernel) rfl trivial ?_
  refine ax_rngS (fun hr => ?_)
  exact ax_iret (by decide +kernel) rfl ⟨rfl, rfl, hr.1, hr.2⟩
def f_X0_wornTo_B2 (b : Nat) (w1 : Int) (M : ax_M) (i : Nat)  (kc : Unit → Int) (kx : Unit → Int) : Int := (if (M (b + 6) i) < w1 then kc () else (i : Int))
def f_X0_wornTo_L2 (b : Nat) (w1 : Int) (M : ax_M) : Nat → Nat → (Unit → Int) → Int
  | 0, i, kx => kx ()
  | n + 1, i, kx => f_X0_wornTo_B2 b w1 M i  (fun _ => f_X0_wornTo_L2 b w1 M n (i + 1)  kx) kx
set_option maxRecDepth 100000 in
set_option maxHeartbeats 4000000 in
theorem wb_X0_wornTo_B2 (d : Nat) (b : Nat) (w1 : Int) (M : ax_M) (i : Nat)  (kc : Unit → Int) (kx : Unit → Int)  (hi : 0 ≤ i ∧ i < 16)  (hkc : ∀ (_ : Unit), ax_W ax_LC gX0_wornTo (d + 0) 2 [(0, (2, 0, (b : Int))), (1, (0, 0, w1)), (2, (0, 0, ((i : Int) + 1)))] [] M ((ax_qi (-1) 15 M) (kc ()))) (hkx : ∀ (_ : Unit), (True) → ax_W ax_LC gX0_wornTo (d + 0) 26 [] [] M ((ax_qi (-1) 15 M) (kx ()))) : ax_W ax_LC gX0_wornTo (d + 0) 8 [(0, (2, 0, (b : Int))), (1, (0, 0, w1)), (2, (0, 0, (i : Int)))] [] M ((ax_qi (-1) 15 M) (f_X0_wornTo_B2 b w1 M i  kc kx)) := by
  unfold f_X0_wornTo_B2
  refine ax_lump ax_layC ok_kX0 [(8, .aload_n 0, 1, 0, 0, 0), (9, .getfield 27, 3, 0, 5, 0), (12, .iload_n 2, 1, 0, 0, 0), (13, .iaload, 1, 0, 0, 0), (14, .iload_n 1, 1, 0, 0, 0)] (pc' := 15) (lc' := [(0, (2, 0, (b : Int))), (1, (0, 0, w1)), (2, (0, 0, (i : Int)))]) (st' := [(0, 0, w1), (0, 0, (M (b + 6) i))]) (M' := M) (C' := (True ∧ (0 ≤ (i : Int) ∧ (i : Int) < ((16 : Nat) : Int)))) (by decide +kernel) rfl ⟨trivial, by omega⟩ ?_
  refine ax_jlt (off := 5) (tgt := 20) (by decide +kernel) (by decide) (fun h1 => ?_) (fun h1 => ?_)
  · refine ax_lump ax_layC ok_kX0 [(20, .iinc 2 1, 3, 1, 0, 0), (23, .goto (-21), 3, 2, 0, 0)] (pc' := 2) (lc' := [(2, (0, 0, ((i : Int) + 1))), (0, (2, 0, (b : Int))), (1, (0, 0, w1))]) (st' := []) (M' := M) (C' := (True ∧ ax_r32 ((i : Int) + 1))) (by decide +kernel) rfl ⟨trivial, ⟨by omega, by omega⟩⟩ ?_
    refine ax_pk [1,2,0] (lc' := [(0, (2, 0, (b : Int))), (1, (0, 0, w1)), (2, (0, 0, ((i : Int) + 1)))]) rfl ?_
    exact hkc () 
  · refine ax_lump ax_layC ok_kX0 [(18, .iload_n 2, 1, 0, 0, 0)] (pc' := 19) (lc' := [(0, (2, 0, (b : Int))), (1, (0, 0, w1)), (2, (0, 0, (i : Int)))]) (st' := [(0, 0, (i : Int))]) (M' := M) (C' := True) (by decide +kernel) rfl trivial ?_
    exact ax_iret (by decide +kernel) rfl ⟨rfl, rfl, (show ((-1) : Int) ≤ (i : Int) from by omega), (show (i : Int) ≤ (15 : Int) from by omega)⟩
set_option maxRecDepth 100000 in
set_option maxHeartbeats 4000000 in
theorem w_X0_wornTo_L2 (d : Nat) (b : Nat) (w1 : Int) (M : ax_M) (kx : Unit → Int)  (hkx : ∀ (_ : Unit), (True) → ax_W ax_LC gX0_wornTo (d + 0) 26 [] [] M ((ax_qi (-1) 15 M) (kx ()))) : ∀ (n : Nat) (i : Nat), 0 ≤ i ∧ i + n = 16 → ax_W ax_LC gX0_wornTo (d + 0) 2 [(0, (2, 0, (b : Int))), (1, (0, 0, w1)), (2, (0, 0, (i : Int)))] [] M ((ax_qi (-1) 15 M) (f_X0_wornTo_L2 b w1 M n i  kx)) := by
  intro n
  induction n with
  | zero =>
    intro i hin
    refine ax_lump ax_layC ok_kX0 [(2, .iload_n 2, 1, 0, 0, 0), (3, .bipush 16, 2, 0, 0, 0)] (pc' := 5) (lc' := [(0, (2, 0, (b : Int))), (1, (0, 0, w1)), (2, (0, 0, (i : Int)))]) (st' := [(0, 0, 16), (0, 0, (i : Int))]) (M' := M) (C' := True) (by decide +kernel) rfl trivial ?_
    refine ax_icmp_ge (off := 21) (tgt := 26) (by decide +kernel) (by decide) (fun h => ?_) (fun h => ?_)
    · refine ax_pk [] (lc' := []) rfl ?_
      exact hkx () trivial
    · exfalso; omega
  | succ n ih =>
    intro i hin
    refine ax_lump ax_layC ok_kX0 [(2, .iload_n 2, 1, 0, 0, 0), (3, .bipush 16, 2, 0, 0, 0)] (pc' := 5) (lc' := [(0, (2, 0, (b : Int))), (1, (0, 0, w1)), (2, (0, 0, (i : Int)))]) (st' := [(0, 0, 16), (0, 0, (i : Int))]) (M' := M) (C' := True) (by decide +kernel) rfl trivial ?_
    refine ax_icmp_ge (off := 21) (tgt := 26) (by decide +kernel) (by decide) (fun h => ?_) (fun h => ?_)
    · exfalso; omega
    · exact wb_X0_wornTo_B2 d b w1 M i  _ kx  (by omega)  (fun _ => ih (i + 1)  (by omega) ) hkx
def f_X0_wornTo (b : Nat) (x1 : Int) (M : ax_M) : Int := f_X0_wornTo_L2 b x1 M 16 0  (fun (_ : Unit) => (-1))
set_option maxRecDepth 100000 in
set_option maxHeartbeats 4000000 in
theorem c_X0_wornTo (d : Nat) (b : Nat) (x1 : Int) (M : ax_M)  : ax_Met ax_LC gX0_wornTo (d + 0) [(2, 0, (b : Int)), (0, 0, x1)] M ((ax_qi (-1) 15 M) (f_X0_wornTo b x1 M)) := by
  refine ax_body (by decide) (fun X => Nat.le_of_ble_eq_true rfl) (fun hok => ?_)
  have hr_x1 : (-2147483648) ≤ x1 ∧ x1 ≤ 2147483647 := hok (0, 0, x1) (by simp)
  show ax_W ax_LC gX0_wornTo (d + 0) 0 [(0, (2, 0, (b : Int))), (1, (0, 0, x1))] [] M _
  unfold f_X0_wornTo
  refine ax_lump ax_layC ok_kX0 [(0, .iconst 0, 1, 0, 0, 0), (1, .istore_n 2, 1, 0, 0, 0)] (pc' := 2) (lc' := [(2, (0, 0, 0)), (0, (2, 0, (b : Int))), (1, (0, 0, x1))]) (st' := []) (M' := M) (C' := True) (by decide +kernel) rfl trivial ?_
  refine ax_pk [1,2,0] (lc' := [(0, (2, 0, (b : Int))), (1, (0, 0, x1)), (2, (0, 0, 0))]) rfl ?_
  refine w_X0_wornTo_L2 d b x1 M _  (fun _ hx_1 => ?_) 16 0  (by omega) 
  refine ax_lump ax_layC ok_kX0 [(26, .iconst (-1), 1, 0, 0, 0)] (pc' := 27) (lc' := []) (st' := [(0, 0, (-1))]) (M' := M) (C' := True) (by decide +kernel) rfl trivial ?_
  exact ax_iret (by decide +kernel) rfl ⟨rfl, rfl, (show ((-1) : Int) ≤ (-1) from by omega), (show (-1) ≤ (15 : Int) from by omega)⟩
def f_X0_filled_B2 (b : Nat) (w1 : Int) (M : ax_M) (i : Nat)  (kc : Unit → Int) (kx : Int → Int) : Int := (if w1 < 0 then kx (i : Int) else (if 16 ≤ w1 then kx (i : Int) else (if (M (b + 1) ((w1 * 4) + (i : Int)).toNat) = (-1) then kx (i : Int) else kc ())))
def f_X0_filled_L2 (b : Nat) (w1 : Int) (M : ax_M) : Nat → Nat → (Int → Int) → Int
  | 0, i, kx => kx (i : Int)
  | n + 1, i, kx => f_X0_filled_B2 b w1 M i  (fun _ => f_X0_filled_L2 b w1 M n (i + 1)  kx) kx
set_option maxRecDepth 100000 in
set_option maxHeartbeats 4000000 in
theorem wb_X0_filled_B2 (d : Nat) (b : Nat) (w1 : Int) (M : ax_M) (i : Nat)  (kc : Unit → Int) (kx : Int → Int)  (hi : 0 ≤ i ∧ i < 4)  (hkc : ∀ (_ : Unit), ax_W ax_LC gX0_filled (d + 0) 2 [(0, (2, 0, (b : Int))), (1, (0, 0, w1)), (2, (0, 0, ((i : Int) + 1)))] [] M ((ax_qi 0 4 M) (kc ()))) (hkx : ∀ (x2 : Int), ((0 ≤ x2 ∧ x2 ≤ 4)) → ax_W ax_LC gX0_filled (d + 0) 37 [(2, (0, 0, x2))] [] M ((ax_qi 0 4 M) (kx x2))) : ax_W ax_LC gX0_filled (d + 0) 7 [(0, (2, 0, (b : Int))), (1, (0, 0, w1)), (2, (0, 0, (i : Int)))] [] M ((ax_qi 0 4 M) (f_X0_filled_B2 b w1 M i  kc kx)) := by
  unfold f_X0_filled_B2
  refine ax_lump ax_layC ok_kX0 [(7, .iload_n 1, 1, 0, 0, 0)] (pc' := 8) (lc' := [(0, (2, 0, (b : Int))), (1, (0, 0, w1)), (2, (0, 0, (i : Int)))]) (st' := [(0, 0, w1)]) (M' := M) (C' := True) (by decide +kernel) rfl trivial ?_
  refine ax_zlt (off := 29) (tgt := 37) (by decide +kernel) (by decide) (fun h1 => ?_) (fun h1 => ?_)
  · refine ax_pk [2] (lc' := [(2, (0, 0, (i : Int)))]) rfl ?_
    exact hkx (i : Int) (by omega)
  · refine ax_lump ax_layC ok_kX0 [(11, .iload_n 1, 1, 0, 0, 0), (12, .bipush 16, 2, 0, 0, 0)] (pc' := 14) (lc' := [(0, (2, 0, (b : Int))), (1, (0, 0, w1)), (2, (0, 0, (i : Int)))]) (st' := [(0, 0, 16), (0, 0, w1)]) (M' := M) (C' := True) (by decide +kernel) rfl trivial ?_
    refine ax_jge (off := 23) (tgt := 37) (by decide +kernel) (by decide) (fun h2 => ?_) (fun h2 => ?_)
    · refine ax_pk [2] (lc' := [(2, (0, 0, (i : Int)))]) rfl ?_
      exact hkx (i : Int) (by omega)
    · refine ax_lump ax_layC ok_kX0 [(17, .aload_n 0, 1, 0, 0, 0), (18, .getfield 9, 3, 0, 0, 0), (21, .iload_n 1, 1, 0, 0, 0), (22, .iconst 4, 1, 0, 0, 0), (23, .imul, 1, 1, 0, 0), (24, .iload_n 2, 1, 0, 0, 0), (25, .iadd, 1, 1, 0, 0), (26, .iaload, 1, 0, 0, 0), (27, .iconst (-1), 1, 0, 0, 0)] (pc' := 28) (lc' := [(0, (2, 0, (b : Int))), (1, (0, 0, w1)), (2, (0, 0, (i : Int)))]) (st' := [(0, 0, (-1)), (0, 0, (M (b + 1) ((w1 * 4) + (i : Int)).toNat))]) (M' := M) (C' := (((True ∧ ax_r32 (w1 * 4)) ∧ ax_r32 ((w1 * 4) + (i : Int))) ∧ (0 ≤ ((w1 * 4) + (i : Int)) ∧ ((w1 * 4) + (i : Int)) < ((64 : Nat) : Int)))) (by decide +kernel) rfl ⟨⟨⟨trivial, ⟨by omega, by omega⟩⟩, ⟨by omega, by omega⟩⟩, by omega⟩ ?_
      refine ax_jeq (off := 9) (tgt := 37) (by decide +kernel) (by decide) (fun h3 => ?_) (fun h3 => ?_)
      · refine ax_pk [2] (lc' := [(2, (0, 0, (i : Int)))]) rfl ?_
        exact hkx (i : Int) (by omega)
      · refine ax_lump ax_layC ok_kX0 [(31, .iinc 2 1, 3, 1, 0, 0), (34, .goto (-32), 3, 2, 0, 0)] (pc' := 2) (lc' := [(2, (0, 0, ((i : Int) + 1))), (0, (2, 0, (b : Int))), (1, (0, 0, w1))]) (st' := []) (M' := M) (C' := (True ∧ ax_r32 ((i : Int) + 1))) (by decide +kernel) rfl ⟨trivial, ⟨by omega, by omega⟩⟩ ?_
        refine ax_pk [1,2,0] (lc' := [(0, (2, 0, (b : Int))), (1, (0, 0, w1)), (2, (0, 0, ((i : Int) + 1)))]) rfl ?_
        exact hkc () 
set_option maxRecDepth 100000 in
set_option maxHeartbeats 4000000 in
theorem w_X0_filled_L2 (d : Nat) (b : Nat) (w1 : Int) (M : ax_M) (kx : Int → Int)  (hkx : ∀ (x2 : Int), ((0 ≤ x2 ∧ x2 ≤ 4)) → ax_W ax_LC gX0_filled (d + 0) 37 [(2, (0, 0, x2))] [] M ((ax_qi 0 4 M) (kx x2))) : ∀ (n : Nat) (i : Nat), 0 ≤ i ∧ i + n = 4 → ax_W ax_LC gX0_filled (d + 0) 2 [(0, (2, 0, (b : Int))), (1, (0, 0, w1)), (2, (0, 0, (i : Int)))] [] M ((ax_qi 0 4 M) (f_X0_filled_L2 b w1 M n i  kx)) := by
  intro n
  induction n with
  | zero =>
    intro i hin
    refine ax_lump ax_layC ok_kX0 [(2, .iload_n 2, 1, 0, 0, 0), (3, .iconst 4, 1, 0, 0, 0)] (pc' := 4) (lc' := [(0, (2, 0, (b : Int))), (1, (0, 0, w1)), (2, (0, 0, (i : Int)))]) (st' := [(0, 0, 4), (0, 0, (i : Int))]) (M' := M) (C' := True) (by decide +kernel) rfl trivial ?_
    refine ax_icmp_ge (off := 33) (tgt := 37) (by decide +kernel) (by decide) (fun h => ?_) (fun h => ?_)
    · refine ax_pk [2] (lc' := [(2, (0, 0, (i : Int)))]) rfl ?_
      exact hkx (i : Int) (by omega)
    · exfalso; omega
  | succ n ih =>
    intro i hin
    refine ax_lump ax_layC ok_kX0 [(2, .iload_n 2, 1, 0, 0, 0), (3, .iconst 4, 1, 0, 0, 0)] (pc' := 4) (lc' := [(0, (2, 0, (b : Int))), (1, (0, 0, w1)), (2, (0, 0, (i : Int)))]) (st' := [(0, 0, 4), (0, 0, (i : Int))]) (M' := M) (C' := True) (by decide +kernel) rfl trivial ?_
    refine ax_icmp_ge (off := 33) (tgt := 37) (by decide +kernel) (by decide) (fun h => ?_) (fun h => ?_)
    · exfalso; omega
    · exact wb_X0_filled_B2 d b w1 M i  _ kx  (by omega)  (fun _ => ih (i + 1)  (by omega) ) hkx
def f_X0_filled (b : Nat) (x1 : Int) (M : ax_M) : Int := f_X0_filled_L2 b x1 M 4 0  (fun z4 => z4)
set_option maxRecDepth 100000 in
set_option maxHeartbeats 4000000 in
theorem c_X0_filled (d : Nat) (b : Nat) (x1 : Int) (M : ax_M)  : ax_Met ax_LC gX0_filled (d + 0) [(2, 0, (b : Int)), (0, 0, x1)] M ((ax_qi 0 4 M) (f_X0_filled b x1 M)) := by
  refine ax_body (by decide) (fun X => Nat.le_of_ble_eq_true rfl) (fun hok => ?_)
  have hr_x1 : (-2147483648) ≤ x1 ∧ x1 ≤ 2147483647 := hok (0, 0, x1) (by simp)
  show ax_W ax_LC gX0_filled (d + 0) 0 [(0, (2, 0, (b : Int))), (1, (0, 0, x1))] [] M _
  unfold f_X0_filled
  refine ax_lump ax_layC ok_kX0 [(0, .iconst 0, 1, 0, 0, 0), (1, .istore_n 2, 1, 0, 0, 0)] (pc' := 2) (lc' := [(2, (0, 0, 0)), (0, (2, 0, (b : Int))), (1, (0, 0, x1))]) (st' := []) (M' := M) (C' := True) (by decide +kernel) rfl trivial ?_
  refine ax_pk [1,2,0] (lc' := [(0, (2, 0, (b : Int))), (1, (0, 0, x1)), (2, (0, 0, 0))]) rfl ?_
  refine w_X0_filled_L2 d b x1 M _  (fun z4 hx_4 => ?_) 4 0  (by omega) 
  refine ax_lump ax_layC ok_kX0 [(37, .iload_n 2, 1, 0, 0, 0)] (pc' := 38) (lc' := [(2, (0, 0, z4))]) (st' := [(0, 0, z4)]) (M' := M) (C' := True) (by decide +kernel) rfl trivial ?_
  exact ax_iret (by decide +kernel) rfl ⟨rfl, rfl, (show (0 : Int) ≤ z4 from by omega), (show z4 ≤ (4 : Int) from by omega)⟩
def f_X0_writtenIn_B4 (b : Nat) (w1 : Int) (M : ax_M) (i : Nat) (v2 : Int) (kc : Int → Int) (kx : Int → Int) : Int := (if w1 < 0 then kx v2 else (if 16 ≤ w1 then kx v2 else (if (M (b + 1) ((w1 * 4) + (i : Int)).toNat) = (-1) then ax_bd (ax_or v2 0) (fun y4 => kc y4) else ax_bd (ax_or v2 (ax_shl 1 (i : Int))) (fun y5 => kc y5))))
def f_X0_writtenIn_L4 (b : Nat) (w1 : Int) (M : ax_M) : Nat → Nat → Int → (Int → Int) → Int
  | 0, i, v2, kx => kx v2
  | n + 1, i, v2, kx => f_X0_writtenIn_B4 b w1 M i v2 (fun u2 => f_X0_writtenIn_L4 b w1 M n (i + 1) u2 kx) kx
set_option maxRecDepth 100000 in
set_option maxHeartbeats 4000000 in
theorem wb_X0_writtenIn_B4 (d : Nat) (b : Nat) (w1 : Int) (M : ax_M) (i : Nat) (v2 : Int) (kc : Int → Int) (kx : Int → Int)  (hi : 0 ≤ i ∧ i < 4)  (hkc : ∀ (u2 : Int), ax_W ax_LC gX0_writtenIn (d + 0) 4 [(0, (2, 0, (b : Int))), (1, (0, 0, w1)), (2, (0, 0, u2)), (3, (0, 0, ((i : Int) + 1)))] [] M ((ax_qi (-2147483648) 2147483647 M) (kc u2))) (hkx : ∀ (x2 : Int), (True) → ax_W ax_LC gX0_writtenIn (d + 0) 49 [(2, (0, 0, x2))] [] M ((ax_qi (-2147483648) 2147483647 M) (kx x2))) : ax_W ax_LC gX0_writtenIn (d + 0) 9 [(0, (2, 0, (b : Int))), (1, (0, 0, w1)), (2, (0, 0, v2)), (3, (0, 0, (i : Int)))] [] M ((ax_qi (-2147483648) 2147483647 M) (f_X0_writtenIn_B4 b w1 M i v2 kc kx)) := by
  unfold f_X0_writtenIn_B4
  refine ax_lump ax_layC ok_kX0 [(9, .iload_n 1, 1, 0, 0, 0)] (pc' := 10) (lc' := [(0, (2, 0, (b : Int))), (1, (0, 0, w1)), (2, (0, 0, v2)), (3, (0, 0, (i : Int)))]) (st' := [(0, 0, w1)]) (M' := M) (C' := True) (by decide +kernel) rfl trivial ?_
  refine ax_zlt (off := 39) (tgt := 49) (by decide +kernel) (by decide) (fun h1 => ?_) (fun h1 => ?_)
  · refine ax_pk [2] (lc' := [(2, (0, 0, v2))]) rfl ?_
    exact hkx v2 trivial
  · refine ax_lump ax_layC ok_kX0 [(13, .iload_n 1, 1, 0, 0, 0), (14, .bipush 16, 2, 0, 0, 0)] (pc' := 16) (lc' := [(0, (2, 0, (b : Int))), (1, (0, 0, w1)), (2, (0, 0, v2)), (3, (0, 0, (i : Int)))]) (st' := [(0, 0, 16), (0, 0, w1)]) (M' := M) (C' := True) (by decide +kernel) rfl trivial ?_
    refine ax_jge (off := 33) (tgt := 49) (by decide +kernel) (by decide) (fun h2 => ?_) (fun h2 => ?_)
    · refine ax_pk [2] (lc' := [(2, (0, 0, v2))]) rfl ?_
      exact hkx v2 trivial
    · refine ax_lump ax_layC ok_kX0 [(19, .iload_n 2, 1, 0, 0, 0), (20, .aload_n 0, 1, 0, 0, 0), (21, .getfield 9, 3, 0, 0, 0), (24, .iload_n 1, 1, 0, 0, 0), (25, .iconst 4, 1, 0, 0, 0), (26, .imul, 1, 1, 0, 0), (27, .iload_n 3, 1, 0, 0, 0), (28, .iadd, 1, 1, 0, 0), (29, .iaload, 1, 0, 0, 0), (30, .iconst (-1), 1, 0, 0, 0)] (pc' := 31) (lc' := [(0, (2, 0, (b : Int))), (1, (0, 0, w1)), (2, (0, 0, v2)), (3, (0, 0, (i : Int)))]) (st' := [(0, 0, (-1)), (0, 0, (M (b + 1) ((w1 * 4) + (i : Int)).toNat)), (0, 0, v2)]) (M' := M) (C' := (((True ∧ ax_r32 (w1 * 4)) ∧ ax_r32 ((w1 * 4) + (i : Int))) ∧ (0 ≤ ((w1 * 4) + (i : Int)) ∧ ((w1 * 4) + (i : Int)) < ((64 : Nat) : Int)))) (by decide +kernel) rfl ⟨⟨⟨trivial, ⟨by omega, by omega⟩⟩, ⟨by omega, by omega⟩⟩, by omega⟩ ?_
      refine ax_jeq (off := 9) (tgt := 40) (by decide +kernel) (by decide) (fun h3 => ?_) (fun h3 => ?_)
      · refine ax_lump ax_layC ok_kX0 [(40, .iconst 0, 1, 0, 0, 0), (41, .ior, 1, 0, 0, 0), (42, .istore_n 2, 1, 0, 0, 0)] (pc' := 43) (lc' := [(2, (0, 0, (ax_or v2 0))), (0, (2, 0, (b : Int))), (1, (0, 0, w1)), (3, (0, 0, (i : Int)))]) (st' := []) (M' := M) (C' := True) (by decide +kernel) rfl trivial ?_
        refine ax_bdI0 (e := (ax_or v2 0)) (fun y4 => [(2, (0, 0, y4)), (0, (2, 0, (b : Int))), (1, (0, 0, w1)), (3, (0, 0, (i : Int)))]) (fun y4 => []) (fun y4 => ?_)
        refine ax_lump ax_layC ok_kX0 [(43, .iinc 3 1, 3, 1, 0, 0), (46, .goto (-42), 3, 4, 0, 0)] (pc' := 4) (lc' := [(3, (0, 0, ((i : Int) + 1))), (2, (0, 0, y4)), (0, (2, 0, (b : Int))), (1, (0, 0, w1))]) (st' := []) (M' := M) (C' := (True ∧ ax_r32 ((i : Int) + 1))) (by decide +kernel) rfl ⟨trivial, ⟨by omega, by omega⟩⟩ ?_
        refine ax_pk [2,3,1,0] (lc' := [(0, (2, 0, (b : Int))), (1, (0, 0, w1)), (2, (0, 0, y4)), (3, (0, 0, ((i : Int) + 1)))]) rfl ?_
        exact hkc y4 
      · refine ax_lump ax_layC ok_kX0 [(34, .iconst 1, 1, 0, 0, 0), (35, .iload_n 3, 1, 0, 0, 0), (36, .ishl, 1, 0, 0, 0), (37, .goto 4, 3, 41, 0, 0), (41, .ior, 1, 0, 0, 0), (42, .istore_n 2, 1, 0, 0, 0)] (pc' := 43) (lc' := [(2, (0, 0, (ax_or v2 (ax_shl 1 (i : Int))))), (0, (2, 0, (b : Int))), (1, (0, 0, w1)), (3, (0, 0, (i : Int)))]) (st' := []) (M' := M) (C' := True) (by decide +kernel) rfl trivial ?_
        refine ax_bdI0 (e := (ax_or v2 (ax_shl 1 (i : Int)))) (fun y5 => [(2, (0, 0, y5)), (0, (2, 0, (b : Int))), (1, (0, 0, w1)), (3, (0, 0, (i : Int)))]) (fun y5 => []) (fun y5 => ?_)
        refine ax_lump ax_layC ok_kX0 [(43, .iinc 3 1, 3, 1, 0, 0), (46, .goto (-42), 3, 4, 0, 0)] (pc' := 4) (lc' := [(3, (0, 0, ((i : Int) + 1))), (2, (0, 0, y5)), (0, (2, 0, (b : Int))), (1, (0, 0, w1))]) (st' := []) (M' := M) (C' := (True ∧ ax_r32 ((i : Int) + 1))) (by decide +kernel) rfl ⟨trivial, ⟨by omega, by omega⟩⟩ ?_
        refine ax_pk [2,3,1,0] (lc' := [(0, (2, 0, (b : Int))), (1, (0, 0, w1)), (2, (0, 0, y5)), (3, (0, 0, ((i : Int) + 1)))]) rfl ?_
        exact hkc y5 
set_option maxRecDepth 100000 in
set_option maxHeartbeats 4000000 in
theorem w_X0_writtenIn_L4 (d : Nat) (b : Nat) (w1 : Int) (M : ax_M) (kx : Int → Int)  (hkx : ∀ (x2 : Int), (True) → ax_W ax_LC gX0_writtenIn (d + 0) 49 [(2, (0, 0, x2))] [] M ((ax_qi (-2147483648) 2147483647 M) (kx x2))) : ∀ (n : Nat) (i : Nat) (v2 : Int), 0 ≤ i ∧ i + n = 4 → ax_W ax_LC gX0_writtenIn (d + 0) 4 [(0, (2, 0, (b : Int))), (1, (0, 0, w1)), (2, (0, 0, v2)), (3, (0, 0, (i : Int)))] [] M ((ax_qi (-2147483648) 2147483647 M) (f_X0_writtenIn_L4 b w1 M n i v2 kx)) := by
  intro n
  induction n with
  | zero =>
    intro i v2 hin
    refine ax_lump ax_layC ok_kX0 [(4, .iload_n 3, 1, 0, 0, 0), (5, .iconst 4, 1, 0, 0, 0)] (pc' := 6) (lc' := [(0, (2, 0, (b : Int))), (1, (0, 0, w1)), (2, (0, 0, v2)), (3, (0, 0, (i : Int)))]) (st' := [(0, 0, 4), (0, 0, (i : Int))]) (M' := M) (C' := True) (by decide +kernel) rfl trivial ?_
    refine ax_icmp_ge (off := 43) (tgt := 49) (by decide +kernel) (by decide) (fun h => ?_) (fun h => ?_)
    · refine ax_pk [2] (lc' := [(2, (0, 0, v2))]) rfl ?_
      exact hkx v2 trivial
    · exfalso; omega
  | succ n ih =>
    intro i v2 hin
    refine ax_lump ax_layC ok_kX0 [(4, .iload_n 3, 1, 0, 0, 0), (5, .iconst 4, 1, 0, 0, 0)] (pc' := 6) (lc' := [(0, (2, 0, (b : Int))), (1, (0, 0, w1)), (2, (0, 0, v2)), (3, (0, 0, (i : Int)))]) (st' := [(0, 0, 4), (0, 0, (i : Int))]) (M' := M) (C' := True) (by decide +kernel) rfl trivial ?_
    refine ax_icmp_ge (off := 43) (tgt := 49) (by decide +kernel) (by decide) (fun h => ?_) (fun h => ?_)
    · exfalso; omega
    · exact wb_X0_writtenIn_B4 d b w1 M i v2 _ kx  (by omega)  (fun u2 => ih (i + 1) u2 (by omega) ) hkx
def f_X0_writtenIn (b : Nat) (x1 : Int) (M : ax_M) : Int := f_X0_writtenIn_L4 b x1 M 4 0 0 (fun z6 => z6)
set_option maxRecDepth 100000 in
set_option maxHeartbeats 4000000 in
theorem c_X0_writtenIn (d : Nat) (b : Nat) (x1 : Int) (M : ax_M)  : ax_Met ax_LC gX0_writtenIn (d + 0) [(2, 0, (b : Int)), (0, 0, x1)] M ((ax_qi (-2147483648) 2147483647 M) (f_X0_writtenIn b x1 M)) := by
  refine ax_body (by decide) (fun X => Nat.le_of_ble_eq_true rfl) (fun hok => ?_)
  have hr_x1 : (-2147483648) ≤ x1 ∧ x1 ≤ 2147483647 := hok (0, 0, x1) (by simp)
  show ax_W ax_LC gX0_writtenIn (d + 0) 0 [(0, (2, 0, (b : Int))), (1, (0, 0, x1))] [] M _
  unfold f_X0_writtenIn
  refine ax_lump ax_layC ok_kX0 [(0, .iconst 0, 1, 0, 0, 0), (1, .istore_n 2, 1, 0, 0, 0), (2, .iconst 0, 1, 0, 0, 0), (3, .istore_n 3, 1, 0, 0, 0)] (pc' := 4) (lc' := [(3, (0, 0, 0)), (2, (0, 0, 0)), (0, (2, 0, (b : Int))), (1, (0, 0, x1))]) (st' := []) (M' := M) (C' := True) (by decide +kernel) rfl trivial ?_
  refine ax_pk [2,3,1,0] (lc' := [(0, (2, 0, (b : Int))), (1, (0, 0, x1)), (2, (0, 0, 0)), (3, (0, 0, 0))]) rfl ?_
  refine w_X0_writtenIn_L4 d b x1 M _  (fun z6 hx_6 => ?_) 4 0 0 (by omega) 
  refine ax_lump ax_layC ok_kX0 [(49, .iload_n 2, 1, 0, 0, 0)] (pc' := 50) (lc' := [(2, (0, 0, z6))]) (st' := [(0, 0, z6)]) (M' := M) (C' := True) (by decide +kernel) rfl trivial ?_
  refine ax_rngS (fun hr => ?_)
  exact ax_iret (by decide +kernel) rfl ⟨rfl, rfl, hr.1, hr.2⟩
def f_X0_foldersIn_B5 (b : Nat) (w1 : Int) (w2 : Int) (M : ax_M) (i : Nat) (v3 : Int) (kc : Int → Int) (kx : Int → Int) : Int := (if w1 < 0 then kx v3 else (if 16 ≤ w1 then kx v3 else ax_bd (M (b + 1) ((w1 * 4) + (i : Int)).toNat) (fun y3 => (if y3 = (-1) then ax_bd (ax_or v3 0) (fun y5 => kc y5) else (if (ax_and (ax_shr w2 (i : Int)) 1) = 0 then ax_bd (ax_or v3 0) (fun y7 => kc y7) else ax_bd (ax_or v3 (ax_shl 1 (ax_div y3 4))) (fun y8 => kc y8))))))
def f_X0_foldersIn_L5 (b : Nat) (w1 : Int) (w2 : Int) (M : ax_M) : Nat → Nat → Int → (Int → Int) → Int
  | 0, i, v3, kx => kx v3
  | n + 1, i, v3, kx => f_X0_foldersIn_B5 b w1 w2 M i v3 (fun u3 => f_X0_foldersIn_L5 b w1 w2 M n (i + 1) u3 kx) kx
set_option maxRecDepth 100000 in
set_option maxHeartbeats 4000000 in
theorem wb_X0_foldersIn_B5 (d : Nat) (b : Nat) (w1 : Int) (w2 : Int) (M : ax_M) (i : Nat) (v3 : Int) (kc : Int → Int) (kx : Int → Int)  (hi : 0 ≤ i ∧ i < 4)  (hkc : ∀ (u3 : Int), ax_W ax_LC gX0_foldersIn (d + 0) 5 [(0, (2, 0, (b : Int))), (1, (0, 0, w1)), (2, (0, 0, w2)), (3, (0, 0, u3)), (4, (0, 0, ((i : Int) + 1)))] [] M ((ax_qi (-2147483648) 2147483647 M) (kc u3))) (hkx : ∀ (x3 : Int), (True) → ax_W ax_LC gX0_foldersIn (d + 0) 68 [(3, (0, 0, x3))] [] M ((ax_qi (-2147483648) 2147483647 M) (kx x3))) : ax_W ax_LC gX0_foldersIn (d + 0) 11 [(0, (2, 0, (b : Int))), (1, (0, 0, w1)), (2, (0, 0, w2)), (3, (0, 0, v3)), (4, (0, 0, (i : Int)))] [] M ((ax_qi (-2147483648) 2147483647 M) (f_X0_foldersIn_B5 b w1 w2 M i v3 kc kx)) := by
  unfold f_X0_foldersIn_B5
  refine ax_lump ax_layC ok_kX0 [(11, .iload_n 1, 1, 0, 0, 0)] (pc' := 12) (lc' := [(0, (2, 0, (b : Int))), (1, (0, 0, w1)), (2, (0, 0, w2)), (3, (0, 0, v3)), (4, (0, 0, (i : Int)))]) (st' := [(0, 0, w1)]) (M' := M) (C' := True) (by decide +kernel) rfl trivial ?_
  refine ax_zlt (off := 56) (tgt := 68) (by decide +kernel) (by decide) (fun h1 => ?_) (fun h1 => ?_)
  · refine ax_pk [3] (lc' := [(3, (0, 0, v3))]) rfl ?_
    exact hkx v3 trivial
  · refine ax_lump ax_layC ok_kX0 [(15, .iload_n 1, 1, 0, 0, 0), (16, .bipush 16, 2, 0, 0, 0)] (pc' := 18) (lc' := [(0, (2, 0, (b : Int))), (1, (0, 0, w1)), (2, (0, 0, w2)), (3, (0, 0, v3)), (4, (0, 0, (i : Int)))]) (st' := [(0, 0, 16), (0, 0, w1)]) (M' := M) (C' := True) (by decide +kernel) rfl trivial ?_
    refine ax_jge (off := 50) (tgt := 68) (by decide +kernel) (by decide) (fun h2 => ?_) (fun h2 => ?_)
    · refine ax_pk [3] (lc' := [(3, (0, 0, v3))]) rfl ?_
      exact hkx v3 trivial
    · refine ax_lump ax_layC ok_kX0 [(21, .aload_n 0, 1, 0, 0, 0), (22, .getfield 9, 3, 0, 0, 0), (25, .iload_n 1, 1, 0, 0, 0), (26, .iconst 4, 1, 0, 0, 0), (27, .imul, 1, 1, 0, 0), (28, .iload 4, 2, 0, 0, 0), (30, .iadd, 1, 1, 0, 0), (31, .iaload, 1, 0, 0, 0), (32, .istore 5, 2, 0, 0, 0)] (pc' := 34) (lc' := [(5, (0, 0, (M (b + 1) ((w1 * 4) + (i : Int)).toNat))), (0, (2, 0, (b : Int))), (1, (0, 0, w1)), (2, (0, 0, w2)), (3, (0, 0, v3)), (4, (0, 0, (i : Int)))]) (st' := []) (M' := M) (C' := (((True ∧ ax_r32 (w1 * 4)) ∧ ax_r32 ((w1 * 4) + (i : Int))) ∧ (0 ≤ ((w1 * 4) + (i : Int)) ∧ ((w1 * 4) + (i : Int)) < ((64 : Nat) : Int)))) (by decide +kernel) rfl ⟨⟨⟨trivial, ⟨by omega, by omega⟩⟩, ⟨by omega, by omega⟩⟩, by omega⟩ ?_
      refine ax_bdI0 (e := (M (b + 1) ((w1 * 4) + (i : Int)).toNat)) (fun y3 => [(5, (0, 0, y3)), (0, (2, 0, (b : Int))), (1, (0, 0, w1)), (2, (0, 0, w2)), (3, (0, 0, v3)), (4, (0, 0, (i : Int)))]) (fun y3 => []) (fun y3 => ?_)
      refine ax_lump ax_layC ok_kX0 [(34, .iload_n 3, 1, 0, 0, 0), (35, .iload 5, 2, 0, 0, 0), (37, .iconst (-1), 1, 0, 0, 0)] (pc' := 38) (lc' := [(5, (0, 0, y3)), (0, (2, 0, (b : Int))), (1, (0, 0, w1)), (2, (0, 0, w2)), (3, (0, 0, v3)), (4, (0, 0, (i : Int)))]) (st' := [(0, 0, (-1)), (0, 0, y3), (0, 0, v3)]) (M' := M) (C' := True) (by decide +kernel) rfl trivial ?_
      refine ax_jeq (off := 21) (tgt := 59) (by decide +kernel) (by decide) (fun h4 => ?_) (fun h4 => ?_)
      · refine ax_lump ax_layC ok_kX0 [(59, .iconst 0, 1, 0, 0, 0), (60, .ior, 1, 0, 0, 0), (61, .istore_n 3, 1, 0, 0, 0)] (pc' := 62) (lc' := [(3, (0, 0, (ax_or v3 0))), (5, (0, 0, y3)), (0, (2, 0, (b : Int))), (1, (0, 0, w1)), (2, (0, 0, w2)), (4, (0, 0, (i : Int)))]) (st' := []) (M' := M) (C' := True) (by decide +kernel) rfl trivial ?_
        refine ax_bdI0 (e := (ax_or v3 0)) (fun y5 => [(3, (0, 0, y5)), (5, (0, 0, y3)), (0, (2, 0, (b : Int))), (1, (0, 0, w1)), (2, (0, 0, w2)), (4, (0, 0, (i : Int)))]) (fun y5 => []) (fun y5 => ?_)
        refine ax_lump ax_layC ok_kX0 [(62, .iinc 4 1, 3, 1, 0, 0), (65, .goto (-60), 3, 5, 0, 0)] (pc' := 5) (lc' := [(4, (0, 0, ((i : Int) + 1))), (3, (0, 0, y5)), (5, (0, 0, y3)), (0, (2, 0, (b : Int))), (1, (0, 0, w1)), (2, (0, 0, w2))]) (st' := []) (M' := M) (C' := (True ∧ ax_r32 ((i : Int) + 1))) (by decide +kernel) rfl ⟨trivial, ⟨by omega, by omega⟩⟩ ?_
        refine ax_pk [3,4,5,1,0] (lc' := [(0, (2, 0, (b : Int))), (1, (0, 0, w1)), (2, (0, 0, w2)), (3, (0, 0, y5)), (4, (0, 0, ((i : Int) + 1)))]) rfl ?_
        exact hkc y5 
      · refine ax_lump ax_layC ok_kX0 [(41, .iload_n 2, 1, 0, 0, 0), (42, .iload 4, 2, 0, 0, 0), (44, .ishr, 1, 0, 0, 0), (45, .iconst 1, 1, 0, 0, 0), (46, .iand, 1, 0, 0, 0)] (pc' := 47) (lc' := [(5, (0, 0, y3)), (0, (2, 0, (b : Int))), (1, (0, 0, w1)), (2, (0, 0, w2)), (3, (0, 0, v3)), (4, (0, 0, (i : Int)))]) (st' := [(0, 0, (ax_and (ax_shr w2 (i : Int)) 1)), (0, 0, v3)]) (M' := M) (C' := True) (by decide +kernel) rfl trivial ?_
        refine ax_zeq (off := 12) (tgt := 59) (by decide +kernel) (by decide) (fun h6 => ?_) (fun h6 => ?_)
        · refine ax_lump ax_layC ok_kX0 [(59, .iconst 0, 1, 0, 0, 0), (60, .ior, 1, 0, 0, 0), (61, .istore_n 3, 1, 0, 0, 0)] (pc' := 62) (lc' := [(3, (0, 0, (ax_or v3 0))), (5, (0, 0, y3)), (0, (2, 0, (b : Int))), (1, (0, 0, w1)), (2, (0, 0, w2)), (4, (0, 0, (i : Int)))]) (st' := []) (M' := M) (C' := True) (by decide +kernel) rfl trivial ?_
          refine ax_bdI0 (e := (ax_or v3 0)) (fun y7 => [(3, (0, 0, y7)), (5, (0, 0, y3)), (0, (2, 0, (b : Int))), (1, (0, 0, w1)), (2, (0, 0, w2)), (4, (0, 0, (i : Int)))]) (fun y7 => []) (fun y7 => ?_)
          refine ax_lump ax_layC ok_kX0 [(62, .iinc 4 1, 3, 1, 0, 0), (65, .goto (-60), 3, 5, 0, 0)] (pc' := 5) (lc' := [(4, (0, 0, ((i : Int) + 1))), (3, (0, 0, y7)), (5, (0, 0, y3)), (0, (2, 0, (b : Int))), (1, (0, 0, w1)), (2, (0, 0, w2))]) (st' := []) (M' := M) (C' := (True ∧ ax_r32 ((i : Int) + 1))) (by decide +kernel) rfl ⟨trivial, ⟨by omega, by omega⟩⟩ ?_
          refine ax_pk [3,4,5,1,0] (lc' := [(0, (2, 0, (b : Int))), (1, (0, 0, w1)), (2, (0, 0, w2)), (3, (0, 0, y7)), (4, (0, 0, ((i : Int) + 1)))]) rfl ?_
          exact hkc y7 
        · refine ax_lump ax_layC ok_kX0 [(50, .iconst 1, 1, 0, 0, 0), (51, .iload 5, 2, 0, 0, 0), (53, .iconst 4, 1, 0, 0, 0), (54, .idiv, 1, 0, 0, 0), (55, .ishl, 1, 0, 0, 0), (56, .goto 4, 3, 60, 0, 0), (60, .ior, 1, 0, 0, 0), (61, .istore_n 3, 1, 0, 0, 0)] (pc' := 62) (lc' := [(3, (0, 0, (ax_or v3 (ax_shl 1 (ax_div y3 4))))), (5, (0, 0, y3)), (0, (2, 0, (b : Int))), (1, (0, 0, w1)), (2, (0, 0, w2)), (4, (0, 0, (i : Int)))]) (st' := []) (M' := M) (C' := (True ∧ 4 ≠ 0)) (by decide +kernel) rfl ⟨trivial, by omega⟩ ?_
          refine ax_bdI0 (e := (ax_or v3 (ax_shl 1 (ax_div y3 4)))) (fun y8 => [(3, (0, 0, y8)), (5, (0, 0, y3)), (0, (2, 0, (b : Int))), (1, (0, 0, w1)), (2, (0, 0, w2)), (4, (0, 0, (i : Int)))]) (fun y8 => []) (fun y8 => ?_)
          refine ax_lump ax_layC ok_kX0 [(62, .iinc 4 1, 3, 1, 0, 0), (65, .goto (-60), 3, 5, 0, 0)] (pc' := 5) (lc' := [(4, (0, 0, ((i : Int) + 1))), (3, (0, 0, y8)), (5, (0, 0, y3)), (0, (2, 0, (b : Int))), (1, (0, 0, w1)), (2, (0, 0, w2))]) (st' := []) (M' := M) (C' := (True ∧ ax_r32 ((i : Int) + 1))) (by decide +kernel) rfl ⟨trivial, ⟨by omega, by omega⟩⟩ ?_
          refine ax_pk [3,4,5,1,0] (lc' := [(0, (2, 0, (b : Int))), (1, (0, 0, w1)), (2, (0, 0, w2)), (3, (0, 0, y8)), (4, (0, 0, ((i : Int) + 1)))]) rfl ?_
          exact hkc y8 
set_option maxRecDepth 100000 in
set_option maxHeartbeats 4000000 in
theorem w_X0_foldersIn_L5 (d : Nat) (b : Nat) (w1 : Int) (w2 : Int) (M : ax_M) (kx : Int → Int)  (hkx : ∀ (x3 : Int), (True) → ax_W ax_LC gX0_foldersIn (d + 0) 68 [(3, (0, 0, x3))] [] M ((ax_qi (-2147483648) 2147483647 M) (kx x3))) : ∀ (n : Nat) (i : Nat) (v3 : Int), 0 ≤ i ∧ i + n = 4 → ax_W ax_LC gX0_foldersIn (d + 0) 5 [(0, (2, 0, (b : Int))), (1, (0, 0, w1)), (2, (0, 0, w2)), (3, (0, 0, v3)), (4, (0, 0, (i : Int)))] [] M ((ax_qi (-2147483648) 2147483647 M) (f_X0_foldersIn_L5 b w1 w2 M n i v3 kx)) := by
  intro n
  induction n with
  | zero =>
    intro i v3 hin
    refine ax_lump ax_layC ok_kX0 [(5, .iload 4, 2, 0, 0, 0), (7, .iconst 4, 1, 0, 0, 0)] (pc' := 8) (lc' := [(0, (2, 0, (b : Int))), (1, (0, 0, w1)), (2, (0, 0, w2)), (3, (0, 0, v3)), (4, (0, 0, (i : Int)))]) (st' := [(0, 0, 4), (0, 0, (i : Int))]) (M' := M) (C' := True) (by decide +kernel) rfl trivial ?_
    refine ax_icmp_ge (off := 60) (tgt := 68) (by decide +kernel) (by decide) (fun h => ?_) (fun h => ?_)
    · refine ax_pk [3] (lc' := [(3, (0, 0, v3))]) rfl ?_
      exact hkx v3 trivial
    · exfalso; omega
  | succ n ih =>
    intro i v3 hin
    refine ax_lump ax_layC ok_kX0 [(5, .iload 4, 2, 0, 0, 0), (7, .iconst 4, 1, 0, 0, 0)] (pc' := 8) (lc' := [(0, (2, 0, (b : Int))), (1, (0, 0, w1)), (2, (0, 0, w2)), (3, (0, 0, v3)), (4, (0, 0, (i : Int)))]) (st' := [(0, 0, 4), (0, 0, (i : Int))]) (M' := M) (C' := True) (by decide +kernel) rfl trivial ?_
    refine ax_icmp_ge (off := 60) (tgt := 68) (by decide +kernel) (by decide) (fun h => ?_) (fun h => ?_)
    · exfalso; omega
    · exact wb_X0_foldersIn_B5 d b w1 w2 M i v3 _ kx  (by omega)  (fun u3 => ih (i + 1) u3 (by omega) ) hkx
def f_X0_foldersIn (b : Nat) (x1 : Int) (x2 : Int) (M : ax_M) : Int := f_X0_foldersIn_L5 b x1 x2 M 4 0 0 (fun z9 => z9)
set_option maxRecDepth 100000 in
set_option maxHeartbeats 4000000 in
theorem c_X0_foldersIn (d : Nat) (b : Nat) (x1 : Int) (x2 : Int) (M : ax_M)  : ax_Met ax_LC gX0_foldersIn (d + 0) [(2, 0, (b : Int)), (0, 0, x1), (0, 0, x2)] M ((ax_qi (-2147483648) 2147483647 M) (f_X0_foldersIn b x1 x2 M)) := by
  refine ax_body (by decide) (fun X => Nat.le_of_ble_eq_true rfl) (fun hok => ?_)
  have hr_x1 : (-2147483648) ≤ x1 ∧ x1 ≤ 2147483647 := hok (0, 0, x1) (by simp)
  have hr_x2 : (-2147483648) ≤ x2 ∧ x2 ≤ 2147483647 := hok (0, 0, x2) (by simp)
  show ax_W ax_LC gX0_foldersIn (d + 0) 0 [(0, (2, 0, (b : Int))), (1, (0, 0, x1)), (2, (0, 0, x2))] [] M _
  unfold f_X0_foldersIn
  refine ax_lump ax_layC ok_kX0 [(0, .iconst 0, 1, 0, 0, 0), (1, .istore_n 3, 1, 0, 0, 0), (2, .iconst 0, 1, 0, 0, 0), (3, .istore 4, 2, 0, 0, 0)] (pc' := 5) (lc' := [(4, (0, 0, 0)), (3, (0, 0, 0)), (0, (2, 0, (b : Int))), (1, (0, 0, x1)), (2, (0, 0, x2))]) (st' := []) (M' := M) (C' := True) (by decide +kernel) rfl trivial ?_
  refine ax_pk [2,3,4,1,0] (lc' := [(0, (2, 0, (b : Int))), (1, (0, 0, x1)), (2, (0, 0, x2)), (3, (0, 0, 0)), (4, (0, 0, 0))]) rfl ?_
  refine w_X0_foldersIn_L5 d b x1 x2 M _  (fun z9 hx_9 => ?_) 4 0 0 (by omega) 
  refine ax_lump ax_layC ok_kX0 [(68, .iload_n 3, 1, 0, 0, 0)] (pc' := 69) (lc' := [(3, (0, 0, z9))]) (st' := [(0, 0, z9)]) (M' := M) (C' := True) (by decide +kernel) rfl trivial ?_
  refine ax_rngS (fun hr => ?_)
  exact ax_iret (by decide +kernel) rfl ⟨rfl, rfl, hr.1, hr.2⟩
def f_X0_writtenLeaves_B4 (b : Nat) (M : ax_M) (i : Nat) (v1 : Int) (kc : Int → Int) (kx : Int → Int) : Int := (if (M (b + 1) i) = (-1) then kc (v1 + 0) else kc (v1 + 1))
def f_X0_writtenLeaves_L4 (b : Nat) (M : ax_M) : Nat → Nat → Int → (Int → Int) → Int
  | 0, i, v1, kx => kx v1
  | n + 1, i, v1, kx => f_X0_writtenLeaves_B4 b M i v1 (fun u1 => f_X0_writtenLeaves_L4 b M n (i + 1) u1 kx) kx
set_option maxRecDepth 100000 in
set_option maxHeartbeats 4000000 in
theorem wb_X0_writtenLeaves_B4 (d : Nat) (b : Nat) (M : ax_M) (i : Nat) (v1 : Int) (kc : Int → Int) (kx : Int → Int)  (hi : 0 ≤ i ∧ i < 64) (hv1 : 0 ≤ v1 ∧ v1 ≤ 0 + 1 * ((i : Int) - 0)) (hkc : ∀ (u1 : Int), 0 ≤ u1 ∧ u1 ≤ 0 + 1 * (((i : Int) + 1) - 0) → ax_W ax_LC gX0_writtenLeaves (d + 0) 4 [(0, (2, 0, (b : Int))), (1, (0, 0, u1)), (2, (0, 0, ((i : Int) + 1)))] [] M ((ax_qi 0 64 M) (kc u1))) (hkx : ∀ (x1 : Int), ((0 ≤ x1 ∧ x1 ≤ 64)) → ax_W ax_LC gX0_writtenLeaves (d + 0) 34 [(1, (0, 0, x1))] [] M ((ax_qi 0 64 M) (kx x1))) : ax_W ax_LC gX0_writtenLeaves (d + 0) 10 [(0, (2, 0, (b : Int))), (1, (0, 0, v1)), (2, (0, 0, (i : Int)))] [] M ((ax_qi 0 64 M) (f_X0_writtenLeaves_B4 b M i v1 kc kx)) := by
  unfold f_X0_writtenLeaves_B4
  refine ax_lump ax_layC ok_kX0 [(10, .iload_n 1, 1, 0, 0, 0), (11, .aload_n 0, 1, 0, 0, 0), (12, .getfield 9, 3, 0, 0, 0), (15, .iload_n 2, 1, 0, 0, 0), (16, .iaload, 1, 0, 0, 0), (17, .iconst (-1), 1, 0, 0, 0)] (pc' := 18) (lc' := [(0, (2, 0, (b : Int))), (1, (0, 0, v1)), (2, (0, 0, (i : Int)))]) (st' := [(0, 0, (-1)), (0, 0, (M (b + 1) i)), (0, 0, v1)]) (M' := M) (C' := (True ∧ (0 ≤ (i : Int) ∧ (i : Int) < ((64 : Nat) : Int)))) (by decide +kernel) rfl ⟨trivial, by omega⟩ ?_
  refine ax_jeq (off := 7) (tgt := 25) (by decide +kernel) (by decide) (fun h1 => ?_) (fun h1 => ?_)
  · refine ax_lump ax_layC ok_kX0 [(25, .iconst 0, 1, 0, 0, 0), (26, .iadd, 1, 1, 0, 0), (27, .istore_n 1, 1, 0, 0, 0), (28, .iinc 2 1, 3, 1, 0, 0), (31, .goto (-27), 3, 4, 0, 0)] (pc' := 4) (lc' := [(2, (0, 0, ((i : Int) + 1))), (1, (0, 0, (v1 + 0))), (0, (2, 0, (b : Int)))]) (st' := []) (M' := M) (C' := ((True ∧ ax_r32 (v1 + 0)) ∧ ax_r32 ((i : Int) + 1))) (by decide +kernel) rfl ⟨⟨trivial, ⟨by omega, by omega⟩⟩, ⟨by omega, by omega⟩⟩ ?_
    refine ax_pk [2,1,0] (lc' := [(0, (2, 0, (b : Int))), (1, (0, 0, (v1 + 0))), (2, (0, 0, ((i : Int) + 1)))]) rfl ?_
    exact hkc (v1 + 0) (by omega)
  · refine ax_lump ax_layC ok_kX0 [(21, .iconst 1, 1, 0, 0, 0), (22, .goto 4, 3, 26, 0, 0), (26, .iadd, 1, 1, 0, 0), (27, .istore_n 1, 1, 0, 0, 0), (28, .iinc 2 1, 3, 1, 0, 0), (31, .goto (-27), 3, 4, 0, 0)] (pc' := 4) (lc' := [(2, (0, 0, ((i : Int) + 1))), (1, (0, 0, (v1 + 1))), (0, (2, 0, (b : Int)))]) (st' := []) (M' := M) (C' := ((True ∧ ax_r32 (v1 + 1)) ∧ ax_r32 ((i : Int) + 1))) (by decide +kernel) rfl ⟨⟨trivial, ⟨by omega, by omega⟩⟩, ⟨by omega, by omega⟩⟩ ?_
    refine ax_pk [2,1,0] (lc' := [(0, (2, 0, (b : Int))), (1, (0, 0, (v1 + 1))), (2, (0, 0, ((i : Int) + 1)))]) rfl ?_
    exact hkc (v1 + 1) (by omega)
set_option maxRecDepth 100000 in
set_option maxHeartbeats 4000000 in
theorem w_X0_writtenLeaves_L4 (d : Nat) (b : Nat) (M : ax_M) (kx : Int → Int)  (hkx : ∀ (x1 : Int), ((0 ≤ x1 ∧ x1 ≤ 64)) → ax_W ax_LC gX0_writtenLeaves (d + 0) 34 [(1, (0, 0, x1))] [] M ((ax_qi 0 64 M) (kx x1))) : ∀ (n : Nat) (i : Nat) (v1 : Int), 0 ≤ i ∧ i + n = 64 → 0 ≤ v1 ∧ v1 ≤ 0 + 1 * ((i : Int) - 0) → ax_W ax_LC gX0_writtenLeaves (d + 0) 4 [(0, (2, 0, (b : Int))), (1, (0, 0, v1)), (2, (0, 0, (i : Int)))] [] M ((ax_qi 0 64 M) (f_X0_writtenLeaves_L4 b M n i v1 kx)) := by
  intro n
  induction n with
  | zero =>
    intro i v1 hin hv1
    refine ax_lump ax_layC ok_kX0 [(4, .iload_n 2, 1, 0, 0, 0), (5, .bipush 64, 2, 0, 0, 0)] (pc' := 7) (lc' := [(0, (2, 0, (b : Int))), (1, (0, 0, v1)), (2, (0, 0, (i : Int)))]) (st' := [(0, 0, 64), (0, 0, (i : Int))]) (M' := M) (C' := True) (by decide +kernel) rfl trivial ?_
    refine ax_icmp_ge (off := 27) (tgt := 34) (by decide +kernel) (by decide) (fun h => ?_) (fun h => ?_)
    · refine ax_pk [1] (lc' := [(1, (0, 0, v1))]) rfl ?_
      exact hkx v1 (by omega)
    · exfalso; omega
  | succ n ih =>
    intro i v1 hin hv1
    refine ax_lump ax_layC ok_kX0 [(4, .iload_n 2, 1, 0, 0, 0), (5, .bipush 64, 2, 0, 0, 0)] (pc' := 7) (lc' := [(0, (2, 0, (b : Int))), (1, (0, 0, v1)), (2, (0, 0, (i : Int)))]) (st' := [(0, 0, 64), (0, 0, (i : Int))]) (M' := M) (C' := True) (by decide +kernel) rfl trivial ?_
    refine ax_icmp_ge (off := 27) (tgt := 34) (by decide +kernel) (by decide) (fun h => ?_) (fun h => ?_)
    · exfalso; omega
    · exact wb_X0_writtenLeaves_B4 d b M i v1 _ kx  (by omega) hv1 (fun u1 hu1 => ih (i + 1) u1 (by omega) (by omega)) hkx
def f_X0_writtenLeaves (b : Nat) (M : ax_M) : Int := f_X0_writtenLeaves_L4 b M 64 0 0 (fun z2 => z2)
set_option maxRecDepth 100000 in
set_option maxHeartbeats 4000000 in
theorem c_X0_writtenLeaves (d : Nat) (b : Nat) (M : ax_M)  : ax_Met ax_LC gX0_writtenLeaves (d + 0) [(2, 0, (b : Int))] M ((ax_qi 0 64 M) (f_X0_writtenLeaves b M)) := by
  refine ax_body (by decide) (fun X => Nat.le_of_ble_eq_true rfl) (fun hok => ?_)
  show ax_W ax_LC gX0_writtenLeaves (d + 0) 0 [(0, (2, 0, (b : Int)))] [] M _
  unfold f_X0_writtenLeaves
  refine ax_lump ax_layC ok_kX0 [(0, .iconst 0, 1, 0, 0, 0), (1, .istore_n 1, 1, 0, 0, 0), (2, .iconst 0, 1, 0, 0, 0), (3, .istore_n 2, 1, 0, 0, 0)] (pc' := 4) (lc' := [(2, (0, 0, 0)), (1, (0, 0, 0)), (0, (2, 0, (b : Int)))]) (st' := []) (M' := M) (C' := True) (by decide +kernel) rfl trivial ?_
  refine ax_pk [2,1,0] (lc' := [(0, (2, 0, (b : Int))), (1, (0, 0, 0)), (2, (0, 0, 0))]) rfl ?_
  refine w_X0_writtenLeaves_L4 d b M _  (fun z2 hx_2 => ?_) 64 0 0 (by omega) (by omega)
  refine ax_lump ax_layC ok_kX0 [(34, .iload_n 1, 1, 0, 0, 0)] (pc' := 35) (lc' := [(1, (0, 0, z2))]) (st' := [(0, 0, z2)]) (M' := M) (C' := True) (by decide +kernel) rfl trivial ?_
  exact ax_iret (by decide +kernel) rfl ⟨rfl, rfl, (show (0 : Int) ≤ z2 from by omega), (show z2 ≤ (64 : Int) from by omega)⟩
def f_X0_isLater (b : Nat) (x1 : Int) (x2 : Int) (M : ax_M) : Int := (if x1 < 0 then 0 else (if 64 ≤ x1 then 0 else (if x2 < 0 then 0 else (if x2 < 64 then (if (M (b + 3) x1.toNat) = (M (b + 3) x2.toNat) then (if (if 3 < (M (b + 4) (x2 / 4).toNat) then 3 else (M (b + 4) (x2 / 4).toNat)) ≤ (if 3 < (M (b + 4) (x1 / 4).toNat) then 3 else (M (b + 4) (x1 / 4).toNat)) then 0 else 1) else (if (M (b + 3) x1.toNat) ≤ (M (b + 3) x2.toNat) then 0 else 1)) else 0))))
set_option maxRecDepth 100000 in
set_option maxHeartbeats 4000000 in
theorem c_X0_isLater (d : Nat) (b : Nat) (x1 : Int) (x2 : Int) (M : ax_M)  : ax_Met ax_LC gX0_isLater (d + 1) [(2, 0, (b : Int)), (0, 0, x1), (0, 0, x2)] M ((ax_qi 0 1 M) (f_X0_isLater b x1 x2 M)) := by
  refine ax_body (by decide) (fun X => Nat.le_of_ble_eq_true rfl) (fun hok => ?_)
  have hr_x1 : (-2147483648) ≤ x1 ∧ x1 ≤ 2147483647 := hok (0, 0, x1) (by simp)
  have hr_x2 : (-2147483648) ≤ x2 ∧ x2 ≤ 2147483647 := hok (0, 0, x2) (by simp)
  show ax_W ax_LC gX0_isLater (d + 1) 0 [(0, (2, 0, (b : Int))), (1, (0, 0, x1)), (2, (0, 0, x2))] [] M _
  unfold f_X0_isLater
  refine ax_lump ax_layC ok_kX0 [(0, .iload_n 1, 1, 0, 0, 0)] (pc' := 1) (lc' := [(0, (2, 0, (b : Int))), (1, (0, 0, x1)), (2, (0, 0, x2))]) (st' := [(0, 0, x1)]) (M' := M) (C' := True) (by decide +kernel) rfl trivial ?_
  refine ax_zlt (off := 19) (tgt := 20) (by decide +kernel) (by decide) (fun h1 => ?_) (fun h1 => ?_)
  · refine ax_lump ax_layC ok_kX0 [(20, .iconst 0, 1, 0, 0, 0)] (pc' := 21) (lc' := [(0, (2, 0, (b : Int))), (1, (0, 0, x1)), (2, (0, 0, x2))]) (st' := [(0, 0, 0)]) (M' := M) (C' := True) (by decide +kernel) rfl trivial ?_
    exact ax_zret (by decide +kernel) rfl (by omega) ⟨rfl, rfl, (show (0 : Int) ≤ 0 from by omega), (show 0 ≤ (1 : Int) from by omega)⟩
  · refine ax_lump ax_layC ok_kX0 [(4, .iload_n 1, 1, 0, 0, 0), (5, .bipush 64, 2, 0, 0, 0)] (pc' := 7) (lc' := [(0, (2, 0, (b : Int))), (1, (0, 0, x1)), (2, (0, 0, x2))]) (st' := [(0, 0, 64), (0, 0, x1)]) (M' := M) (C' := True) (by decide +kernel) rfl trivial ?_
    refine ax_jge (off := 13) (tgt := 20) (by decide +kernel) (by decide) (fun h2 => ?_) (fun h2 => ?_)
    · refine ax_lump ax_layC ok_kX0 [(20, .iconst 0, 1, 0, 0, 0)] (pc' := 21) (lc' := [(0, (2, 0, (b : Int))), (1, (0, 0, x1)), (2, (0, 0, x2))]) (st' := [(0, 0, 0)]) (M' := M) (C' := True) (by decide +kernel) rfl trivial ?_
      exact ax_zret (by decide +kernel) rfl (by omega) ⟨rfl, rfl, (show (0 : Int) ≤ 0 from by omega), (show 0 ≤ (1 : Int) from by omega)⟩
    · refine ax_lump ax_layC ok_kX0 [(10, .iload_n 2, 1, 0, 0, 0)] (pc' := 11) (lc' := [(0, (2, 0, (b : Int))), (1, (0, 0, x1)), (2, (0, 0, x2))]) (st' := [(0, 0, x2)]) (M' := M) (C' := True) (by decide +kernel) rfl trivial ?_
      refine ax_zlt (off := 9) (tgt := 20) (by decide +kernel) (by decide) (fun h3 => ?_) (fun h3 => ?_)
      · refine ax_lump ax_layC ok_kX0 [(20, .iconst 0, 1, 0, 0, 0)] (pc' := 21) (lc' := [(0, (2, 0, (b : Int))), (1, (0, 0, x1)), (2, (0, 0, x2))]) (st' := [(0, 0, 0)]) (M' := M) (C' := True) (by decide +kernel) rfl trivial ?_
        exact ax_zret (by decide +kernel) rfl (by omega) ⟨rfl, rfl, (show (0 : Int) ≤ 0 from by omega), (show 0 ≤ (1 : Int) from by omega)⟩
      · refine ax_lump ax_layC ok_kX0 [(14, .iload_n 2, 1, 0, 0, 0), (15, .bipush 64, 2, 0, 0, 0)] (pc' := 17) (lc' := [(0, (2, 0, (b : Int))), (1, (0, 0, x1)), (2, (0, 0, x2))]) (st' := [(0, 0, 64), (0, 0, x2)]) (M' := M) (C' := True) (by decide +kernel) rfl trivial ?_
        refine ax_jlt (off := 5) (tgt := 22) (by decide +kernel) (by decide) (fun h4 => ?_) (fun h4 => ?_)
        · refine ax_lump ax_layC ok_kX0 [(22, .aload_n 0, 1, 0, 0, 0), (23, .getfield 18, 3, 0, 2, 0), (26, .iload_n 1, 1, 0, 0, 0), (27, .iaload, 1, 0, 0, 0), (28, .aload_n 0, 1, 0, 0, 0), (29, .getfield 18, 3, 0, 2, 0), (32, .iload_n 2, 1, 0, 0, 0), (33, .iaload, 1, 0, 0, 0)] (pc' := 34) (lc' := [(0, (2, 0, (b : Int))), (1, (0, 0, x1)), (2, (0, 0, x2))]) (st' := [(0, 0, (M (b + 3) x2.toNat)), (0, 0, (M (b + 3) x1.toNat))]) (M' := M) (C' := ((True ∧ (0 ≤ x1 ∧ x1 < ((64 : Nat) : Int))) ∧ (0 ≤ x2 ∧ x2 < ((64 : Nat) : Int)))) (by decide +kernel) rfl ⟨⟨trivial, by omega⟩, by omega⟩ ?_
          refine ax_jeq (off := 24) (tgt := 58) (by decide +kernel) (by decide) (fun h5 => ?_) (fun h5 => ?_)
          · refine ax_lump ax_layC ok_kX0 [(58, .aload_n 0, 1, 0, 0, 0), (59, .getfield 21, 3, 0, 3, 0), (62, .iload_n 1, 1, 0, 0, 0), (63, .iconst 4, 1, 0, 0, 0), (64, .idiv, 1, 1, 0, 0), (65, .iaload, 1, 0, 0, 0), (66, .iconst 3, 1, 0, 0, 0)] (pc' := 67) (lc' := [(0, (2, 0, (b : Int))), (1, (0, 0, x1)), (2, (0, 0, x2))]) (st' := [(0, 0, 3), (0, 0, (M (b + 4) (x1 / 4).toNat))]) (M' := M) (C' := ((True ∧ (0 ≤ x1 ∧ 0 < 4)) ∧ (0 ≤ (x1 / 4) ∧ (x1 / 4) < ((16 : Nat) : Int)))) (by decide +kernel) rfl ⟨⟨trivial, by omega⟩, by omega⟩ ?_
            refine ax_mmin (i := 100) (by decide +kernel) (by omega) (Nat.le_of_ble_eq_true rfl) wt_381 wt_266 wt_8 wt_267 ?_
            refine ax_lump ax_layC ok_kX0 [(70, .aload_n 0, 1, 0, 0, 0), (71, .getfield 21, 3, 0, 3, 0), (74, .iload_n 2, 1, 0, 0, 0), (75, .iconst 4, 1, 0, 0, 0), (76, .idiv, 1, 1, 0, 0), (77, .iaload, 1, 0, 0, 0), (78, .iconst 3, 1, 0, 0, 0)] (pc' := 79) (lc' := [(0, (2, 0, (b : Int))), (1, (0, 0, x1)), (2, (0, 0, x2))]) (st' := [(0, 0, 3), (0, 0, (M (b + 4) (x2 / 4).toNat)), (0, 0, (if 3 < (M (b + 4) (x1 / 4).toNat) then 3 else (M (b + 4) (x1 / 4).toNat)))]) (M' := M) (C' := ((True ∧ (0 ≤ x2 ∧ 0 < 4)) ∧ (0 ≤ (x2 / 4) ∧ (x2 / 4) < ((16 : Nat) : Int)))) (by decide +kernel) rfl ⟨⟨trivial, by omega⟩, by omega⟩ ?_
            refine ax_mmin (i := 100) (by decide +kernel) (by omega) (Nat.le_of_ble_eq_true rfl) wt_381 wt_266 wt_8 wt_267 ?_
            refine ax_jge (off := 7) (tgt := 89) (by decide +kernel) (by decide) (fun h6 => ?_) (fun h6 => ?_)
            · refine ax_lump ax_layC ok_kX0 [(89, .iconst 0, 1, 0, 0, 0)] (pc' := 90) (lc' := [(0, (2, 0, (b : Int))), (1, (0, 0, x1)), (2, (0, 0, x2))]) (st' := [(0, 0, 0)]) (M' := M) (C' := True) (by decide +kernel) rfl trivial ?_
              exact ax_zret (by decide +kernel) rfl (by omega) ⟨rfl, rfl, (show (0 : Int) ≤ 0 from by omega), (show 0 ≤ (1 : Int) from by omega)⟩
            · refine ax_lump ax_layC ok_kX0 [(85, .iconst 1, 1, 0, 0, 0), (86, .goto 4, 3, 90, 0, 0)] (pc' := 90) (lc' := [(0, (2, 0, (b : Int))), (1, (0, 0, x1)), (2, (0, 0, x2))]) (st' := [(0, 0, 1)]) (M' := M) (C' := True) (by decide +kernel) rfl trivial ?_
              exact ax_zret (by decide +kernel) rfl (by omega) ⟨rfl, rfl, (show (0 : Int) ≤ 1 from by omega), (show 1 ≤ (1 : Int) from by omega)⟩
          · refine ax_lump ax_layC ok_kX0 [(37, .aload_n 0, 1, 0, 0, 0), (38, .getfield 18, 3, 0, 2, 0), (41, .iload_n 1, 1, 0, 0, 0), (42, .iaload, 1, 0, 0, 0), (43, .aload_n 0, 1, 0, 0, 0), (44, .getfield 18, 3, 0, 2, 0), (47, .iload_n 2, 1, 0, 0, 0), (48, .iaload, 1, 0, 0, 0)] (pc' := 49) (lc' := [(0, (2, 0, (b : Int))), (1, (0, 0, x1)), (2, (0, 0, x2))]) (st' := [(0, 0, (M (b + 3) x2.toNat)), (0, 0, (M (b + 3) x1.toNat))]) (M' := M) (C' := ((True ∧ (0 ≤ x1 ∧ x1 < ((64 : Nat) : Int))) ∧ (0 ≤ x2 ∧ x2 < ((64 : Nat) : Int)))) (by decide +kernel) rfl ⟨⟨trivial, by omega⟩, by omega⟩ ?_
            refine ax_jle (off := 7) (tgt := 56) (by decide +kernel) (by decide) (fun h7 => ?_) (fun h7 => ?_)
            · refine ax_lump ax_layC ok_kX0 [(56, .iconst 0, 1, 0, 0, 0)] (pc' := 57) (lc' := [(0, (2, 0, (b : Int))), (1, (0, 0, x1)), (2, (0, 0, x2))]) (st' := [(0, 0, 0)]) (M' := M) (C' := True) (by decide +kernel) rfl trivial ?_
              exact ax_zret (by decide +kernel) rfl (by omega) ⟨rfl, rfl, (show (0 : Int) ≤ 0 from by omega), (show 0 ≤ (1 : Int) from by omega)⟩
            · refine ax_lump ax_layC ok_kX0 [(52, .iconst 1, 1, 0, 0, 0), (53, .goto 4, 3, 57, 0, 0)] (pc' := 57) (lc' := [(0, (2, 0, (b : Int))), (1, (0, 0, x1)), (2, (0, 0, x2))]) (st' := [(0, 0, 1)]) (M' := M) (C' := True) (by decide +kernel) rfl trivial ?_
              exact ax_zret (by decide +kernel) rfl (by omega) ⟨rfl, rfl, (show (0 : Int) ≤ 1 from by omega), (show 1 ≤ (1 : Int) from by omega)⟩
        · refine ax_lump ax_layC ok_kX0 [(20, .iconst 0, 1, 0, 0, 0)] (pc' := 21) (lc' := [(0, (2, 0, (b : Int))), (1, (0, 0, x1)), (2, (0, 0, x2))]) (st' := [(0, 0, 0)]) (M' := M) (C' := True) (by decide +kernel) rfl trivial ?_
          exact ax_zret (by decide +kernel) rfl (by omega) ⟨rfl, rfl, (show (0 : Int) ≤ 0 from by omega), (show 0 ≤ (1 : Int) from by omega)⟩
def f_X0_copyBehind_B5 (b : Nat) (w1 : Int) (w2 : Int) (M : ax_M) (i : Nat) (v3 : Int) (kc : Int → Int) (kx : Int → Int) : Int := (if w2 < 0 then (if (M (b + 1) i) ≠ w1 then kc v3 else (if v3 = (-1) then kc (i : Int) else (if (M (b + 3) i) ≤ (M (b + 3) v3.toNat) then kc v3 else kc (i : Int)))) else (if 64 ≤ w2 then (if (M (b + 1) i) ≠ w1 then kc v3 else (if v3 = (-1) then kc (i : Int) else (if (M (b + 3) i) ≤ (M (b + 3) v3.toNat) then kc v3 else kc (i : Int)))) else (if (M (b + 3) i) < (M (b + 3) w2.toNat) then (if (M (b + 1) i) ≠ w1 then kc v3 else (if v3 = (-1) then kc (i : Int) else (if (M (b + 3) i) ≤ (M (b + 3) v3.toNat) then kc v3 else kc (i : Int)))) else (if (M (b + 3) i) ≠ (M (b + 3) w2.toNat) then (if (M (b + 1) i) ≠ w1 then kc v3 else kc v3) else (if (i : Int) ≤ w2 then (if (M (b + 1) i) ≠ w1 then kc v3 else kc v3) else (if (M (b + 1) i) ≠ w1 then kc v3 else (if v3 = (-1) then kc (i : Int) else (if (M (b + 3) i) ≤ (M (b + 3) v3.toNat) then kc v3 else kc (i : Int)))))))))
def f_X0_copyBehind_L5 (b : Nat) (w1 : Int) (w2 : Int) (M : ax_M) : Nat → Nat → Int → (Int → Int) → Int
  | 0, i, v3, kx => kx v3
  | n + 1, i, v3, kx => f_X0_copyBehind_B5 b w1 w2 M i v3 (fun u3 => f_X0_copyBehind_L5 b w1 w2 M n (i + 1) u3 kx) kx
set_option maxRecDepth 100000 in
set_option maxHeartbeats 4000000 in
theorem wb_X0_copyBehind_B5 (d : Nat) (b : Nat) (w1 : Int) (w2 : Int) (M : ax_M) (i : Nat) (v3 : Int) (kc : Int → Int) (kx : Int → Int)  (hi : 0 ≤ i ∧ i < 64) (hv3 : (-1) ≤ v3 ∧ v3 ≤ 63) (hkc : ∀ (u3 : Int), (-1) ≤ u3 ∧ u3 ≤ 63 → ax_W ax_LC gX0_copyBehind (d + 0) 5 [(0, (2, 0, (b : Int))), (1, (0, 0, w1)), (2, (0, 0, w2)), (3, (0, 0, u3)), (4, (0, 0, ((i : Int) + 1)))] [] M ((ax_qi (-1) 63 M) (kc u3))) (hkx : ∀ (x3 : Int), (((-1) ≤ x3 ∧ x3 ≤ 63)) → ax_W ax_LC gX0_copyBehind (d + 0) 113 [(3, (0, 0, x3))] [] M ((ax_qi (-1) 63 M) (kx x3))) : ax_W ax_LC gX0_copyBehind (d + 0) 12 [(0, (2, 0, (b : Int))), (1, (0, 0, w1)), (2, (0, 0, w2)), (3, (0, 0, v3)), (4, (0, 0, (i : Int)))] [] M ((ax_qi (-1) 63 M) (f_X0_copyBehind_B5 b w1 w2 M i v3 kc kx)) := by
  unfold f_X0_copyBehind_B5
  refine ax_lump ax_layC ok_kX0 [(12, .iload_n 2, 1, 0, 0, 0)] (pc' := 13) (lc' := [(0, (2, 0, (b : Int))), (1, (0, 0, w1)), (2, (0, 0, w2)), (3, (0, 0, v3)), (4, (0, 0, (i : Int)))]) (st' := [(0, 0, w2)]) (M' := M) (C' := True) (by decide +kernel) rfl trivial ?_
  refine ax_zlt (off := 47) (tgt := 60) (by decide +kernel) (by decide) (fun h1 => ?_) (fun h1 => ?_)
  · refine ax_lump ax_layC ok_kX0 [(60, .iconst 1, 1, 0, 0, 0), (61, .goto 4, 3, 65, 0, 0), (65, .istore 5, 2, 0, 0, 0), (67, .aload_n 0, 1, 0, 0, 0), (68, .getfield 9, 3, 0, 0, 0), (71, .iload 4, 2, 0, 0, 0), (73, .iaload, 1, 0, 0, 0), (74, .iload_n 1, 1, 0, 0, 0)] (pc' := 75) (lc' := [(5, (0, 0, 1)), (0, (2, 0, (b : Int))), (1, (0, 0, w1)), (2, (0, 0, w2)), (3, (0, 0, v3)), (4, (0, 0, (i : Int)))]) (st' := [(0, 0, w1), (0, 0, (M (b + 1) i))]) (M' := M) (C' := (True ∧ (0 ≤ (i : Int) ∧ (i : Int) < ((64 : Nat) : Int)))) (by decide +kernel) rfl ⟨trivial, by omega⟩ ?_
    refine ax_jne (off := 32) (tgt := 107) (by decide +kernel) (by decide) (fun h2 => ?_) (fun h2 => ?_)
    · refine ax_lump ax_layC ok_kX0 [(107, .iinc 4 1, 3, 1, 0, 0), (110, .goto (-105), 3, 5, 0, 0)] (pc' := 5) (lc' := [(4, (0, 0, ((i : Int) + 1))), (5, (0, 0, 1)), (0, (2, 0, (b : Int))), (1, (0, 0, w1)), (2, (0, 0, w2)), (3, (0, 0, v3))]) (st' := []) (M' := M) (C' := (True ∧ ax_r32 ((i : Int) + 1))) (by decide +kernel) rfl ⟨trivial, ⟨by omega, by omega⟩⟩ ?_
      refine ax_pk [2,3,4,5,0] (lc' := [(0, (2, 0, (b : Int))), (1, (0, 0, w1)), (2, (0, 0, w2)), (3, (0, 0, v3)), (4, (0, 0, ((i : Int) + 1)))]) rfl ?_
      exact hkc v3 (by omega)
    · refine ax_lump ax_layC ok_kX0 [(78, .iload 5, 2, 0, 0, 0)] (pc' := 80) (lc' := [(5, (0, 0, 1)), (0, (2, 0, (b : Int))), (1, (0, 0, w1)), (2, (0, 0, w2)), (3, (0, 0, v3)), (4, (0, 0, (i : Int)))]) (st' := [(0, 0, 1)]) (M' := M) (C' := True) (by decide +kernel) rfl trivial ?_
      refine ax_if_eq (off := 27) (tgt := 107) (by decide +kernel) (by decide) (fun h3 => ?_) (fun h3 => ?_)
      · exfalso; omega
      · refine ax_lump ax_layC ok_kX0 [(83, .iload_n 3, 1, 0, 0, 0), (84, .iconst (-1), 1, 0, 0, 0)] (pc' := 85) (lc' := [(5, (0, 0, 1)), (0, (2, 0, (b : Int))), (1, (0, 0, w1)), (2, (0, 0, w2)), (3, (0, 0, v3)), (4, (0, 0, (i : Int)))]) (st' := [(0, 0, (-1)), (0, 0, v3)]) (M' := M) (C' := True) (by decide +kernel) rfl trivial ?_
        refine ax_jeq (off := 19) (tgt := 104) (by decide +kernel) (by decide) (fun h4 => ?_) (fun h4 => ?_)
        · refine ax_lump ax_layC ok_kX0 [(104, .iload 4, 2, 0, 0, 0), (106, .istore_n 3, 1, 0, 0, 0), (107, .iinc 4 1, 3, 1, 0, 0), (110, .goto (-105), 3, 5, 0, 0)] (pc' := 5) (lc' := [(4, (0, 0, ((i : Int) + 1))), (3, (0, 0, (i : Int))), (5, (0, 0, 1)), (0, (2, 0, (b : Int))), (1, (0, 0, w1)), (2, (0, 0, w2))]) (st' := []) (M' := M) (C' := (True ∧ ax_r32 ((i : Int) + 1))) (by decide +kernel) rfl ⟨trivial, ⟨by omega, by omega⟩⟩ ?_
          refine ax_pk [3,4,5,1,0] (lc' := [(0, (2, 0, (b : Int))), (1, (0, 0, w1)), (2, (0, 0, w2)), (3, (0, 0, (i : Int))), (4, (0, 0, ((i : Int) + 1)))]) rfl ?_
          exact hkc (i : Int) (by omega)
        · refine ax_lump ax_layC ok_kX0 [(88, .aload_n 0, 1, 0, 0, 0), (89, .getfield 18, 3, 0, 2, 0), (92, .iload 4, 2, 0, 0, 0), (94, .iaload, 1, 0, 0, 0), (95, .aload_n 0, 1, 0, 0, 0), (96, .getfield 18, 3, 0, 2, 0), (99, .iload_n 3, 1, 0, 0, 0), (100, .iaload, 1, 0, 0, 0)] (pc' := 101) (lc' := [(5, (0, 0, 1)), (0, (2, 0, (b : Int))), (1, (0, 0, w1)), (2, (0, 0, w2)), (3, (0, 0, v3)), (4, (0, 0, (i : Int)))]) (st' := [(0, 0, (M (b + 3) v3.toNat)), (0, 0, (M (b + 3) i))]) (M' := M) (C' := ((True ∧ (0 ≤ (i : Int) ∧ (i : Int) < ((64 : Nat) : Int))) ∧ (0 ≤ v3 ∧ v3 < ((64 : Nat) : Int)))) (by decide +kernel) rfl ⟨⟨trivial, by omega⟩, by omega⟩ ?_
          refine ax_jle (off := 6) (tgt := 107) (by decide +kernel) (by decide) (fun h5 => ?_) (fun h5 => ?_)
          · refine ax_lump ax_layC ok_kX0 [(107, .iinc 4 1, 3, 1, 0, 0), (110, .goto (-105), 3, 5, 0, 0)] (pc' := 5) (lc' := [(4, (0, 0, ((i : Int) + 1))), (5, (0, 0, 1)), (0, (2, 0, (b : Int))), (1, (0, 0, w1)), (2, (0, 0, w2)), (3, (0, 0, v3))]) (st' := []) (M' := M) (C' := (True ∧ ax_r32 ((i : Int) + 1))) (by decide +kernel) rfl ⟨trivial, ⟨by omega, by omega⟩⟩ ?_
            refine ax_pk [2,3,4,5,0] (lc' := [(0, (2, 0, (b : Int))), (1, (0, 0, w1)), (2, (0, 0, w2)), (3, (0, 0, v3)), (4, (0, 0, ((i : Int) + 1)))]) rfl ?_
            exact hkc v3 (by omega)
          · refine ax_lump ax_layC ok_kX0 [(104, .iload 4, 2, 0, 0, 0), (106, .istore_n 3, 1, 0, 0, 0), (107, .iinc 4 1, 3, 1, 0, 0), (110, .goto (-105), 3, 5, 0, 0)] (pc' := 5) (lc' := [(4, (0, 0, ((i : Int) + 1))), (3, (0, 0, (i : Int))), (5, (0, 0, 1)), (0, (2, 0, (b : Int))), (1, (0, 0, w1)), (2, (0, 0, w2))]) (st' := []) (M' := M) (C' := (True ∧ ax_r32 ((i : Int) + 1))) (by decide +kernel) rfl ⟨trivial, ⟨by omega, by omega⟩⟩ ?_
            refine ax_pk [3,4,5,1,0] (lc' := [(0, (2, 0, (b : Int))), (1, (0, 0, w1)), (2, (0, 0, w2)), (3, (0, 0, (i : Int))), (4, (0, 0, ((i : Int) + 1)))]) rfl ?_
            exact hkc (i : Int) (by omega)
  · refine ax_lump ax_layC ok_kX0 [(16, .iload_n 2, 1, 0, 0, 0), (17, .bipush 64, 2, 0, 0, 0)] (pc' := 19) (lc' := [(0, (2, 0, (b : Int))), (1, (0, 0, w1)), (2, (0, 0, w2)), (3, (0, 0, v3)), (4, (0, 0, (i : Int)))]) (st' := [(0, 0, 64), (0, 0, w2)]) (M' := M) (C' := True) (by decide +kernel) rfl trivial ?_
    refine ax_jge (off := 41) (tgt := 60) (by decide +kernel) (by decide) (fun h6 => ?_) (fun h6 => ?_)
    · refine ax_lump ax_layC ok_kX0 [(60, .iconst 1, 1, 0, 0, 0), (61, .goto 4, 3, 65, 0, 0), (65, .istore 5, 2, 0, 0, 0), (67, .aload_n 0, 1, 0, 0, 0), (68, .getfield 9, 3, 0, 0, 0), (71, .iload 4, 2, 0, 0, 0), (73, .iaload, 1, 0, 0, 0), (74, .iload_n 1, 1, 0, 0, 0)] (pc' := 75) (lc' := [(5, (0, 0, 1)), (0, (2, 0, (b : Int))), (1, (0, 0, w1)), (2, (0, 0, w2)), (3, (0, 0, v3)), (4, (0, 0, (i : Int)))]) (st' := [(0, 0, w1), (0, 0, (M (b + 1) i))]) (M' := M) (C' := (True ∧ (0 ≤ (i : Int) ∧ (i : Int) < ((64 : Nat) : Int)))) (by decide +kernel) rfl ⟨trivial, by omega⟩ ?_
      refine ax_jne (off := 32) (tgt := 107) (by decide +kernel) (by decide) (fun h7 => ?_) (fun h7 => ?_)
      · refine ax_lump ax_layC ok_kX0 [(107, .iinc 4 1, 3, 1, 0, 0), (110, .goto (-105), 3, 5, 0, 0)] (pc' := 5) (lc' := [(4, (0, 0, ((i : Int) + 1))), (5, (0, 0, 1)), (0, (2, 0, (b : Int))), (1, (0, 0, w1)), (2, (0, 0, w2)), (3, (0, 0, v3))]) (st' := []) (M' := M) (C' := (True ∧ ax_r32 ((i : Int) + 1))) (by decide +kernel) rfl ⟨trivial, ⟨by omega, by omega⟩⟩ ?_
        refine ax_pk [2,3,4,5,0] (lc' := [(0, (2, 0, (b : Int))), (1, (0, 0, w1)), (2, (0, 0, w2)), (3, (0, 0, v3)), (4, (0, 0, ((i : Int) + 1)))]) rfl ?_
        exact hkc v3 (by omega)
      · refine ax_lump ax_layC ok_kX0 [(78, .iload 5, 2, 0, 0, 0)] (pc' := 80) (lc' := [(5, (0, 0, 1)), (0, (2, 0, (b : Int))), (1, (0, 0, w1)), (2, (0, 0, w2)), (3, (0, 0, v3)), (4, (0, 0, (i : Int)))]) (st' := [(0, 0, 1)]) (M' := M) (C' := True) (by decide +kernel) rfl trivial ?_
        refine ax_if_eq (off := 27) (tgt := 107) (by decide +kernel) (by decide) (fun h8 => ?_) (fun h8 => ?_)
        · exfalso; omega
        · refine ax_lump ax_layC ok_kX0 [(83, .iload_n 3, 1, 0, 0, 0), (84, .iconst (-1), 1, 0, 0, 0)] (pc' := 85) (lc' := [(5, (0, 0, 1)), (0, (2, 0, (b : Int))), (1, (0, 0, w1)), (2, (0, 0, w2)), (3, (0, 0, v3)), (4, (0, 0, (i : Int)))]) (st' := [(0, 0, (-1)), (0, 0, v3)]) (M' := M) (C' := True) (by decide +kernel) rfl trivial ?_
          refine ax_jeq (off := 19) (tgt := 104) (by decide +kernel) (by decide) (fun h9 => ?_) (fun h9 => ?_)
          · refine ax_lump ax_layC ok_kX0 [(104, .iload 4, 2, 0, 0, 0), (106, .istore_n 3, 1, 0, 0, 0), (107, .iinc 4 1, 3, 1, 0, 0), (110, .goto (-105), 3, 5, 0, 0)] (pc' := 5) (lc' := [(4, (0, 0, ((i : Int) + 1))), (3, (0, 0, (i : Int))), (5, (0, 0, 1)), (0, (2, 0, (b : Int))), (1, (0, 0, w1)), (2, (0, 0, w2))]) (st' := []) (M' := M) (C' := (True ∧ ax_r32 ((i : Int) + 1))) (by decide +kernel) rfl ⟨trivial, ⟨by omega, by omega⟩⟩ ?_
            refine ax_pk [3,4,5,1,0] (lc' := [(0, (2, 0, (b : Int))), (1, (0, 0, w1)), (2, (0, 0, w2)), (3, (0, 0, (i : Int))), (4, (0, 0, ((i : Int) + 1)))]) rfl ?_
            exact hkc (i : Int) (by omega)
          · refine ax_lump ax_layC ok_kX0 [(88, .aload_n 0, 1, 0, 0, 0), (89, .getfield 18, 3, 0, 2, 0), (92, .iload 4, 2, 0, 0, 0), (94, .iaload, 1, 0, 0, 0), (95, .aload_n 0, 1, 0, 0, 0), (96, .getfield 18, 3, 0, 2, 0), (99, .iload_n 3, 1, 0, 0, 0), (100, .iaload, 1, 0, 0, 0)] (pc' := 101) (lc' := [(5, (0, 0, 1)), (0, (2, 0, (b : Int))), (1, (0, 0, w1)), (2, (0, 0, w2)), (3, (0, 0, v3)), (4, (0, 0, (i : Int)))]) (st' := [(0, 0, (M (b + 3) v3.toNat)), (0, 0, (M (b + 3) i))]) (M' := M) (C' := ((True ∧ (0 ≤ (i : Int) ∧ (i : Int) < ((64 : Nat) : Int))) ∧ (0 ≤ v3 ∧ v3 < ((64 : Nat) : Int)))) (by decide +kernel) rfl ⟨⟨trivial, by omega⟩, by omega⟩ ?_
            refine ax_jle (off := 6) (tgt := 107) (by decide +kernel) (by decide) (fun h10 => ?_) (fun h10 => ?_)
            · refine ax_lump ax_layC ok_kX0 [(107, .iinc 4 1, 3, 1, 0, 0), (110, .goto (-105), 3, 5, 0, 0)] (pc' := 5) (lc' := [(4, (0, 0, ((i : Int) + 1))), (5, (0, 0, 1)), (0, (2, 0, (b : Int))), (1, (0, 0, w1)), (2, (0, 0, w2)), (3, (0, 0, v3))]) (st' := []) (M' := M) (C' := (True ∧ ax_r32 ((i : Int) + 1))) (by decide +kernel) rfl ⟨trivial, ⟨by omega, by omega⟩⟩ ?_
              refine ax_pk [2,3,4,5,0] (lc' := [(0, (2, 0, (b : Int))), (1, (0, 0, w1)), (2, (0, 0, w2)), (3, (0, 0, v3)), (4, (0, 0, ((i : Int) + 1)))]) rfl ?_
              exact hkc v3 (by omega)
            · refine ax_lump ax_layC ok_kX0 [(104, .iload 4, 2, 0, 0, 0), (106, .istore_n 3, 1, 0, 0, 0), (107, .iinc 4 1, 3, 1, 0, 0), (110, .goto (-105), 3, 5, 0, 0)] (pc' := 5) (lc' := [(4, (0, 0, ((i : Int) + 1))), (3, (0, 0, (i : Int))), (5, (0, 0, 1)), (0, (2, 0, (b : Int))), (1, (0, 0, w1)), (2, (0, 0, w2))]) (st' := []) (M' := M) (C' := (True ∧ ax_r32 ((i : Int) + 1))) (by decide +kernel) rfl ⟨trivial, ⟨by omega, by omega⟩⟩ ?_
              refine ax_pk [3,4,5,1,0] (lc' := [(0, (2, 0, (b : Int))), (1, (0, 0, w1)), (2, (0, 0, w2)), (3, (0, 0, (i : Int))), (4, (0, 0, ((i : Int) + 1)))]) rfl ?_
              exact hkc (i : Int) (by omega)
    · refine ax_lump ax_layC ok_kX0 [(22, .aload_n 0, 1, 0, 0, 0), (23, .getfield 18, 3, 0, 2, 0), (26, .iload 4, 2, 0, 0, 0), (28, .iaload, 1, 0, 0, 0), (29, .aload_n 0, 1, 0, 0, 0), (30, .getfield 18, 3, 0, 2, 0), (33, .iload_n 2, 1, 0, 0, 0), (34, .iaload, 1, 0, 0, 0)] (pc' := 35) (lc' := [(0, (2, 0, (b : Int))), (1, (0, 0, w1)), (2, (0, 0, w2)), (3, (0, 0, v3)), (4, (0, 0, (i : Int)))]) (st' := [(0, 0, (M (b + 3) w2.toNat)), (0, 0, (M (b + 3) i))]) (M' := M) (C' := ((True ∧ (0 ≤ (i : Int) ∧ (i : Int) < ((64 : Nat) : Int))) ∧ (0 ≤ w2 ∧ w2 < ((64 : Nat) : Int)))) (by decide +kernel) rfl ⟨⟨trivial, by omega⟩, by omega⟩ ?_
      refine ax_jlt (off := 25) (tgt := 60) (by decide +kernel) (by decide) (fun h11 => ?_) (fun h11 => ?_)
      · refine ax_lump ax_layC ok_kX0 [(60, .iconst 1, 1, 0, 0, 0), (61, .goto 4, 3, 65, 0, 0), (65, .istore 5, 2, 0, 0, 0), (67, .aload_n 0, 1, 0, 0, 0), (68, .getfield 9, 3, 0, 0, 0), (71, .iload 4, 2, 0, 0, 0), (73, .iaload, 1, 0, 0, 0), (74, .iload_n 1, 1, 0, 0, 0)] (pc' := 75) (lc' := [(5, (0, 0, 1)), (0, (2, 0, (b : Int))), (1, (0, 0, w1)), (2, (0, 0, w2)), (3, (0, 0, v3)), (4, (0, 0, (i : Int)))]) (st' := [(0, 0, w1), (0, 0, (M (b + 1) i))]) (M' := M) (C' := (True ∧ (0 ≤ (i : Int) ∧ (i : Int) < ((64 : Nat) : Int)))) (by decide +kernel) rfl ⟨trivial, by omega⟩ ?_
        refine ax_jne (off := 32) (tgt := 107) (by decide +kernel) (by decide) (fun h12 => ?_) (fun h12 => ?_)
        · refine ax_lump ax_layC ok_kX0 [(107, .iinc 4 1, 3, 1, 0, 0), (110, .goto (-105), 3, 5, 0, 0)] (pc' := 5) (lc' := [(4, (0, 0, ((i : Int) + 1))), (5, (0, 0, 1)), (0, (2, 0, (b : Int))), (1, (0, 0, w1)), (2, (0, 0, w2)), (3, (0, 0, v3))]) (st' := []) (M' := M) (C' := (True ∧ ax_r32 ((i : Int) + 1))) (by decide +kernel) rfl ⟨trivial, ⟨by omega, by omega⟩⟩ ?_
          refine ax_pk [2,3,4,5,0] (lc' := [(0, (2, 0, (b : Int))), (1, (0, 0, w1)), (2, (0, 0, w2)), (3, (0, 0, v3)), (4, (0, 0, ((i : Int) + 1)))]) rfl ?_
          exact hkc v3 (by omega)
        · refine ax_lump ax_layC ok_kX0 [(78, .iload 5, 2, 0, 0, 0)] (pc' := 80) (lc' := [(5, (0, 0, 1)), (0, (2, 0, (b : Int))), (1, (0, 0, w1)), (2, (0, 0, w2)), (3, (0, 0, v3)), (4, (0, 0, (i : Int)))]) (st' := [(0, 0, 1)]) (M' := M) (C' := True) (by decide +kernel) rfl trivial ?_
          refine ax_if_eq (off := 27) (tgt := 107) (by decide +kernel) (by decide) (fun h13 => ?_) (fun h13 => ?_)
          · exfalso; omega
          · refine ax_lump ax_layC ok_kX0 [(83, .iload_n 3, 1, 0, 0, 0), (84, .iconst (-1), 1, 0, 0, 0)] (pc' := 85) (lc' := [(5, (0, 0, 1)), (0, (2, 0, (b : Int))), (1, (0, 0, w1)), (2, (0, 0, w2)), (3, (0, 0, v3)), (4, (0, 0, (i : Int)))]) (st' := [(0, 0, (-1)), (0, 0, v3)]) (M' := M) (C' := True) (by decide +kernel) rfl trivial ?_
            refine ax_jeq (off := 19) (tgt := 104) (by decide +kernel) (by decide) (fun h14 => ?_) (fun h14 => ?_)
            · refine ax_lump ax_layC ok_kX0 [(104, .iload 4, 2, 0, 0, 0), (106, .istore_n 3, 1, 0, 0, 0), (107, .iinc 4 1, 3, 1, 0, 0), (110, .goto (-105), 3, 5, 0, 0)] (pc' := 5) (lc' := [(4, (0, 0, ((i : Int) + 1))), (3, (0, 0, (i : Int))), (5, (0, 0, 1)), (0, (2, 0, (b : Int))), (1, (0, 0, w1)), (2, (0, 0, w2))]) (st' := []) (M' := M) (C' := (True ∧ ax_r32 ((i : Int) + 1))) (by decide +kernel) rfl ⟨trivial, ⟨by omega, by omega⟩⟩ ?_
              refine ax_pk [3,4,5,1,0] (lc' := [(0, (2, 0, (b : Int))), (1, (0, 0, w1)), (2, (0, 0, w2)), (3, (0, 0, (i : Int))), (4, (0, 0, ((i : Int) + 1)))]) rfl ?_
              exact hkc (i : Int) (by omega)
            · refine ax_lump ax_layC ok_kX0 [(88, .aload_n 0, 1, 0, 0, 0), (89, .getfield 18, 3, 0, 2, 0), (92, .iload 4, 2, 0, 0, 0), (94, .iaload, 1, 0, 0, 0), (95, .aload_n 0, 1, 0, 0, 0), (96, .getfield 18, 3, 0, 2, 0), (99, .iload_n 3, 1, 0, 0, 0), (100, .iaload, 1, 0, 0, 0)] (pc' := 101) (lc' := [(5, (0, 0, 1)), (0, (2, 0, (b : Int))), (1, (0, 0, w1)), (2, (0, 0, w2)), (3, (0, 0, v3)), (4, (0, 0, (i : Int)))]) (st' := [(0, 0, (M (b + 3) v3.toNat)), (0, 0, (M (b + 3) i))]) (M' := M) (C' := ((True ∧ (0 ≤ (i : Int) ∧ (i : Int) < ((64 : Nat) : Int))) ∧ (0 ≤ v3 ∧ v3 < ((64 : Nat) : Int)))) (by decide +kernel) rfl ⟨⟨trivial, by omega⟩, by omega⟩ ?_
              refine ax_jle (off := 6) (tgt := 107) (by decide +kernel) (by decide) (fun h15 => ?_) (fun h15 => ?_)
              · refine ax_lump ax_layC ok_kX0 [(107, .iinc 4 1, 3, 1, 0, 0), (110, .goto (-105), 3, 5, 0, 0)] (pc' := 5) (lc' := [(4, (0, 0, ((i : Int) + 1))), (5, (0, 0, 1)), (0, (2, 0, (b : Int))), (1, (0, 0, w1)), (2, (0, 0, w2)), (3, (0, 0, v3))]) (st' := []) (M' := M) (C' := (True ∧ ax_r32 ((i : Int) + 1))) (by decide +kernel) rfl ⟨trivial, ⟨by omega, by omega⟩⟩ ?_
                refine ax_pk [2,3,4,5,0] (lc' := [(0, (2, 0, (b : Int))), (1, (0, 0, w1)), (2, (0, 0, w2)), (3, (0, 0, v3)), (4, (0, 0, ((i : Int) + 1)))]) rfl ?_
                exact hkc v3 (by omega)
              · refine ax_lump ax_layC ok_kX0 [(104, .iload 4, 2, 0, 0, 0), (106, .istore_n 3, 1, 0, 0, 0), (107, .iinc 4 1, 3, 1, 0, 0), (110, .goto (-105), 3, 5, 0, 0)] (pc' := 5) (lc' := [(4, (0, 0, ((i : Int) + 1))), (3, (0, 0, (i : Int))), (5, (0, 0, 1)), (0, (2, 0, (b : Int))), (1, (0, 0, w1)), (2, (0, 0, w2))]) (st' := []) (M' := M) (C' := (True ∧ ax_r32 ((i : Int) + 1))) (by decide +kernel) rfl ⟨trivial, ⟨by omega, by omega⟩⟩ ?_
                refine ax_pk [3,4,5,1,0] (lc' := [(0, (2, 0, (b : Int))), (1, (0, 0, w1)), (2, (0, 0, w2)), (3, (0, 0, (i : Int))), (4, (0, 0, ((i : Int) + 1)))]) rfl ?_
                exact hkc (i : Int) (by omega)
      · refine ax_lump ax_layC ok_kX0 [(38, .aload_n 0, 1, 0, 0, 0), (39, .getfield 18, 3, 0, 2, 0), (42, .iload 4, 2, 0, 0, 0), (44, .iaload, 1, 0, 0, 0), (45, .aload_n 0, 1, 0, 0, 0), (46, .getfield 18, 3, 0, 2, 0), (49, .iload_n 2, 1, 0, 0, 0), (50, .iaload, 1, 0, 0, 0)] (pc' := 51) (lc' := [(0, (2, 0, (b : Int))), (1, (0, 0, w1)), (2, (0, 0, w2)), (3, (0, 0, v3)), (4, (0, 0, (i : Int)))]) (st' := [(0, 0, (M (b + 3) w2.toNat)), (0, 0, (M (b + 3) i))]) (M' := M) (C' := ((True ∧ (0 ≤ (i : Int) ∧ (i : Int) < ((64 : Nat) : Int))) ∧ (0 ≤ w2 ∧ w2 < ((64 : Nat) : Int)))) (by decide +kernel) rfl ⟨⟨trivial, by omega⟩, by omega⟩ ?_
        refine ax_jne (off := 13) (tgt := 64) (by decide +kernel) (by decide) (fun h16 => ?_) (fun h16 => ?_)
        · refine ax_lump ax_layC ok_kX0 [(64, .iconst 0, 1, 0, 0, 0), (65, .istore 5, 2, 0, 0, 0), (67, .aload_n 0, 1, 0, 0, 0), (68, .getfield 9, 3, 0, 0, 0), (71, .iload 4, 2, 0, 0, 0), (73, .iaload, 1, 0, 0, 0), (74, .iload_n 1, 1, 0, 0, 0)] (pc' := 75) (lc' := [(5, (0, 0, 0)), (0, (2, 0, (b : Int))), (1, (0, 0, w1)), (2, (0, 0, w2)), (3, (0, 0, v3)), (4, (0, 0, (i : Int)))]) (st' := [(0, 0, w1), (0, 0, (M (b + 1) i))]) (M' := M) (C' := (True ∧ (0 ≤ (i : Int) ∧ (i : Int) < ((64 : Nat) : Int)))) (by decide +kernel) rfl ⟨trivial, by omega⟩ ?_
          refine ax_jne (off := 32) (tgt := 107) (by decide +kernel) (by decide) (fun h17 => ?_) (fun h17 => ?_)
          · refine ax_lump ax_layC ok_kX0 [(107, .iinc 4 1, 3, 1, 0, 0), (110, .goto (-105), 3, 5, 0, 0)] (pc' := 5) (lc' := [(4, (0, 0, ((i : Int) + 1))), (5, (0, 0, 0)), (0, (2, 0, (b : Int))), (1, (0, 0, w1)), (2, (0, 0, w2)), (3, (0, 0, v3))]) (st' := []) (M' := M) (C' := (True ∧ ax_r32 ((i : Int) + 1))) (by decide +kernel) rfl ⟨trivial, ⟨by omega, by omega⟩⟩ ?_
            refine ax_pk [2,3,4,5,0] (lc' := [(0, (2, 0, (b : Int))), (1, (0, 0, w1)), (2, (0, 0, w2)), (3, (0, 0, v3)), (4, (0, 0, ((i : Int) + 1)))]) rfl ?_
            exact hkc v3 (by omega)
          · refine ax_lump ax_layC ok_kX0 [(78, .iload 5, 2, 0, 0, 0)] (pc' := 80) (lc' := [(5, (0, 0, 0)), (0, (2, 0, (b : Int))), (1, (0, 0, w1)), (2, (0, 0, w2)), (3, (0, 0, v3)), (4, (0, 0, (i : Int)))]) (st' := [(0, 0, 0)]) (M' := M) (C' := True) (by decide +kernel) rfl trivial ?_
            refine ax_if_eq (off := 27) (tgt := 107) (by decide +kernel) (by decide) (fun h18 => ?_) (fun h18 => ?_)
            · refine ax_lump ax_layC ok_kX0 [(107, .iinc 4 1, 3, 1, 0, 0), (110, .goto (-105), 3, 5, 0, 0)] (pc' := 5) (lc' := [(4, (0, 0, ((i : Int) + 1))), (5, (0, 0, 0)), (0, (2, 0, (b : Int))), (1, (0, 0, w1)), (2, (0, 0, w2)), (3, (0, 0, v3))]) (st' := []) (M' := M) (C' := (True ∧ ax_r32 ((i : Int) + 1))) (by decide +kernel) rfl ⟨trivial, ⟨by omega, by omega⟩⟩ ?_
              refine ax_pk [2,3,4,5,0] (lc' := [(0, (2, 0, (b : Int))), (1, (0, 0, w1)), (2, (0, 0, w2)), (3, (0, 0, v3)), (4, (0, 0, ((i : Int) + 1)))]) rfl ?_
              exact hkc v3 (by omega)
            · exfalso; omega
        · refine ax_lump ax_layC ok_kX0 [(54, .iload 4, 2, 0, 0, 0), (56, .iload_n 2, 1, 0, 0, 0)] (pc' := 57) (lc' := [(0, (2, 0, (b : Int))), (1, (0, 0, w1)), (2, (0, 0, w2)), (3, (0, 0, v3)), (4, (0, 0, (i : Int)))]) (st' := [(0, 0, w2), (0, 0, (i : Int))]) (M' := M) (C' := True) (by decide +kernel) rfl trivial ?_
          refine ax_jle (off := 7) (tgt := 64) (by decide +kernel) (by decide) (fun h19 => ?_) (fun h19 => ?_)
          · refine ax_lump ax_layC ok_kX0 [(64, .iconst 0, 1, 0, 0, 0), (65, .istore 5, 2, 0, 0, 0), (67, .aload_n 0, 1, 0, 0, 0), (68, .getfield 9, 3, 0, 0, 0), (71, .iload 4, 2, 0, 0, 0), (73, .iaload, 1, 0, 0, 0), (74, .iload_n 1, 1, 0, 0, 0)] (pc' := 75) (lc' := [(5, (0, 0, 0)), (0, (2, 0, (b : Int))), (1, (0, 0, w1)), (2, (0, 0, w2)), (3, (0, 0, v3)), (4, (0, 0, (i : Int)))]) (st' := [(0, 0, w1), (0, 0, (M (b + 1) i))]) (M' := M) (C' := (True ∧ (0 ≤ (i : Int) ∧ (i : Int) < ((64 : Nat) : Int)))) (by decide +kernel) rfl ⟨trivial, by omega⟩ ?_
            refine ax_jne (off := 32) (tgt := 107) (by decide +kernel) (by decide) (fun h20 => ?_) (fun h20 => ?_)
            · refine ax_lump ax_layC ok_kX0 [(107, .iinc 4 1, 3, 1, 0, 0), (110, .goto (-105), 3, 5, 0, 0)] (pc' := 5) (lc' := [(4, (0, 0, ((i : Int) + 1))), (5, (0, 0, 0)), (0, (2, 0, (b : Int))), (1, (0, 0, w1)), (2, (0, 0, w2)), (3, (0, 0, v3))]) (st' := []) (M' := M) (C' := (True ∧ ax_r32 ((i : Int) + 1))) (by decide +kernel) rfl ⟨trivial, ⟨by omega, by omega⟩⟩ ?_
              refine ax_pk [2,3,4,5,0] (lc' := [(0, (2, 0, (b : Int))), (1, (0, 0, w1)), (2, (0, 0, w2)), (3, (0, 0, v3)), (4, (0, 0, ((i : Int) + 1)))]) rfl ?_
              exact hkc v3 (by omega)
            · refine ax_lump ax_layC ok_kX0 [(78, .iload 5, 2, 0, 0, 0)] (pc' := 80) (lc' := [(5, (0, 0, 0)), (0, (2, 0, (b : Int))), (1, (0, 0, w1)), (2, (0, 0, w2)), (3, (0, 0, v3)), (4, (0, 0, (i : Int)))]) (st' := [(0, 0, 0)]) (M' := M) (C' := True) (by decide +kernel) rfl trivial ?_
              refine ax_if_eq (off := 27) (tgt := 107) (by decide +kernel) (by decide) (fun h21 => ?_) (fun h21 => ?_)
              · refine ax_lump ax_layC ok_kX0 [(107, .iinc 4 1, 3, 1, 0, 0), (110, .goto (-105), 3, 5, 0, 0)] (pc' := 5) (lc' := [(4, (0, 0, ((i : Int) + 1))), (5, (0, 0, 0)), (0, (2, 0, (b : Int))), (1, (0, 0, w1)), (2, (0, 0, w2)), (3, (0, 0, v3))]) (st' := []) (M' := M) (C' := (True ∧ ax_r32 ((i : Int) + 1))) (by decide +kernel) rfl ⟨trivial, ⟨by omega, by omega⟩⟩ ?_
                refine ax_pk [2,3,4,5,0] (lc' := [(0, (2, 0, (b : Int))), (1, (0, 0, w1)), (2, (0, 0, w2)), (3, (0, 0, v3)), (4, (0, 0, ((i : Int) + 1)))]) rfl ?_
                exact hkc v3 (by omega)
              · exfalso; omega
          · refine ax_lump ax_layC ok_kX0 [(60, .iconst 1, 1, 0, 0, 0), (61, .goto 4, 3, 65, 0, 0), (65, .istore 5, 2, 0, 0, 0), (67, .aload_n 0, 1, 0, 0, 0), (68, .getfield 9, 3, 0, 0, 0), (71, .iload 4, 2, 0, 0, 0), (73, .iaload, 1, 0, 0, 0), (74, .iload_n 1, 1, 0, 0, 0)] (pc' := 75) (lc' := [(5, (0, 0, 1)), (0, (2, 0, (b : Int))), (1, (0, 0, w1)), (2, (0, 0, w2)), (3, (0, 0, v3)), (4, (0, 0, (i : Int)))]) (st' := [(0, 0, w1), (0, 0, (M (b + 1) i))]) (M' := M) (C' := (True ∧ (0 ≤ (i : Int) ∧ (i : Int) < ((64 : Nat) : Int)))) (by decide +kernel) rfl ⟨trivial, by omega⟩ ?_
            refine ax_jne (off := 32) (tgt := 107) (by decide +kernel) (by decide) (fun h22 => ?_) (fun h22 => ?_)
            · refine ax_lump ax_layC ok_kX0 [(107, .iinc 4 1, 3, 1, 0, 0), (110, .goto (-105), 3, 5, 0, 0)] (pc' := 5) (lc' := [(4, (0, 0, ((i : Int) + 1))), (5, (0, 0, 1)), (0, (2, 0, (b : Int))), (1, (0, 0, w1)), (2, (0, 0, w2)), (3, (0, 0, v3))]) (st' := []) (M' := M) (C' := (True ∧ ax_r32 ((i : Int) + 1))) (by decide +kernel) rfl ⟨trivial, ⟨by omega, by omega⟩⟩ ?_
              refine ax_pk [2,3,4,5,0] (lc' := [(0, (2, 0, (b : Int))), (1, (0, 0, w1)), (2, (0, 0, w2)), (3, (0, 0, v3)), (4, (0, 0, ((i : Int) + 1)))]) rfl ?_
              exact hkc v3 (by omega)
            · refine ax_lump ax_layC ok_kX0 [(78, .iload 5, 2, 0, 0, 0)] (pc' := 80) (lc' := [(5, (0, 0, 1)), (0, (2, 0, (b : Int))), (1, (0, 0, w1)), (2, (0, 0, w2)), (3, (0, 0, v3)), (4, (0, 0, (i : Int)))]) (st' := [(0, 0, 1)]) (M' := M) (C' := True) (by decide +kernel) rfl trivial ?_
              refine ax_if_eq (off := 27) (tgt := 107) (by decide +kernel) (by decide) (fun h23 => ?_) (fun h23 => ?_)
              · exfalso; omega
              · refine ax_lump ax_layC ok_kX0 [(83, .iload_n 3, 1, 0, 0, 0), (84, .iconst (-1), 1, 0, 0, 0)] (pc' := 85) (lc' := [(5, (0, 0, 1)), (0, (2, 0, (b : Int))), (1, (0, 0, w1)), (2, (0, 0, w2)), (3, (0, 0, v3)), (4, (0, 0, (i : Int)))]) (st' := [(0, 0, (-1)), (0, 0, v3)]) (M' := M) (C' := True) (by decide +kernel) rfl trivial ?_
                refine ax_jeq (off := 19) (tgt := 104) (by decide +kernel) (by decide) (fun h24 => ?_) (fun h24 => ?_)
                · refine ax_lump ax_layC ok_kX0 [(104, .iload 4, 2, 0, 0, 0), (106, .istore_n 3, 1, 0, 0, 0), (107, .iinc 4 1, 3, 1, 0, 0), (110, .goto (-105), 3, 5, 0, 0)] (pc' := 5) (lc' := [(4, (0, 0, ((i : Int) + 1))), (3, (0, 0, (i : Int))), (5, (0, 0, 1)), (0, (2, 0, (b : Int))), (1, (0, 0, w1)), (2, (0, 0, w2))]) (st' := []) (M' := M) (C' := (True ∧ ax_r32 ((i : Int) + 1))) (by decide +kernel) rfl ⟨trivial, ⟨by omega, by omega⟩⟩ ?_
                  refine ax_pk [3,4,5,1,0] (lc' := [(0, (2, 0, (b : Int))), (1, (0, 0, w1)), (2, (0, 0, w2)), (3, (0, 0, (i : Int))), (4, (0, 0, ((i : Int) + 1)))]) rfl ?_
                  exact hkc (i : Int) (by omega)
                · refine ax_lump ax_layC ok_kX0 [(88, .aload_n 0, 1, 0, 0, 0), (89, .getfield 18, 3, 0, 2, 0), (92, .iload 4, 2, 0, 0, 0), (94, .iaload, 1, 0, 0, 0), (95, .aload_n 0, 1, 0, 0, 0), (96, .getfield 18, 3, 0, 2, 0), (99, .iload_n 3, 1, 0, 0, 0), (100, .iaload, 1, 0, 0, 0)] (pc' := 101) (lc' := [(5, (0, 0, 1)), (0, (2, 0, (b : Int))), (1, (0, 0, w1)), (2, (0, 0, w2)), (3, (0, 0, v3)), (4, (0, 0, (i : Int)))]) (st' := [(0, 0, (M (b + 3) v3.toNat)), (0, 0, (M (b + 3) i))]) (M' := M) (C' := ((True ∧ (0 ≤ (i : Int) ∧ (i : Int) < ((64 : Nat) : Int))) ∧ (0 ≤ v3 ∧ v3 < ((64 : Nat) : Int)))) (by decide +kernel) rfl ⟨⟨trivial, by omega⟩, by omega⟩ ?_
                  refine ax_jle (off := 6) (tgt := 107) (by decide +kernel) (by decide) (fun h25 => ?_) (fun h25 => ?_)
                  · refine ax_lump ax_layC ok_kX0 [(107, .iinc 4 1, 3, 1, 0, 0), (110, .goto (-105), 3, 5, 0, 0)] (pc' := 5) (lc' := [(4, (0, 0, ((i : Int) + 1))), (5, (0, 0, 1)), (0, (2, 0, (b : Int))), (1, (0, 0, w1)), (2, (0, 0, w2)), (3, (0, 0, v3))]) (st' := []) (M' := M) (C' := (True ∧ ax_r32 ((i : Int) + 1))) (by decide +kernel) rfl ⟨trivial, ⟨by omega, by omega⟩⟩ ?_
                    refine ax_pk [2,3,4,5,0] (lc' := [(0, (2, 0, (b : Int))), (1, (0, 0, w1)), (2, (0, 0, w2)), (3, (0, 0, v3)), (4, (0, 0, ((i : Int) + 1)))]) rfl ?_
                    exact hkc v3 (by omega)
                  · refine ax_lump ax_layC ok_kX0 [(104, .iload 4, 2, 0, 0, 0), (106, .istore_n 3, 1, 0, 0, 0), (107, .iinc 4 1, 3, 1, 0, 0), (110, .goto (-105), 3, 5, 0, 0)] (pc' := 5) (lc' := [(4, (0, 0, ((i : Int) + 1))), (3, (0, 0, (i : Int))), (5, (0, 0, 1)), (0, (2, 0, (b : Int))), (1, (0, 0, w1)), (2, (0, 0, w2))]) (st' := []) (M' := M) (C' := (True ∧ ax_r32 ((i : Int) + 1))) (by decide +kernel) rfl ⟨trivial, ⟨by omega, by omega⟩⟩ ?_
                    refine ax_pk [3,4,5,1,0] (lc' := [(0, (2, 0, (b : Int))), (1, (0, 0, w1)), (2, (0, 0, w2)), (3, (0, 0, (i : Int))), (4, (0, 0, ((i : Int) + 1)))]) rfl ?_
                    exact hkc (i : Int) (by omega)
set_option maxRecDepth 100000 in
set_option maxHeartbeats 4000000 in
theorem w_X0_copyBehind_L5 (d : Nat) (b : Nat) (w1 : Int) (w2 : Int) (M : ax_M) (kx : Int → Int)  (hkx : ∀ (x3 : Int), (((-1) ≤ x3 ∧ x3 ≤ 63)) → ax_W ax_LC gX0_copyBehind (d + 0) 113 [(3, (0, 0, x3))] [] M ((ax_qi (-1) 63 M) (kx x3))) : ∀ (n : Nat) (i : Nat) (v3 : Int), 0 ≤ i ∧ i + n = 64 → (-1) ≤ v3 ∧ v3 ≤ 63 → ax_W ax_LC gX0_copyBehind (d + 0) 5 [(0, (2, 0, (b : Int))), (1, (0, 0, w1)), (2, (0, 0, w2)), (3, (0, 0, v3)), (4, (0, 0, (i : Int)))] [] M ((ax_qi (-1) 63 M) (f_X0_copyBehind_L5 b w1 w2 M n i v3 kx)) := by
  intro n
  induction n with
  | zero =>
    intro i v3 hin hv3
    refine ax_lump ax_layC ok_kX0 [(5, .iload 4, 2, 0, 0, 0), (7, .bipush 64, 2, 0, 0, 0)] (pc' := 9) (lc' := [(0, (2, 0, (b : Int))), (1, (0, 0, w1)), (2, (0, 0, w2)), (3, (0, 0, v3)), (4, (0, 0, (i : Int)))]) (st' := [(0, 0, 64), (0, 0, (i : Int))]) (M' := M) (C' := True) (by decide +kernel) rfl trivial ?_
    refine ax_icmp_ge (off := 104) (tgt := 113) (by decide +kernel) (by decide) (fun h => ?_) (fun h => ?_)
    · refine ax_pk [3] (lc' := [(3, (0, 0, v3))]) rfl ?_
      exact hkx v3 (by omega)
    · exfalso; omega
  | succ n ih =>
    intro i v3 hin hv3
    refine ax_lump ax_layC ok_kX0 [(5, .iload 4, 2, 0, 0, 0), (7, .bipush 64, 2, 0, 0, 0)] (pc' := 9) (lc' := [(0, (2, 0, (b : Int))), (1, (0, 0, w1)), (2, (0, 0, w2)), (3, (0, 0, v3)), (4, (0, 0, (i : Int)))]) (st' := [(0, 0, 64), (0, 0, (i : Int))]) (M' := M) (C' := True) (by decide +kernel) rfl trivial ?_
    refine ax_icmp_ge (off := 104) (tgt := 113) (by decide +kernel) (by decide) (fun h => ?_) (fun h => ?_)
    · exfalso; omega
    · exact wb_X0_copyBehind_B5 d b w1 w2 M i v3 _ kx  (by omega) hv3 (fun u3 hu3 => ih (i + 1) u3 (by omega) hu3) hkx
def f_X0_copyBehind (b : Nat) (x1 : Int) (x2 : Int) (M : ax_M) : Int := f_X0_copyBehind_L5 b x1 x2 M 64 0 (-1) (fun z26 => z26)
set_option maxRecDepth 100000 in
set_option maxHeartbeats 4000000 in
theorem c_X0_copyBehind (d : Nat) (b : Nat) (x1 : Int) (x2 : Int) (M : ax_M)  : ax_Met ax_LC gX0_copyBehind (d + 0) [(2, 0, (b : Int)), (0, 0, x1), (0, 0, x2)] M ((ax_qi (-1) 63 M) (f_X0_copyBehind b x1 x2 M)) := by
  refine ax_body (by decide) (fun X => Nat.le_of_ble_eq_true rfl) (fun hok => ?_)
  have hr_x1 : (-2147483648) ≤ x1 ∧ x1 ≤ 2147483647 := hok (0, 0, x1) (by simp)
  have hr_x2 : (-2147483648) ≤ x2 ∧ x2 ≤ 2147483647 := hok (0, 0, x2) (by simp)
  show ax_W ax_LC gX0_copyBehind (d + 0) 0 [(0, (2, 0, (b : Int))), (1, (0, 0, x1)), (2, (0, 0, x2))] [] M _
  unfold f_X0_copyBehind
  refine ax_lump ax_layC ok_kX0 [(0, .iconst (-1), 1, 0, 0, 0), (1, .istore_n 3, 1, 0, 0, 0), (2, .iconst 0, 1, 0, 0, 0), (3, .istore 4, 2, 0, 0, 0)] (pc' := 5) (lc' := [(4, (0, 0, 0)), (3, (0, 0, (-1))), (0, (2, 0, (b : Int))), (1, (0, 0, x1)), (2, (0, 0, x2))]) (st' := []) (M' := M) (C' := True) (by decide +kernel) rfl trivial ?_
  refine ax_pk [2,3,4,1,0] (lc' := [(0, (2, 0, (b : Int))), (1, (0, 0, x1)), (2, (0, 0, x2)), (3, (0, 0, (-1))), (4, (0, 0, 0))]) rfl ?_
  refine w_X0_copyBehind_L5 d b x1 x2 M _  (fun z26 hx_26 => ?_) 64 0 (-1) (by omega) (by omega)
  refine ax_lump ax_layC ok_kX0 [(113, .iload_n 3, 1, 0, 0, 0)] (pc' := 114) (lc' := [(3, (0, 0, z26))]) (st' := [(0, 0, z26)]) (M' := M) (C' := True) (by decide +kernel) rfl trivial ?_
  exact ax_iret (by decide +kernel) rfl ⟨rfl, rfl, (show ((-1) : Int) ≤ z26 from by omega), (show z26 ≤ (63 : Int) from by omega)⟩
def f_X0_isHot (b : Nat) (x1 : Int) (M : ax_M) : Int := (if x1 < 0 then 0 else (if 24 ≤ x1 then 0 else (if (M (b + 8) 1) = 0 then 0 else (if (M (b + 7) x1.toNat) < (M (b + 8) 2) then 0 else 1))))
set_option maxRecDepth 100000 in
set_option maxHeartbeats 4000000 in
theorem c_X0_isHot (d : Nat) (b : Nat) (x1 : Int) (M : ax_M)  : ax_Met ax_LC gX0_isHot (d + 0) [(2, 0, (b : Int)), (0, 0, x1)] M ((ax_qi 0 1 M) (f_X0_isHot b x1 M)) := by
  refine ax_body (by decide) (fun X => Nat.le_of_ble_eq_true rfl) (fun hok => ?_)
  have hr_x1 : (-2147483648) ≤ x1 ∧ x1 ≤ 2147483647 := hok (0, 0, x1) (by simp)
  show ax_W ax_LC gX0_isHot (d + 0) 0 [(0, (2, 0, (b : Int))), (1, (0, 0, x1))] [] M _
  unfold f_X0_isHot
  refine ax_lump ax_layC ok_kX0 [(0, .iload_n 1, 1, 0, 0, 0)] (pc' := 1) (lc' := [(0, (2, 0, (b : Int))), (1, (0, 0, x1))]) (st' := [(0, 0, x1)]) (M' := M) (C' := True) (by decide +kernel) rfl trivial ?_
  refine ax_zlt (off := 37) (tgt := 38) (by decide +kernel) (by decide) (fun h1 => ?_) (fun h1 => ?_)
  · refine ax_lump ax_layC ok_kX0 [(38, .iconst 0, 1, 0, 0, 0)] (pc' := 39) (lc' := [(0, (2, 0, (b : Int))), (1, (0, 0, x1))]) (st' := [(0, 0, 0)]) (M' := M) (C' := True) (by decide +kernel) rfl trivial ?_
    exact ax_zret (by decide +kernel) rfl (by omega) ⟨rfl, rfl, (show (0 : Int) ≤ 0 from by omega), (show 0 ≤ (1 : Int) from by omega)⟩
  · refine ax_lump ax_layC ok_kX0 [(4, .iload_n 1, 1, 0, 0, 0), (5, .bipush 24, 2, 0, 0, 0)] (pc' := 7) (lc' := [(0, (2, 0, (b : Int))), (1, (0, 0, x1))]) (st' := [(0, 0, 24), (0, 0, x1)]) (M' := M) (C' := True) (by decide +kernel) rfl trivial ?_
    refine ax_jge (off := 31) (tgt := 38) (by decide +kernel) (by decide) (fun h2 => ?_) (fun h2 => ?_)
    · refine ax_lump ax_layC ok_kX0 [(38, .iconst 0, 1, 0, 0, 0)] (pc' := 39) (lc' := [(0, (2, 0, (b : Int))), (1, (0, 0, x1))]) (st' := [(0, 0, 0)]) (M' := M) (C' := True) (by decide +kernel) rfl trivial ?_
      exact ax_zret (by decide +kernel) rfl (by omega) ⟨rfl, rfl, (show (0 : Int) ≤ 0 from by omega), (show 0 ≤ (1 : Int) from by omega)⟩
    · refine ax_lump ax_layC ok_kX0 [(10, .aload_n 0, 1, 0, 0, 0), (11, .getfield 33, 3, 0, 7, 0), (14, .iconst 1, 1, 0, 0, 0), (15, .iaload, 1, 0, 0, 0)] (pc' := 16) (lc' := [(0, (2, 0, (b : Int))), (1, (0, 0, x1))]) (st' := [(0, 0, (M (b + 8) 1))]) (M' := M) (C' := (True ∧ (0 ≤ 1 ∧ 1 < ((3 : Nat) : Int)))) (by decide +kernel) rfl ⟨trivial, by omega⟩ ?_
      refine ax_zeq (off := 22) (tgt := 38) (by decide +kernel) (by decide) (fun h3 => ?_) (fun h3 => ?_)
      · refine ax_lump ax_layC ok_kX0 [(38, .iconst 0, 1, 0, 0, 0)] (pc' := 39) (lc' := [(0, (2, 0, (b : Int))), (1, (0, 0, x1))]) (st' := [(0, 0, 0)]) (M' := M) (C' := True) (by decide +kernel) rfl trivial ?_
        exact ax_zret (by decide +kernel) rfl (by omega) ⟨rfl, rfl, (show (0 : Int) ≤ 0 from by omega), (show 0 ≤ (1 : Int) from by omega)⟩
      · refine ax_lump ax_layC ok_kX0 [(19, .aload_n 0, 1, 0, 0, 0), (20, .getfield 30, 3, 0, 6, 0), (23, .iload_n 1, 1, 0, 0, 0), (24, .iaload, 1, 0, 0, 0), (25, .aload_n 0, 1, 0, 0, 0), (26, .getfield 33, 3, 0, 7, 0), (29, .iconst 2, 1, 0, 0, 0), (30, .iaload, 1, 0, 0, 0)] (pc' := 31) (lc' := [(0, (2, 0, (b : Int))), (1, (0, 0, x1))]) (st' := [(0, 0, (M (b + 8) 2)), (0, 0, (M (b + 7) x1.toNat))]) (M' := M) (C' := ((True ∧ (0 ≤ x1 ∧ x1 < ((24 : Nat) : Int))) ∧ (0 ≤ 2 ∧ 2 < ((3 : Nat) : Int)))) (by decide +kernel) rfl ⟨⟨trivial, by omega⟩, by omega⟩ ?_
        refine ax_jlt (off := 7) (tgt := 38) (by decide +kernel) (by decide) (fun h4 => ?_) (fun h4 => ?_)
        · refine ax_lump ax_layC ok_kX0 [(38, .iconst 0, 1, 0, 0, 0)] (pc' := 39) (lc' := [(0, (2, 0, (b : Int))), (1, (0, 0, x1))]) (st' := [(0, 0, 0)]) (M' := M) (C' := True) (by decide +kernel) rfl trivial ?_
          exact ax_zret (by decide +kernel) rfl (by omega) ⟨rfl, rfl, (show (0 : Int) ≤ 0 from by omega), (show 0 ≤ (1 : Int) from by omega)⟩
        · refine ax_lump ax_layC ok_kX0 [(34, .iconst 1, 1, 0, 0, 0), (35, .goto 4, 3, 39, 0, 0)] (pc' := 39) (lc' := [(0, (2, 0, (b : Int))), (1, (0, 0, x1))]) (st' := [(0, 0, 1)]) (M' := M) (C' := True) (by decide +kernel) rfl trivial ?_
          exact ax_zret (by decide +kernel) rfl (by omega) ⟨rfl, rfl, (show (0 : Int) ≤ 1 from by omega), (show 1 ≤ (1 : Int) from by omega)⟩
def f_X0_sumOfLeaves_B5 (b : Nat) (M : ax_M) (i : Nat) (v1 : Int) (kc : Int → Int) (kx : Int → Int) : Int := (if (M (b + 1) i) ≠ (-1) then ax_bd (ax_wr ((ax_wr (31 * v1)) + (ax_wr ((ax_wr ((ax_wr (100 * (M (b + 1) i))) + 100)) + (M (b + 2) i))))) (fun y2 => kc y2) else ax_bd (ax_wr ((ax_wr (31 * v1)) + 0)) (fun y3 => kc y3))
def f_X0_sumOfLeaves_L5 (b : Nat) (M : ax_M) : Nat → Nat → Int → (Int → Int) → Int
  | 0, i, v1, kx => kx v1
  | n + 1, i, v1, kx => f_X0_sumOfLeaves_B5 b M i v1 (fun u1 => f_X0_sumOfLeaves_L5 b M n (i + 1) u1 kx) kx
set_option maxRecDepth 100000 in
set_option maxHeartbeats 4000000 in
theorem wb_X0_sumOfLeaves_B5 (d : Nat) (b : Nat) (M : ax_M) (i : Nat) (v1 : Int) (kc : Int → Int) (kx : Int → Int)  (hi : 0 ≤ i ∧ i < 64)  (hkc : ∀ (u1 : Int), ax_W ax_LC gX0_sumOfLeaves (d + 0) 5 [(0, (2, 0, (b : Int))), (1, (0, 0, u1)), (2, (0, 0, ((i : Int) + 1)))] [] M ((ax_qi (-2147483648) 2147483647 M) (kc u1))) (hkx : ∀ (x1 : Int), (True) → ax_W ax_LC gX0_sumOfLeaves (d + 0) 56 [(1, (0, 0, x1))] [] M ((ax_qi (-2147483648) 2147483647 M) (kx x1))) : ax_W ax_LC gX0_sumOfLeaves (d + 0) 11 [(0, (2, 0, (b : Int))), (1, (0, 0, v1)), (2, (0, 0, (i : Int)))] [] M ((ax_qi (-2147483648) 2147483647 M) (f_X0_sumOfLeaves_B5 b M i v1 kc kx)) := by
  unfold f_X0_sumOfLeaves_B5
  refine ax_lump ax_layC ok_kX0 [(11, .bipush 31, 2, 0, 0, 0), (13, .iload_n 1, 1, 0, 0, 0), (14, .imul, 1, 0, 0, 0), (15, .aload_n 0, 1, 0, 0, 0), (16, .getfield 9, 3, 0, 0, 0), (19, .iload_n 2, 1, 0, 0, 0), (20, .iaload, 1, 0, 0, 0), (21, .iconst (-1), 1, 0, 0, 0)] (pc' := 22) (lc' := [(0, (2, 0, (b : Int))), (1, (0, 0, v1)), (2, (0, 0, (i : Int)))]) (st' := [(0, 0, (-1)), (0, 0, (M (b + 1) i)), (0, 0, (ax_wr (31 * v1)))]) (M' := M) (C' := (True ∧ (0 ≤ (i : Int) ∧ (i : Int) < ((64 : Nat) : Int)))) (by decide +kernel) rfl ⟨trivial, by omega⟩ ?_
  refine ax_jne (off := 7) (tgt := 29) (by decide +kernel) (by decide) (fun h1 => ?_) (fun h1 => ?_)
  · refine ax_lump ax_layC ok_kX0 [(29, .bipush 100, 2, 0, 0, 0), (31, .aload_n 0, 1, 0, 0, 0), (32, .getfield 9, 3, 0, 0, 0), (35, .iload_n 2, 1, 0, 0, 0), (36, .iaload, 1, 0, 0, 0), (37, .imul, 1, 0, 0, 0), (38, .bipush 100, 2, 0, 0, 0), (40, .iadd, 1, 0, 0, 0), (41, .aload_n 0, 1, 0, 0, 0), (42, .getfield 15, 3, 0, 1, 0), (45, .iload_n 2, 1, 0, 0, 0), (46, .iaload, 1, 0, 0, 0), (47, .iadd, 1, 0, 0, 0), (48, .iadd, 1, 0, 0, 0), (49, .istore_n 1, 1, 0, 0, 0)] (pc' := 50) (lc' := [(1, (0, 0, (ax_wr ((ax_wr (31 * v1)) + (ax_wr ((ax_wr ((ax_wr (100 * (M (b + 1) i))) + 100)) + (M (b + 2) i))))))), (0, (2, 0, (b : Int))), (2, (0, 0, (i : Int)))]) (st' := []) (M' := M) (C' := ((True ∧ (0 ≤ (i : Int) ∧ (i : Int) < ((64 : Nat) : Int))) ∧ (0 ≤ (i : Int) ∧ (i : Int) < ((64 : Nat) : Int)))) (by decide +kernel) rfl ⟨⟨trivial, by omega⟩, by omega⟩ ?_
    refine ax_bdI0 (e := (ax_wr ((ax_wr (31 * v1)) + (ax_wr ((ax_wr ((ax_wr (100 * (M (b + 1) i))) + 100)) + (M (b + 2) i)))))) (fun y2 => [(1, (0, 0, y2)), (0, (2, 0, (b : Int))), (2, (0, 0, (i : Int)))]) (fun y2 => []) (fun y2 => ?_)
    refine ax_lump ax_layC ok_kX0 [(50, .iinc 2 1, 3, 1, 0, 0), (53, .goto (-48), 3, 5, 0, 0)] (pc' := 5) (lc' := [(2, (0, 0, ((i : Int) + 1))), (1, (0, 0, y2)), (0, (2, 0, (b : Int)))]) (st' := []) (M' := M) (C' := (True ∧ ax_r32 ((i : Int) + 1))) (by decide +kernel) rfl ⟨trivial, ⟨by omega, by omega⟩⟩ ?_
    refine ax_pk [2,1,0] (lc' := [(0, (2, 0, (b : Int))), (1, (0, 0, y2)), (2, (0, 0, ((i : Int) + 1)))]) rfl ?_
    exact hkc y2 
  · refine ax_lump ax_layC ok_kX0 [(25, .iconst 0, 1, 0, 0, 0), (26, .goto 22, 3, 48, 0, 0), (48, .iadd, 1, 0, 0, 0), (49, .istore_n 1, 1, 0, 0, 0)] (pc' := 50) (lc' := [(1, (0, 0, (ax_wr ((ax_wr (31 * v1)) + 0)))), (0, (2, 0, (b : Int))), (2, (0, 0, (i : Int)))]) (st' := []) (M' := M) (C' := True) (by decide +kernel) rfl trivial ?_
    refine ax_bdI0 (e := (ax_wr ((ax_wr (31 * v1)) + 0))) (fun y3 => [(1, (0, 0, y3)), (0, (2, 0, (b : Int))), (2, (0, 0, (i : Int)))]) (fun y3 => []) (fun y3 => ?_)
    refine ax_lump ax_layC ok_kX0 [(50, .iinc 2 1, 3, 1, 0, 0), (53, .goto (-48), 3, 5, 0, 0)] (pc' := 5) (lc' := [(2, (0, 0, ((i : Int) + 1))), (1, (0, 0, y3)), (0, (2, 0, (b : Int)))]) (st' := []) (M' := M) (C' := (True ∧ ax_r32 ((i : Int) + 1))) (by decide +kernel) rfl ⟨trivial, ⟨by omega, by omega⟩⟩ ?_
    refine ax_pk [2,1,0] (lc' := [(0, (2, 0, (b : Int))), (1, (0, 0, y3)), (2, (0, 0, ((i : Int) + 1)))]) rfl ?_
    exact hkc y3 
set_option maxRecDepth 100000 in
set_option maxHeartbeats 4000000 in
theorem w_X0_sumOfLeaves_L5 (d : Nat) (b : Nat) (M : ax_M) (kx : Int → Int)  (hkx : ∀ (x1 : Int), (True) → ax_W ax_LC gX0_sumOfLeaves (d + 0) 56 [(1, (0, 0, x1))] [] M ((ax_qi (-2147483648) 2147483647 M) (kx x1))) : ∀ (n : Nat) (i : Nat) (v1 : Int), 0 ≤ i ∧ i + n = 64 → ax_W ax_LC gX0_sumOfLeaves (d + 0) 5 [(0, (2, 0, (b : Int))), (1, (0, 0, v1)), (2, (0, 0, (i : Int)))] [] M ((ax_qi (-2147483648) 2147483647 M) (f_X0_sumOfLeaves_L5 b M n i v1 kx)) := by
  intro n
  induction n with
  | zero =>
    intro i v1 hin
    refine ax_lump ax_layC ok_kX0 [(5, .iload_n 2, 1, 0, 0, 0), (6, .bipush 64, 2, 0, 0, 0)] (pc' := 8) (lc' := [(0, (2, 0, (b : Int))), (1, (0, 0, v1)), (2, (0, 0, (i : Int)))]) (st' := [(0, 0, 64), (0, 0, (i : Int))]) (M' := M) (C' := True) (by decide +kernel) rfl trivial ?_
    refine ax_icmp_ge (off := 48) (tgt := 56) (by decide +kernel) (by decide) (fun h => ?_) (fun h => ?_)
    · refine ax_pk [1] (lc' := [(1, (0, 0, v1))]) rfl ?_
      exact hkx v1 trivial
    · exfalso; omega
  | succ n ih =>
    intro i v1 hin
    refine ax_lump ax_layC ok_kX0 [(5, .iload_n 2, 1, 0, 0, 0), (6, .bipush 64, 2, 0, 0, 0)] (pc' := 8) (lc' := [(0, (2, 0, (b : Int))), (1, (0, 0, v1)), (2, (0, 0, (i : Int)))]) (st' := [(0, 0, 64), (0, 0, (i : Int))]) (M' := M) (C' := True) (by decide +kernel) rfl trivial ?_
    refine ax_icmp_ge (off := 48) (tgt := 56) (by decide +kernel) (by decide) (fun h => ?_) (fun h => ?_)
    · exfalso; omega
    · exact wb_X0_sumOfLeaves_B5 d b M i v1 _ kx  (by omega)  (fun u1 => ih (i + 1) u1 (by omega) ) hkx
def f_X0_sumOfLeaves (b : Nat) (M : ax_M) : Int := f_X0_sumOfLeaves_L5 b M 64 0 7 (fun z4 => z4)
set_option maxRecDepth 100000 in
set_option maxHeartbeats 4000000 in
theorem c_X0_sumOfLeaves (d : Nat) (b : Nat) (M : ax_M)  : ax_Met ax_LC gX0_sumOfLeaves (d + 0) [(2, 0, (b : Int))] M ((ax_qi (-2147483648) 2147483647 M) (f_X0_sumOfLeaves b M)) := by
  refine ax_body (by decide) (fun X => Nat.le_of_ble_eq_true rfl) (fun hok => ?_)
  show ax_W ax_LC gX0_sumOfLeaves (d + 0) 0 [(0, (2, 0, (b : Int)))] [] M _
  unfold f_X0_sumOfLeaves
  refine ax_lump ax_layC ok_kX0 [(0, .bipush 7, 2, 0, 0, 0), (2, .istore_n 1, 1, 0, 0, 0), (3, .iconst 0, 1, 0, 0, 0), (4, .istore_n 2, 1, 0, 0, 0)] (pc' := 5) (lc' := [(2, (0, 0, 0)), (1, (0, 0, 7)), (0, (2, 0, (b : Int)))]) (st' := []) (M' := M) (C' := True) (by decide +kernel) rfl trivial ?_
  refine ax_pk [2,1,0] (lc' := [(0, (2, 0, (b : Int))), (1, (0, 0, 7)), (2, (0, 0, 0))]) rfl ?_
  refine w_X0_sumOfLeaves_L5 d b M _  (fun z4 hx_4 => ?_) 64 0 7 (by omega) 
  refine ax_lump ax_layC ok_kX0 [(56, .iload_n 1, 1, 0, 0, 0)] (pc' := 57) (lc' := [(1, (0, 0, z4))]) (st' := [(0, 0, z4)]) (M' := M) (C' := True) (by decide +kernel) rfl trivial ?_
  refine ax_rngS (fun hr => ?_)
  exact ax_iret (by decide +kernel) rfl ⟨rfl, rfl, hr.1, hr.2⟩
def f_X1_bindingOf (x0 : Int) (M : ax_M) : Int := (if x0 = 42 then 3 else (if x0 = 43 then 2 else (if x0 = 45 then 2 else (if x0 = 47 then 3 else (if x0 = 60 then 1 else (if x0 = 61 then 1 else (if x0 = 62 then 1 else (if x0 = 256 then 4 else 0))))))))
set_option maxRecDepth 100000 in
set_option maxHeartbeats 4000000 in
theorem c_X1_bindingOf (d : Nat) (x0 : Int) (M : ax_M)  : ax_Met ax_LC gX1_bindingOf (d + 0) [(0, 0, x0)] M ((ax_qi 0 4 M) (f_X1_bindingOf x0 M)) := by
  refine ax_body (by decide) (fun X => Nat.le_of_ble_eq_true rfl) (fun hok => ?_)
  have hr_x0 : (-2147483648) ≤ x0 ∧ x0 ≤ 2147483647 := hok (0, 0, x0) (by simp)
  show ax_W ax_LC gX1_bindingOf (d + 0) 0 [(0, (0, 0, x0))] [] M _
  unfold f_X1_bindingOf
  refine ax_lump ax_layC ok_kX1 [(0, .iload_n 0, 1, 0, 0, 0)] (pc' := 1) (lc' := [(0, (0, 0, x0))]) (st' := [(0, 0, x0)]) (M' := M) (C' := True) (by decide +kernel) rfl trivial ?_
  refine ax_ite (fun h1 => ?_) (fun h1 => ?_)
  · refine ax_swLk (dflt := 83) (off := 79) (ps := #[(42, 79), (43, 77), (45, 77), (47, 79), (60, 75), (61, 75), (62, 75), (256, 81)]) (len := 75) (tgt := 80) (by decide +kernel) (by decide) (by rw [h1]; rfl) (by decide) ?_
    refine ax_lump ax_layC ok_kX1 [(80, .iconst 3, 1, 0, 0, 0)] (pc' := 81) (lc' := [(0, (0, 0, x0))]) (st' := [(0, 0, 3)]) (M' := M) (C' := True) (by decide +kernel) rfl trivial ?_
    exact ax_iret (by decide +kernel) rfl ⟨rfl, rfl, (show (0 : Int) ≤ 3 from by omega), (show 3 ≤ (4 : Int) from by omega)⟩
  · refine ax_ite (fun h2 => ?_) (fun h2 => ?_)
    · refine ax_swLk (dflt := 83) (off := 77) (ps := #[(42, 79), (43, 77), (45, 77), (47, 79), (60, 75), (61, 75), (62, 75), (256, 81)]) (len := 75) (tgt := 78) (by decide +kernel) (by decide) (by rw [h2]; rfl) (by decide) ?_
      refine ax_lump ax_layC ok_kX1 [(78, .iconst 2, 1, 0, 0, 0)] (pc' := 79) (lc' := [(0, (0, 0, x0))]) (st' := [(0, 0, 2)]) (M' := M) (C' := True) (by decide +kernel) rfl trivial ?_
      exact ax_iret (by decide +kernel) rfl ⟨rfl, rfl, (show (0 : Int) ≤ 2 from by omega), (show 2 ≤ (4 : Int) from by omega)⟩
    · refine ax_ite (fun h3 => ?_) (fun h3 => ?_)
      · refine ax_swLk (dflt := 83) (off := 77) (ps := #[(42, 79), (43, 77), (45, 77), (47, 79), (60, 75), (61, 75), (62, 75), (256, 81)]) (len := 75) (tgt := 78) (by decide +kernel) (by decide) (by rw [h3]; rfl) (by decide) ?_
        refine ax_lump ax_layC ok_kX1 [(78, .iconst 2, 1, 0, 0, 0)] (pc' := 79) (lc' := [(0, (0, 0, x0))]) (st' := [(0, 0, 2)]) (M' := M) (C' := True) (by decide +kernel) rfl trivial ?_
        exact ax_iret (by decide +kernel) rfl ⟨rfl, rfl, (show (0 : Int) ≤ 2 from by omega), (show 2 ≤ (4 : Int) from by omega)⟩
      · refine ax_ite (fun h4 => ?_) (fun h4 => ?_)
        · refine ax_swLk (dflt := 83) (off := 79) (ps := #[(42, 79), (43, 77), (45, 77), (47, 79), (60, 75), (61, 75), (62, 75), (256, 81)]) (len := 75) (tgt := 80) (by decide +kernel) (by decide) (by rw [h4]; rfl) (by decide) ?_
          refine ax_lump ax_layC ok_kX1 [(80, .iconst 3, 1, 0, 0, 0)] (pc' := 81) (lc' := [(0, (0, 0, x0))]) (st' := [(0, 0, 3)]) (M' := M) (C' := True) (by decide +kernel) rfl trivial ?_
          exact ax_iret (by decide +kernel) rfl ⟨rfl, rfl, (show (0 : Int) ≤ 3 from by omega), (show 3 ≤ (4 : Int) from by omega)⟩
        · refine ax_ite (fun h5 => ?_) (fun h5 => ?_)
          · refine ax_swLk (dflt := 83) (off := 75) (ps := #[(42, 79), (43, 77), (45, 77), (47, 79), (60, 75), (61, 75), (62, 75), (256, 81)]) (len := 75) (tgt := 76) (by decide +kernel) (by decide) (by rw [h5]; rfl) (by decide) ?_
            refine ax_lump ax_layC ok_kX1 [(76, .iconst 1, 1, 0, 0, 0)] (pc' := 77) (lc' := [(0, (0, 0, x0))]) (st' := [(0, 0, 1)]) (M' := M) (C' := True) (by decide +kernel) rfl trivial ?_
            exact ax_iret (by decide +kernel) rfl ⟨rfl, rfl, (show (0 : Int) ≤ 1 from by omega), (show 1 ≤ (4 : Int) from by omega)⟩
          · refine ax_ite (fun h6 => ?_) (fun h6 => ?_)
            · refine ax_swLk (dflt := 83) (off := 75) (ps := #[(42, 79), (43, 77), (45, 77), (47, 79), (60, 75), (61, 75), (62, 75), (256, 81)]) (len := 75) (tgt := 76) (by decide +kernel) (by decide) (by rw [h6]; rfl) (by decide) ?_
              refine ax_lump ax_layC ok_kX1 [(76, .iconst 1, 1, 0, 0, 0)] (pc' := 77) (lc' := [(0, (0, 0, x0))]) (st' := [(0, 0, 1)]) (M' := M) (C' := True) (by decide +kernel) rfl trivial ?_
              exact ax_iret (by decide +kernel) rfl ⟨rfl, rfl, (show (0 : Int) ≤ 1 from by omega), (show 1 ≤ (4 : Int) from by omega)⟩
            · refine ax_ite (fun h7 => ?_) (fun h7 => ?_)
              · refine ax_swLk (dflt := 83) (off := 75) (ps := #[(42, 79), (43, 77), (45, 77), (47, 79), (60, 75), (61, 75), (62, 75), (256, 81)]) (len := 75) (tgt := 76) (by decide +kernel) (by decide) (by rw [h7]; rfl) (by decide) ?_
                refine ax_lump ax_layC ok_kX1 [(76, .iconst 1, 1, 0, 0, 0)] (pc' := 77) (lc' := [(0, (0, 0, x0))]) (st' := [(0, 0, 1)]) (M' := M) (C' := True) (by decide +kernel) rfl trivial ?_
                exact ax_iret (by decide +kernel) rfl ⟨rfl, rfl, (show (0 : Int) ≤ 1 from by omega), (show 1 ≤ (4 : Int) from by omega)⟩
              · refine ax_ite (fun h8 => ?_) (fun h8 => ?_)
                · refine ax_swLk (dflt := 83) (off := 81) (ps := #[(42, 79), (43, 77), (45, 77), (47, 79), (60, 75), (61, 75), (62, 75), (256, 81)]) (len := 75) (tgt := 82) (by decide +kernel) (by decide) (by rw [h8]; rfl) (by decide) ?_
                  refine ax_lump ax_layC ok_kX1 [(82, .iconst 4, 1, 0, 0, 0)] (pc' := 83) (lc' := [(0, (0, 0, x0))]) (st' := [(0, 0, 4)]) (M' := M) (C' := True) (by decide +kernel) rfl trivial ?_
                  exact ax_iret (by decide +kernel) rfl ⟨rfl, rfl, (show (0 : Int) ≤ 4 from by omega), (show 4 ≤ (4 : Int) from by omega)⟩
                · refine ax_swLk (dflt := 83) (off := 83) (ps := #[(42, 79), (43, 77), (45, 77), (47, 79), (60, 75), (61, 75), (62, 75), (256, 81)]) (len := 75) (tgt := 84) (by decide +kernel) (by decide) (by simp [Op.lookupswitch.offset, Ne.symm h1, h1, Ne.symm h2, h2, Ne.symm h3, h3, Ne.symm h4, h4, Ne.symm h5, h5, Ne.symm h6, h6, Ne.symm h7, h7, Ne.symm h8, h8]) (by decide) ?_
                  refine ax_lump ax_layC ok_kX1 [(84, .iconst 0, 1, 0, 0, 0)] (pc' := 85) (lc' := [(0, (0, 0, x0))]) (st' := [(0, 0, 0)]) (M' := M) (C' := True) (by decide +kernel) rfl trivial ?_
                  exact ax_iret (by decide +kernel) rfl ⟨rfl, rfl, (show (0 : Int) ≤ 0 from by omega), (show 0 ≤ (4 : Int) from by omega)⟩
