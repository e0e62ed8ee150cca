/-! ===== the law: block, leaf, row ===== -/
theorem xt_772 : (Jvm.Cond.codeWith ({ cls := "FlashFolioLaw", name := "block", desc := "(LFlashFolio;II[J)I" } : Jvm.MethodName) method_3_code (5 : Nat) (Option.some Jvm.ClassFile.FieldType.int) [((0 : Nat), (10 : Nat), (13 : Nat), (13 : Nat))]) ∈ ax_T := ax_T_mem (lw_in 772 (by decide +kernel)) (by decide +kernel)
theorem xt_846 : (Jvm.Cond.codeWith ({ cls := "FlashFolioLaw", name := "leaf", desc := "(LFlashFolio;III[J)I" } : Jvm.MethodName) method_4_code (6 : Nat) (Option.some Jvm.ClassFile.FieldType.int) [((0 : Nat), (12 : Nat), (15 : Nat), (13 : Nat))]) ∈ ax_T := ax_T_mem (lw_in 846 (by decide +kernel)) (by decide +kernel)
theorem xt_857 : (Jvm.Cond.codeWith ({ cls := "FlashFolioLaw", name := "row", desc := "(LFlashFolio;I[J)I" } : Jvm.MethodName) method_5_code (4 : Nat) (Option.some Jvm.ClassFile.FieldType.int) [((0 : Nat), (8 : Nat), (11 : Nat), (13 : Nat))]) ∈ ax_T := ax_T_mem (lw_in 857 (by decide +kernel)) (by decide +kernel)
theorem lg_self (x : Int64) : lg_cmp x x = 0 := by simp [lg_cmp]
theorem lw_good {ws0 : List Cond} (h : ∀ w ∈ ws0, w ∈ ax_T) : GoodIn (lw_c0 :: ax_T) ws0 := fun w hw => ⟨List.mem_cons_of_mem _ (h w hw), ax_T_good (h w hw)⟩
section LWT
variable {p : Program} {l : Launch} {e : Env} {s : State} {m : MethodId} {below : List Frame} {meth : Method} {c : Code} {b L : Nat} {xs : Nat → Int32} {H : Heap} {locs : List Loc} {cells slots : Nat} {Q : State → Prop} {ls : Array Slot} {rest : List Value}
variable {qo : Nat} {cls : Nat → ClassId} {D : va_G} {ad u v : Nat → Nat} {Mc Mm : ax_M} {g : Nat → Int64}
theorem lw_J.back {n0 : Nat} {t : State} {H1 : Heap} {g' : Nat → Int64} (hJ : lw_J n0 cls D ad u v qo Mc Mm g s H) (hB : lw_J n0 cls D ad u v qo Mc Mm g' t H1) (hvm : t.vm.Alike s.vm) (hk : ∀ q : Nat, q < H.size → ¬ n0 ≤ q → H1[q]? = H[q]?) : lw_J n0 cls D ad u v qo Mc Mm g' s H1 :=
  ⟨hB.1.moved hvm, hB.2.1.moved hvm, hB.2.2.1, hJ.nK (A1 := fun q => n0 ≤ q) hk (fun _ h => h), hJ.2.2.2.2⟩
set_option maxHeartbeats 1000000 in
theorem lw_tail_block (C0 : lw_At p s m meth c b L xs) (hL : L ≤ 2560) {i : Nat} (hi : i + 5 ≤ L) (hl : lv_has ls 8 [(4, .int (Int32.ofNat i)), (0, .ref b), (1, .ref (u 0)), (2, .ref (v 0)), (3, .ref qo)]) (hS : va_S (fun q => s.heap.size ≤ q) s.heap H locs) (hJ : lw_J s.heap.size cls D ad u v qo Mc Mm g s H) (hc : cells ≤ 601024 ∧ slots ≤ 7293034) {r : Int32} {x1 x2 : Int} (hx1 : xs (i + 1) = Int32.ofInt x1) (h1 : ax_r32 x1) (hx2 : xs (i + 2) = Int32.ofInt x2) (h2 : ax_r32 x2)
    (hcase : (r = 0 ∧ (f_X3_block x1 x2 Mm).2 0 0 = 0 ∧ g 0 = (Int32.ofInt (f_X3_block x1 x2 Mm).1).toInt64) ∨ (r = 1 ∧ (f_X3_block x1 x2 Mm).2 0 0 = 1))
    (kk : ∀ (H1 : Heap) (locs1 : List Loc) (ls1 : Array Slot), lv_has ls1 8 [(4, .int (Int32.ofNat i)), (0, .ref b), (1, .ref (u 0)), (2, .ref (v 0)), (3, .ref qo)] → lw_J s.heap.size cls D ad u v qo Mc (f_X3_block x1 x2 Mm).2 g s H1 → va_S (fun q => s.heap.size ≤ q) s.heap H1 locs1 → W p l e room_1 s m #[Value.ref b] below meth c H1 locs1 cells slots Q (F0 m 1309 ls1 [])) :
    W p l e room_1 s m #[Value.ref b] below meth c H locs cells slots Q (F0 m 296 ls [.int r]) := by
  have hfix := lw_fix C0
  have hx := C0.1
  have hb := C0.2.1
  refine lv_istore (lv' := [(5, .int r), (4, .int (Int32.ofNat i)), (0, .ref b), (1, .ref (u 0)), (2, .ref (v 0)), (3, .ref qo)]) hx hb (show decode code 296 = .ok (.istore 5, 2) by decide +kernel) hl (by decide) rfl (fun ls5 hv5 => ?_)
  have hl5 : lv_has ls5 8 [(4, .int (Int32.ofNat i)), (0, .ref b), (1, .ref (u 0)), (2, .ref (v 0)), (3, .ref qo)] := lv_sub hv5 [1, 2, 3, 4, 5] rfl
  refine lv_aload_n hx hb (show decode code 298 = .ok (.aload_n 2, 1) by decide +kernel) rfl (lv_at hl5 3 rfl) ?_
  refine lw_load C0 hL hi hl5 hS [1, 2] 299 [.ref (v 0)] (by decide) (by decide +kernel) ?_
  show W p l e room_1 s m #[Value.ref b] below meth c H locs cells slots Q (F0 m 311 ls5 (.int (xs (i + 2)) :: .int (xs (i + 1)) :: .ref (v 0) :: []))
  rw [hx1, hx2]
  refine mx_callV (L := ax_LM) (X := (v, cls, D)) (M := Mm) (as := [(0, 0, x1), (0, 0, x2)]) (rest := []) (c0 := lw_c0) rfl hfix (show decode code 311 = .ok (.invokevirtual 47, 3) by decide +kernel) ax_cls3 calX3_block (Nat.le_of_ble_eq_true rfl) (Nat.le_of_ble_eq_true rfl) rfl xt_1085 xt_1086 xt_1087 (by decide) (c_X3_block 100 x1 x2 Mm) rfl (fun w hw => by rcases List.mem_cons.mp hw with e | hw; exact e ▸ h1; rcases List.mem_cons.mp hw with e | hw; exact e ▸ h2; cases hw) hJ.2.1 hJ.2.2.2.1 (fun q h => (hJ.2.2.2.2.2.1 q h).1) hJ.2.2.2.2.2.2.2.2 hS (fun q h => (hJ.2.2.2.2.2.1 q h).1) hl5.1 hc (fun rr M1 H1 locs1 hq _ hR1 _ hk1 hS1 => ?_)
  obtain ⟨rfl, hM1, _, _⟩ := hq
  subst hM1
  have hJ1 := hJ.m hR1 hk1
  refine lv_istore (x := Int32.ofInt (f_X3_block x1 x2 Mm).1) (lv' := [(6, .int (Int32.ofInt (f_X3_block x1 x2 Mm).1)), (5, .int r), (4, .int (Int32.ofNat i)), (0, .ref b), (1, .ref (u 0)), (2, .ref (v 0)), (3, .ref qo)]) hx hb (show decode code 314 = .ok (.istore 6, 2) by decide +kernel) hv5 (by decide) rfl (fun ls6 hv6 => ?_)
  have hl6 : lv_has ls6 8 [(4, .int (Int32.ofNat i)), (0, .ref b), (1, .ref (u 0)), (2, .ref (v 0)), (3, .ref qo)] := lv_sub hv6 [2, 3, 4, 5, 6] rfl
  refine lv_aload_n hx hb (show decode code 316 = .ok (.aload_n 2, 1) by decide +kernel) rfl (lv_at hl6 3 rfl) ?_
  refine mx_callV (L := ax_LM) (X := (v, cls, D)) (M := (f_X3_block x1 x2 Mm).2) (as := []) (rest := []) (c0 := lw_c0) rfl hfix (show decode code 317 = .ok (.invokevirtual 48, 3) by decide +kernel) ax_cls3 calX3_thrown (Nat.le_of_ble_eq_true rfl) (Nat.le_of_ble_eq_true rfl) rfl xt_863 xt_864 xt_865 (by decide) (c_X3_thrown 100 (f_X3_block x1 x2 Mm).2) rfl (fun w hw => nomatch hw) hJ1.2.1 hJ1.2.2.2.1 (fun q h => (hJ1.2.2.2.2.2.1 q h).1) hJ1.2.2.2.2.2.2.2.2 hS1 (fun q h => (hJ1.2.2.2.2.2.1 q h).1) hl6.1 hc (fun rr M2 H2 locs2 hq _ hR2 _ hk2 hS2 => ?_)
  obtain ⟨rfl, hM2, _, _⟩ := hq
  subst hM2
  have hJ2 := hJ1.m hR2 hk2
  refine lv_iload hx hb (show decode code 320 = .ok (.iload 5, 2) by decide +kernel) (lv_at hv6 1 rfl) ?_
  have hth : Int32.ofInt (f_X3_thrown (f_X3_block x1 x2 Mm).2) = r := by
    show Int32.ofInt ((f_X3_block x1 x2 Mm).2 0 0) = r
    rcases hcase with ⟨e1, e2, _⟩ | ⟨e1, e2⟩
    · rw [e1, e2]; rfl
    · rw [e1, e2]; rfl
  refine lv_icmp_eq hx hb (off := 5) (tgt := 327) (show decode code 322 = .ok (.if_icmp .eq 5, 3) by decide +kernel) rfl (fun _ => ?_) (fun h => absurd hth h)
  refine lv_iload hx hb (show decode code 327 = .ok (.iload 5, 2) by decide +kernel) (lv_at hv6 1 rfl) ?_
  have hend : W p l e room_1 s m #[Value.ref b] below meth c H2 locs2 cells slots Q (F0 m 344 ls6 []) := lv_goto hx hb (off := 965) (tgt := 1309) (show decode code 344 = .ok (.goto 965, 3) by decide +kernel) rfl (kk H2 locs2 ls6 hl6 hJ2 hS2)
  refine lv_if_ne hx hb (off := 15) (tgt := 344) (show decode code 329 = .ok (.ifCond .ne 15, 3) by decide +kernel) rfl (fun _ => hend) (fun h0 => ?_)
  have hg : g 0 = (Int32.ofInt (f_X3_block x1 x2 Mm).1).toInt64 := by
    rcases hcase with ⟨_, _, e3⟩ | ⟨e1, _⟩
    · exact e3
    · exact absurd (e1.symm.trans h0) (by decide)
  refine lv_aload_n hx hb (show decode code 332 = .ok (.aload_n 3, 1) by decide +kernel) rfl (lv_at hl6 4 rfl) ?_
  refine lv_iconst (v := Int32.ofInt 0) hx hb (show decode code 333 = .ok (.iconst 0, 1) by decide +kernel) (by decide) ?_
  refine va_lald hx hb hJ2.1.2.1 hJ2.2.2.1 0 1 rfl rfl (show ¬ (Int32.ofInt 0 < 0 ∨ 1 ≤ (Int32.ofInt 0).toNatClampNeg) by decide) (show decode code 334 = .ok (.laload, 1) by decide +kernel) ?_
  refine lv_iload hx hb (show decode code 335 = .ok (.iload 6, 2) by decide +kernel) (lv_at hv6 0 rfl) ?_
  refine lv_i2l (v := (Int32.ofInt (f_X3_block x1 x2 Mm).1).toInt64) hx hb (show decode code 337 = .ok (.i2l, 1) by decide +kernel) rfl ?_
  rw [show g (Int32.ofInt 0).toNatClampNeg = (Int32.ofInt (f_X3_block x1 x2 Mm).1).toInt64 from hg]
  refine W.lcmp hx hb (show decode code 338 = .ok (.lcmp, 1) by decide +kernel) ?_
  exact lv_if_eq hx hb (off := 5) (tgt := 344) (show decode code 339 = .ok (.ifCond .eq 5, 3) by decide +kernel) rfl (fun _ => hend) (fun h => absurd (lg_self _) h)
set_option maxHeartbeats 1000000 in
theorem lw_case_block (C0 : lw_At p s m meth c b L xs) (hL : L ≤ 2560) (hfl : l.stackTraces = false) (hK : ex_K s) {i : Nat} (hi : i + 5 ≤ L) (hl : lv_has ls 8 [(4, .int (Int32.ofNat i)), (0, .ref b), (1, .ref (u 0)), (2, .ref (v 0)), (3, .ref qo)]) (hS : va_S (fun q => s.heap.size ≤ q) s.heap H locs) (hJ : lw_J s.heap.size cls D ad u v qo Mc Mm g s H) (hc : cells + 1 ≤ 601024 ∧ slots + 6 ≤ 7293034) {C : Int} (hC : C ≤ 2147483647) (hG : pr_G C Mc Mm)
    (kk : ∀ (Nm : ax_M) (g1 : Nat → Int64) (H1 : Heap) (locs1 : List Loc) (ls1 : Array Slot), lv_has ls1 8 [(4, .int (Int32.ofNat i)), (0, .ref b), (1, .ref (u 0)), (2, .ref (v 0)), (3, .ref qo)] → pr_G C Mc Nm → lw_J s.heap.size cls D ad u v qo Mc Nm g1 s H1 → va_S (fun q => s.heap.size ≤ q) s.heap H1 locs1 → W p l e room_1 s m #[Value.ref b] below meth c H1 locs1 (cells + 1) (slots + 6) Q (F0 m 1309 ls1 [])) :
    W p l e room_1 s m #[Value.ref b] below meth c H locs cells slots Q (F0 m 279 ls []) := by
  have hfix := lw_fix C0
  have hx := C0.1
  have hb := C0.2.1
  obtain ⟨x1, hx1, h1⟩ : ∃ z : Int, xs (i + 1) = Int32.ofInt z ∧ ax_r32 z := ⟨_, lw_i0.symm, ax_r32_toInt _⟩
  obtain ⟨x2, hx2, h2⟩ : ∃ z : Int, xs (i + 2) = Int32.ofInt z ∧ ax_r32 z := ⟨_, lw_i0.symm, ax_r32_toInt _⟩
  refine lv_aload_n hx hb (show decode code 279 = .ok (.aload_n 1, 1) by decide +kernel) rfl (lv_at hl 2 rfl) ?_
  refine lw_load C0 hL hi hl hS [1, 2] 280 [.ref (u 0)] (by decide) (by decide +kernel) ?_
  show W p l e room_1 s m #[Value.ref b] below meth c H locs cells slots Q (F0 m 292 ls (.int (xs (i + 2)) :: .int (xs (i + 1)) :: .ref (u 0) :: []))
  rw [hx1, hx2]
  refine lv_aload_n hx hb (show decode code 292 = .ok (.aload_n 3, 1) by decide +kernel) rfl (lv_at hl 4 rfl) ?_
  have hgood : GoodIn (lw_c0 :: ax_T) (va_wsS R_law 42 yL_block wL_block) := lw_good (fun w hw => by
    rcases List.mem_append.mp hw with h | h
    · simp only [List.mem_cons, List.not_mem_nil, or_false] at h
      rcases h with h | h | h <;> subst h
      · exact xt_770
      · exact xt_771
      · exact xt_0
    · rcases List.mem_cons.mp h with h | h
      · subst h; exact xt_772
      · exact h)
  have hpre : PreS s H (lw_P1 s.heap.size cls D ad u v qo Mc Mm g [.int (Int32.ofInt x1), .int (Int32.ofInt x2)]) (.ref (u 0) :: ([.int (Int32.ofInt x1), .int (Int32.ofInt x2)] ++ [.ref qo])) :=
    ⟨lw_blind, fun U hU hW => ⟨rfl, by rw [hU]; exact hJ.warm hW, hK.warm hW, by rw [hU]; exact hS.1⟩⟩
  have hpx := px_block (x := x1) (y := x2) hC hG
  obtain ⟨hG1, hpx⟩ := hpx
  have hN1 : ∀ (g1 : Nat → Int64) (H1 : Heap) (locs1 : List Loc) (ls1 : Array Slot), lv_has ls1 8 [(4, .int (Int32.ofNat i)), (0, .ref b), (1, .ref (u 0)), (2, .ref (v 0)), (3, .ref qo)] → lw_J s.heap.size cls D ad u v qo Mc (f_X3_block x1 x2 Mm).2 g1 s H1 → va_S (fun q => s.heap.size ≤ q) s.heap H1 locs1 → W p l e room_1 s m #[Value.ref b] below meth c H1 locs1 (cells + 1) (slots + 6) Q (F0 m 1309 ls1 []) := fun g1 H1 locs1 ls1 z1 z2 z3 => kk _ g1 H1 locs1 ls1 z1 hG1 z2 z3
  rcases hpx with ⟨k1, k2, k3⟩ | ⟨k1, k2⟩
  · have hcw : vx_CSW room_1 s #[Value.ref b] R_law 42 yL_block method_3_code 5 (some .int) [(0, 10, 13, 13)] wL_block ({ frames := 20, cells := 0, slots := 0, locals := 2000 }) 0 0 4 := vx_cwSW 4 hfix.2.2.2.2 hgood rfl rfl rfl ⟨by decide, by decide, by decide +kernel⟩ ⟨Nat.le_of_ble_eq_true rfl, Nat.le_of_ble_eq_true rfl⟩
    have hrun := vx_runSW (p := p) (l := l) (e := e) (below := below) (meth := meth) (locs := locs) (cells := cells) (slots := slots) (g := F0 m 293 ls [.ref qo, .int (Int32.ofInt x2), .int (Int32.ofInt x1), .ref (u 0)]) (As := .ref (u 0) :: ([.int (Int32.ofInt x1), .int (Int32.ofInt x2)] ++ [.ref qo])) (rest := []) hfix (c_L_block h1 h2 k1) hcw hpre rfl rfl hl.1 rfl (lv_room (by decide)) (show decode code 293 = .ok (.invokestatic 42, 3) by decide +kernel) ⟨by show cells + 0 ≤ 601024; omega, by show slots + 0 ≤ 7293034; omega⟩
    refine va_calli hrun hS (fun _ _ h => h) (fun _ h => h) (fun r g1 t H1 locs1 ht hvm hpost hB hz1 hk1 hS1 => ?_)
    rw [ht] at hB
    have hJ1 := hJ.back hB hvm.symm hk1
    obtain ⟨p1, p2⟩ := hpost
    refine W.widen (k := cells + 1) (n := slots + 6) (by omega) (by omega) ?_
    exact lw_tail_block C0 hL hi hl hS1 hJ1 ⟨hc.1, hc.2⟩ hx1 h1 hx2 h2 (Or.inl ⟨p1, k2, by rw [p2, k3]⟩) (hN1 g1)
  · have hcw : vx_CSW room_1 s #[Value.ref b] R_law 42 yL_block method_3_code 5 (some .int) [(0, 10, 13, 13)] wL_block ({ frames := 20, cells := 1, slots := 6, locals := 2000 }) 1 6 4 := vx_cwSW 4 hfix.2.2.2.2 hgood rfl rfl rfl ⟨by decide, by decide, by decide +kernel⟩ ⟨Nat.le_of_ble_eq_true rfl, Nat.le_of_ble_eq_true rfl⟩
    have hrun := vx_runSW (p := p) (l := l) (e := e) (below := below) (meth := meth) (locs := locs) (cells := cells) (slots := slots) (g := F0 m 293 ls [.ref qo, .int (Int32.ofInt x2), .int (Int32.ofInt x1), .ref (u 0)]) (As := .ref (u 0) :: ([.int (Int32.ofInt x1), .int (Int32.ofInt x2)] ++ [.ref qo])) (rest := []) hfix (c_L_block_x hfl h1 h2 k1) hcw hpre rfl rfl hl.1 rfl (lv_room (by decide)) (show decode code 293 = .ok (.invokestatic 42, 3) by decide +kernel) ⟨hc.1, hc.2⟩
    refine va_calli hrun hS (fun _ _ h => h) (fun _ h => h) (fun r g1 t H1 locs1 ht hvm hpost hB hz1 hk1 hS1 => ?_)
    rw [ht] at hB
    have hJ1 := hJ.back hB hvm.symm hk1
    obtain ⟨p1, p2⟩ := hpost
    exact lw_tail_block C0 hL hi hl hS1 hJ1 ⟨hc.1, hc.2⟩ hx1 h1 hx2 h2 (Or.inr ⟨p1, k2⟩) (hN1 g1)
set_option maxHeartbeats 1000000 in
theorem lw_tail_leaf (C0 : lw_At p s m meth c b L xs) (hL : L ≤ 2560) {i : Nat} (hi : i + 5 ≤ L) (hl : lv_has ls 8 [(4, .int (Int32.ofNat i)), (0, .ref b), (1, .ref (u 0)), (2, .ref (v 0)), (3, .ref qo)]) (hS : va_S (fun q => s.heap.size ≤ q) s.heap H locs) (hJ : lw_J s.heap.size cls D ad u v qo Mc Mm g s H) (hc : cells ≤ 601024 ∧ slots ≤ 7293034) {r : Int32} {x1 x2 x3 : Int} (hx1 : xs (i + 1) = Int32.ofInt x1) (h1 : ax_r32 x1) (hx2 : xs (i + 2) = Int32.ofInt x2) (h2 : ax_r32 x2) (hx3 : xs (i + 3) = Int32.ofInt x3) (h3 : ax_r32 x3)
    (hcase : (r = 0 ∧ (f_X3_leaf x1 x2 x3 Mm).2 0 0 = 0 ∧ g 0 = (Int32.ofInt (f_X3_leaf x1 x2 x3 Mm).1).toInt64) ∨ (r = 1 ∧ (f_X3_leaf x1 x2 x3 Mm).2 0 0 = 1))
    (kk : ∀ (H1 : Heap) (locs1 : List Loc) (ls1 : Array Slot), lv_has ls1 8 [(4, .int (Int32.ofNat i)), (0, .ref b), (1, .ref (u 0)), (2, .ref (v 0)), (3, .ref qo)] → lw_J s.heap.size cls D ad u v qo Mc (f_X3_leaf x1 x2 x3 Mm).2 g s H1 → va_S (fun q => s.heap.size ≤ q) s.heap H1 locs1 → W p l e room_1 s m #[Value.ref b] below meth c H1 locs1 cells slots Q (F0 m 1309 ls1 [])) :
    W p l e room_1 s m #[Value.ref b] below meth c H locs cells slots Q (F0 m 370 ls [.int r]) := by
  have hfix := lw_fix C0
  have hx := C0.1
  have hb := C0.2.1
  refine lv_istore (lv' := [(5, .int r), (4, .int (Int32.ofNat i)), (0, .ref b), (1, .ref (u 0)), (2, .ref (v 0)), (3, .ref qo)]) hx hb (show decode code 370 = .ok (.istore 5, 2) by decide +kernel) hl (by decide) rfl (fun ls5 hv5 => ?_)
  have hl5 : lv_has ls5 8 [(4, .int (Int32.ofNat i)), (0, .ref b), (1, .ref (u 0)), (2, .ref (v 0)), (3, .ref qo)] := lv_sub hv5 [1, 2, 3, 4, 5] rfl
  refine lv_aload_n hx hb (show decode code 372 = .ok (.aload_n 2, 1) by decide +kernel) rfl (lv_at hl5 3 rfl) ?_
  refine lw_load C0 hL hi hl5 hS [1, 2, 3] 373 [.ref (v 0)] (by decide) (by decide +kernel) ?_
  show W p l e room_1 s m #[Value.ref b] below meth c H locs cells slots Q (F0 m 391 ls5 (.int (xs (i + 3)) :: .int (xs (i + 2)) :: .int (xs (i + 1)) :: .ref (v 0) :: []))
  rw [hx1, hx2, hx3]
  refine mx_callV (L := ax_LM) (X := (v, cls, D)) (M := Mm) (as := [(0, 0, x1), (0, 0, x2), (0, 0, x3)]) (rest := []) (c0 := lw_c0) rfl hfix (show decode code 391 = .ok (.invokevirtual 54, 3) by decide +kernel) ax_cls3 calX3_leaf (Nat.le_of_ble_eq_true rfl) (Nat.le_of_ble_eq_true rfl) rfl xt_1113 xt_1114 xt_1115 (by decide) (c_X3_leaf 100 x1 x2 x3 Mm) rfl (fun w hw => by rcases List.mem_cons.mp hw with e | hw; exact e ▸ h1; rcases List.mem_cons.mp hw with e | hw; exact e ▸ h2; rcases List.mem_cons.mp hw with e | hw; exact e ▸ h3; cases hw) hJ.2.1 hJ.2.2.2.1 (fun q h => (hJ.2.2.2.2.2.1 q h).1) hJ.2.2.2.2.2.2.2.2 hS (fun q h => (hJ.2.2.2.2.2.1 q h).1) hl5.1 hc (fun rr M1 H1 locs1 hq _ hR1 _ hk1 hS1 => ?_)
  obtain ⟨rfl, hM1, _, _⟩ := hq
  subst hM1
  have hJ1 := hJ.m hR1 hk1
  refine lv_istore (x := Int32.ofInt (f_X3_leaf x1 x2 x3 Mm).1) (lv' := [(6, .int (Int32.ofInt (f_X3_leaf x1 x2 x3 Mm).1)), (5, .int r), (4, .int (Int32.ofNat i)), (0, .ref b), (1, .ref (u 0)), (2, .ref (v 0)), (3, .ref qo)]) hx hb (show decode code 394 = .ok (.istore 6, 2) by decide +kernel) hv5 (by decide) rfl (fun ls6 hv6 => ?_)
  have hl6 : lv_has ls6 8 [(4, .int (Int32.ofNat i)), (0, .ref b), (1, .ref (u 0)), (2, .ref (v 0)), (3, .ref qo)] := lv_sub hv6 [2, 3, 4, 5, 6] rfl
  refine lv_aload_n hx hb (show decode code 396 = .ok (.aload_n 2, 1) by decide +kernel) rfl (lv_at hl6 3 rfl) ?_
  refine mx_callV (L := ax_LM) (X := (v, cls, D)) (M := (f_X3_leaf x1 x2 x3 Mm).2) (as := []) (rest := []) (c0 := lw_c0) rfl hfix (show decode code 397 = .ok (.invokevirtual 48, 3) by decide +kernel) ax_cls3 calX3_thrown (Nat.le_of_ble_eq_true rfl) (Nat.le_of_ble_eq_true rfl) rfl xt_863 xt_864 xt_865 (by decide) (c_X3_thrown 100 (f_X3_leaf x1 x2 x3 Mm).2) rfl (fun w hw => nomatch hw) hJ1.2.1 hJ1.2.2.2.1 (fun q h => (hJ1.2.2.2.2.2.1 q h).1) hJ1.2.2.2.2.2.2.2.2 hS1 (fun q h => (hJ1.2.2.2.2.2.1 q h).1) hl6.1 hc (fun rr M2 H2 locs2 hq _ hR2 _ hk2 hS2 => ?_)
  obtain ⟨rfl, hM2, _, _⟩ := hq
  subst hM2
  have hJ2 := hJ1.m hR2 hk2
  refine lv_iload hx hb (show decode code 400 = .ok (.iload 5, 2) by decide +kernel) (lv_at hv6 1 rfl) ?_
  have hth : Int32.ofInt (f_X3_thrown (f_X3_leaf x1 x2 x3 Mm).2) = r := by
    show Int32.ofInt ((f_X3_leaf x1 x2 x3 Mm).2 0 0) = r
    rcases hcase with ⟨e1, e2, _⟩ | ⟨e1, e2⟩
    · rw [e1, e2]; rfl
    · rw [e1, e2]; rfl
  refine lv_icmp_eq hx hb (off := 5) (tgt := 407) (show decode code 402 = .ok (.if_icmp .eq 5, 3) by decide +kernel) rfl (fun _ => ?_) (fun h => absurd hth h)
  refine lv_iload hx hb (show decode code 407 = .ok (.iload 5, 2) by decide +kernel) (lv_at hv6 1 rfl) ?_
  have hend : W p l e room_1 s m #[Value.ref b] below meth c H2 locs2 cells slots Q (F0 m 424 ls6 []) := lv_goto hx hb (off := 885) (tgt := 1309) (show decode code 424 = .ok (.goto 885, 3) by decide +kernel) rfl (kk H2 locs2 ls6 hl6 hJ2 hS2)
  refine lv_if_ne hx hb (off := 15) (tgt := 424) (show decode code 409 = .ok (.ifCond .ne 15, 3) by decide +kernel) rfl (fun _ => hend) (fun h0 => ?_)
  have hg : g 0 = (Int32.ofInt (f_X3_leaf x1 x2 x3 Mm).1).toInt64 := by
    rcases hcase with ⟨_, _, e3⟩ | ⟨e1, _⟩
    · exact e3
    · exact absurd (e1.symm.trans h0) (by decide)
  refine lv_aload_n hx hb (show decode code 412 = .ok (.aload_n 3, 1) by decide +kernel) rfl (lv_at hl6 4 rfl) ?_
  refine lv_iconst (v := Int32.ofInt 0) hx hb (show decode code 413 = .ok (.iconst 0, 1) by decide +kernel) (by decide) ?_
  refine va_lald hx hb hJ2.1.2.1 hJ2.2.2.1 0 1 rfl rfl (show ¬ (Int32.ofInt 0 < 0 ∨ 1 ≤ (Int32.ofInt 0).toNatClampNeg) by decide) (show decode code 414 = .ok (.laload, 1) by decide +kernel) ?_
  refine lv_iload hx hb (show decode code 415 = .ok (.iload 6, 2) by decide +kernel) (lv_at hv6 0 rfl) ?_
  refine lv_i2l (v := (Int32.ofInt (f_X3_leaf x1 x2 x3 Mm).1).toInt64) hx hb (show decode code 417 = .ok (.i2l, 1) by decide +kernel) rfl ?_
  rw [show g (Int32.ofInt 0).toNatClampNeg = (Int32.ofInt (f_X3_leaf x1 x2 x3 Mm).1).toInt64 from hg]
  refine W.lcmp hx hb (show decode code 418 = .ok (.lcmp, 1) by decide +kernel) ?_
  exact lv_if_eq hx hb (off := 5) (tgt := 424) (show decode code 419 = .ok (.ifCond .eq 5, 3) by decide +kernel) rfl (fun _ => hend) (fun h => absurd (lg_self _) h)
set_option maxHeartbeats 1000000 in
theorem lw_case_leaf (C0 : lw_At p s m meth c b L xs) (hL : L ≤ 2560) (hfl : l.stackTraces = false) (hK : ex_K s) {i : Nat} (hi : i + 5 ≤ L) (hl : lv_has ls 8 [(4, .int (Int32.ofNat i)), (0, .ref b), (1, .ref (u 0)), (2, .ref (v 0)), (3, .ref qo)]) (hS : va_S (fun q => s.heap.size ≤ q) s.heap H locs) (hJ : lw_J s.heap.size cls D ad u v qo Mc Mm g s H) (hc : cells + 1 ≤ 601024 ∧ slots + 6 ≤ 7293034) {C : Int} (hG : pr_G C Mc Mm)
    (kk : ∀ (Nm : ax_M) (g1 : Nat → Int64) (H1 : Heap) (locs1 : List Loc) (ls1 : Array Slot), lv_has ls1 8 [(4, .int (Int32.ofNat i)), (0, .ref b), (1, .ref (u 0)), (2, .ref (v 0)), (3, .ref qo)] → pr_G C Mc Nm → lw_J s.heap.size cls D ad u v qo Mc Nm g1 s H1 → va_S (fun q => s.heap.size ≤ q) s.heap H1 locs1 → W p l e room_1 s m #[Value.ref b] below meth c H1 locs1 (cells + 1) (slots + 6) Q (F0 m 1309 ls1 [])) :
    W p l e room_1 s m #[Value.ref b] below meth c H locs cells slots Q (F0 m 347 ls []) := by
  have hfix := lw_fix C0
  have hx := C0.1
  have hb := C0.2.1
  obtain ⟨x1, hx1, h1⟩ : ∃ z : Int, xs (i + 1) = Int32.ofInt z ∧ ax_r32 z := ⟨_, lw_i0.symm, ax_r32_toInt _⟩
  obtain ⟨x2, hx2, h2⟩ : ∃ z : Int, xs (i + 2) = Int32.ofInt z ∧ ax_r32 z := ⟨_, lw_i0.symm, ax_r32_toInt _⟩
  obtain ⟨x3, hx3, h3⟩ : ∃ z : Int, xs (i + 3) = Int32.ofInt z ∧ ax_r32 z := ⟨_, lw_i0.symm, ax_r32_toInt _⟩
  refine lv_aload_n hx hb (show decode code 347 = .ok (.aload_n 1, 1) by decide +kernel) rfl (lv_at hl 2 rfl) ?_
  refine lw_load C0 hL hi hl hS [1, 2, 3] 348 [.ref (u 0)] (by decide) (by decide +kernel) ?_
  show W p l e room_1 s m #[Value.ref b] below meth c H locs cells slots Q (F0 m 366 ls (.int (xs (i + 3)) :: .int (xs (i + 2)) :: .int (xs (i + 1)) :: .ref (u 0) :: []))
  rw [hx1, hx2, hx3]
  refine lv_aload_n hx hb (show decode code 366 = .ok (.aload_n 3, 1) by decide +kernel) rfl (lv_at hl 4 rfl) ?_
  have hgood : GoodIn (lw_c0 :: ax_T) (va_wsS R_law 51 yL_leaf wL_leaf) := lw_good (fun w hw => by
    rcases List.mem_append.mp hw with h | h
    · simp only [List.mem_cons, List.not_mem_nil, or_false] at h
      rcases h with h | h | h <;> subst h
      · exact xt_844
      · exact xt_845
      · exact xt_0
    · rcases List.mem_cons.mp h with h | h
      · subst h; exact xt_846
      · exact h)
  have hpre : PreS s H (lw_P1 s.heap.size cls D ad u v qo Mc Mm g [.int (Int32.ofInt x1), .int (Int32.ofInt x2), .int (Int32.ofInt x3)]) (.ref (u 0) :: ([.int (Int32.ofInt x1), .int (Int32.ofInt x2), .int (Int32.ofInt x3)] ++ [.ref qo])) :=
    ⟨lw_blind, fun U hU hW => ⟨rfl, by rw [hU]; exact hJ.warm hW, hK.warm hW, by rw [hU]; exact hS.1⟩⟩
  have hpx := px_leaf (x := x1) (y := x2) (z := x3) hG
  obtain ⟨hG1, hpx⟩ := hpx
  have hN1 : ∀ (g1 : Nat → Int64) (H1 : Heap) (locs1 : List Loc) (ls1 : Array Slot), lv_has ls1 8 [(4, .int (Int32.ofNat i)), (0, .ref b), (1, .ref (u 0)), (2, .ref (v 0)), (3, .ref qo)] → lw_J s.heap.size cls D ad u v qo Mc (f_X3_leaf x1 x2 x3 Mm).2 g1 s H1 → va_S (fun q => s.heap.size ≤ q) s.heap H1 locs1 → W p l e room_1 s m #[Value.ref b] below meth c H1 locs1 (cells + 1) (slots + 6) Q (F0 m 1309 ls1 []) := fun g1 H1 locs1 ls1 z1 z2 z3 => kk _ g1 H1 locs1 ls1 z1 hG1 z2 z3
  rcases hpx with ⟨k1, k2, k3⟩ | ⟨k1, k2⟩
  · have hcw : vx_CSW room_1 s #[Value.ref b] R_law 51 yL_leaf method_4_code 6 (some .int) [(0, 12, 15, 13)] wL_leaf ({ frames := 20, cells := 0, slots := 0, locals := 2000 }) 0 0 5 := vx_cwSW 5 hfix.2.2.2.2 hgood rfl rfl rfl ⟨by decide, by decide, by decide +kernel⟩ ⟨Nat.le_of_ble_eq_true rfl, Nat.le_of_ble_eq_true rfl⟩
    have hrun := vx_runSW (p := p) (l := l) (e := e) (below := below) (meth := meth) (locs := locs) (cells := cells) (slots := slots) (g := F0 m 367 ls [.ref qo, .int (Int32.ofInt x3), .int (Int32.ofInt x2), .int (Int32.ofInt x1), .ref (u 0)]) (As := .ref (u 0) :: ([.int (Int32.ofInt x1), .int (Int32.ofInt x2), .int (Int32.ofInt x3)] ++ [.ref qo])) (rest := []) hfix (c_L_leaf h1 h2 h3 k1) hcw hpre rfl rfl hl.1 rfl (lv_room (by decide)) (show decode code 367 = .ok (.invokestatic 51, 3) by decide +kernel) ⟨by show cells + 0 ≤ 601024; omega, by show slots + 0 ≤ 7293034; omega⟩
    refine va_calli hrun hS (fun _ _ h => h) (fun _ h => h) (fun r g1 t H1 locs1 ht hvm hpost hB hz1 hk1 hS1 => ?_)
    rw [ht] at hB
    have hJ1 := hJ.back hB hvm.symm hk1
    obtain ⟨p1, p2⟩ := hpost
    refine W.widen (k := cells + 1) (n := slots + 6) (by omega) (by omega) ?_
    exact lw_tail_leaf C0 hL hi hl hS1 hJ1 ⟨hc.1, hc.2⟩ hx1 h1 hx2 h2 hx3 h3 (Or.inl ⟨p1, k2, by rw [p2, k3]⟩) (hN1 g1)
  · have hcw : vx_CSW room_1 s #[Value.ref b] R_law 51 yL_leaf method_4_code 6 (some .int) [(0, 12, 15, 13)] wL_leaf ({ frames := 20, cells := 1, slots := 6, locals := 2000 }) 1 6 5 := vx_cwSW 5 hfix.2.2.2.2 hgood rfl rfl rfl ⟨by decide, by decide, by decide +kernel⟩ ⟨Nat.le_of_ble_eq_true rfl, Nat.le_of_ble_eq_true rfl⟩
    have hrun := vx_runSW (p := p) (l := l) (e := e) (below := below) (meth := meth) (locs := locs) (cells := cells) (slots := slots) (g := F0 m 367 ls [.ref qo, .int (Int32.ofInt x3), .int (Int32.ofInt x2), .int (Int32.ofInt x1), .ref (u 0)]) (As := .ref (u 0) :: ([.int (Int32.ofInt x1), .int (Int32.ofInt x2), .int (Int32.ofInt x3)] ++ [.ref qo])) (rest := []) hfix (c_L_leaf_x hfl h1 h2 h3 k1) hcw hpre rfl rfl hl.1 rfl (lv_room (by decide)) (show decode code 367 = .ok (.invokestatic 51, 3) by decide +kernel) ⟨hc.1, hc.2⟩
    refine va_calli hrun hS (fun _ _ h => h) (fun _ h => h) (fun r g1 t H1 locs1 ht hvm hpost hB hz1 hk1 hS1 => ?_)
    rw [ht] at hB
    have hJ1 := hJ.back hB hvm.symm hk1
    obtain ⟨p1, p2⟩ := hpost
    exact lw_tail_leaf C0 hL hi hl hS1 hJ1 ⟨hc.1, hc.2⟩ hx1 h1 hx2 h2 hx3 h3 (Or.inr ⟨p1, k2⟩) (hN1 g1)
set_option maxHeartbeats 1000000 in
theorem lw_tail_row (C0 : lw_At p s m meth c b L xs) (hL : L ≤ 2560) {i : Nat} (hi : i + 5 ≤ L) (hl : lv_has ls 8 [(4, .int (Int32.ofNat i)), (0, .ref b), (1, .ref (u 0)), (2, .ref (v 0)), (3, .ref qo)]) (hS : va_S (fun q => s.heap.size ≤ q) s.heap H locs) (hJ : lw_J s.heap.size cls D ad u v qo Mc Mm g s H) (hc : cells ≤ 601024 ∧ slots ≤ 7293034) {r : Int32} {x1 : Int} (hx1 : xs (i + 1) = Int32.ofInt x1) (h1 : ax_r32 x1)
    (hcase : (r = 0 ∧ (f_X3_row x1 Mm).2 0 0 = 0 ∧ g 0 = Int64.ofInt (f_X3_row x1 Mm).1) ∨ (r = 1 ∧ (f_X3_row x1 Mm).2 0 0 = 1))
    (kk : ∀ (H1 : Heap) (locs1 : List Loc) (ls1 : Array Slot), lv_has ls1 8 [(4, .int (Int32.ofNat i)), (0, .ref b), (1, .ref (u 0)), (2, .ref (v 0)), (3, .ref qo)] → lw_J s.heap.size cls D ad u v qo Mc (f_X3_row x1 Mm).2 g s H1 → va_S (fun q => s.heap.size ≤ q) s.heap H1 locs1 → W p l e room_1 s m #[Value.ref b] below meth c H1 locs1 cells slots Q (F0 m 1309 ls1 [])) :
    W p l e room_1 s m #[Value.ref b] below meth c H locs cells slots Q (F0 m 1265 ls [.int r]) := by
  have hfix := lw_fix C0
  have hx := C0.1
  have hb := C0.2.1
  refine lv_istore (lv' := [(5, .int r), (4, .int (Int32.ofNat i)), (0, .ref b), (1, .ref (u 0)), (2, .ref (v 0)), (3, .ref qo)]) hx hb (show decode code 1265 = .ok (.istore 5, 2) by decide +kernel) hl (by decide) rfl (fun ls5 hv5 => ?_)
  have hl5 : lv_has ls5 8 [(4, .int (Int32.ofNat i)), (0, .ref b), (1, .ref (u 0)), (2, .ref (v 0)), (3, .ref qo)] := lv_sub hv5 [1, 2, 3, 4, 5] rfl
  refine lv_aload_n hx hb (show decode code 1267 = .ok (.aload_n 2, 1) by decide +kernel) rfl (lv_at hl5 3 rfl) ?_
  refine lw_load C0 hL hi hl5 hS [1] 1268 [.ref (v 0)] (by decide) (by decide +kernel) ?_
  show W p l e room_1 s m #[Value.ref b] below meth c H locs cells slots Q (F0 m 1274 ls5 (.int (xs (i + 1)) :: .ref (v 0) :: []))
  rw [hx1]
  refine mx_callV (L := ax_LM) (X := (v, cls, D)) (M := Mm) (as := [(0, 0, x1)]) (rest := []) (c0 := lw_c0) rfl hfix (show decode code 1274 = .ok (.invokevirtual 199, 3) by decide +kernel) ax_cls3 calX3_row (Nat.le_of_ble_eq_true rfl) (Nat.le_of_ble_eq_true rfl) rfl xt_1497 xt_1498 xt_1499 (by decide) (c_X3_row 100 x1 Mm) rfl (fun w hw => by rcases List.mem_cons.mp hw with e | hw; exact e ▸ h1; cases hw) hJ.2.1 hJ.2.2.2.1 (fun q h => (hJ.2.2.2.2.2.1 q h).1) hJ.2.2.2.2.2.2.2.2 hS (fun q h => (hJ.2.2.2.2.2.1 q h).1) hl5.1 hc (fun rr M1 H1 locs1 hq _ hR1 _ hk1 hS1 => ?_)
  obtain ⟨rfl, hM1⟩ := hq
  subst hM1
  have hJ1 := hJ.m hR1 hk1
  refine lv_lstore (x := Int64.ofInt (f_X3_row x1 Mm).1) (lv' := [(6, .long (Int64.ofInt (f_X3_row x1 Mm).1)), (5, .int r), (4, .int (Int32.ofNat i)), (0, .ref b), (1, .ref (u 0)), (2, .ref (v 0)), (3, .ref qo)]) hx hb (show decode code 1277 = .ok (.lstore 6, 2) by decide +kernel) hv5 (by decide) rfl (fun ls6 hv6 => ?_)
  have hl6 : lv_has ls6 8 [(4, .int (Int32.ofNat i)), (0, .ref b), (1, .ref (u 0)), (2, .ref (v 0)), (3, .ref qo)] := lv_sub hv6 [2, 3, 4, 5, 6] rfl
  refine lv_aload_n hx hb (show decode code 1279 = .ok (.aload_n 2, 1) by decide +kernel) rfl (lv_at hl6 3 rfl) ?_
  refine mx_callV (L := ax_LM) (X := (v, cls, D)) (M := (f_X3_row x1 Mm).2) (as := []) (rest := []) (c0 := lw_c0) rfl hfix (show decode code 1280 = .ok (.invokevirtual 48, 3) by decide +kernel) ax_cls3 calX3_thrown (Nat.le_of_ble_eq_true rfl) (Nat.le_of_ble_eq_true rfl) rfl xt_863 xt_864 xt_865 (by decide) (c_X3_thrown 100 (f_X3_row x1 Mm).2) rfl (fun w hw => nomatch hw) hJ1.2.1 hJ1.2.2.2.1 (fun q h => (hJ1.2.2.2.2.2.1 q h).1) hJ1.2.2.2.2.2.2.2.2 hS1 (fun q h => (hJ1.2.2.2.2.2.1 q h).1) hl6.1 hc (fun rr M2 H2 locs2 hq _ hR2 _ hk2 hS2 => ?_)
  obtain ⟨rfl, hM2, _, _⟩ := hq
  subst hM2
  have hJ2 := hJ1.m hR2 hk2
  refine lv_iload hx hb (show decode code 1283 = .ok (.iload 5, 2) by decide +kernel) (lv_at hv6 1 rfl) ?_
  have hth : Int32.ofInt (f_X3_thrown (f_X3_row x1 Mm).2) = r := by
    show Int32.ofInt ((f_X3_row x1 Mm).2 0 0) = r
    rcases hcase with ⟨e1, e2, _⟩ | ⟨e1, e2⟩
    · rw [e1, e2]; rfl
    · rw [e1, e2]; rfl
  refine lv_icmp_eq hx hb (off := 5) (tgt := 1290) (show decode code 1285 = .ok (.if_icmp .eq 5, 3) by decide +kernel) rfl (fun _ => ?_) (fun h => absurd hth h)
  refine lv_iload hx hb (show decode code 1290 = .ok (.iload 5, 2) by decide +kernel) (lv_at hv6 1 rfl) ?_
  have hend : W p l e room_1 s m #[Value.ref b] below meth c H2 locs2 cells slots Q (F0 m 1306 ls6 []) := lv_goto hx hb (off := 3) (tgt := 1309) (show decode code 1306 = .ok (.goto 3, 3) by decide +kernel) rfl (kk H2 locs2 ls6 hl6 hJ2 hS2)
  refine lv_if_ne hx hb (off := 14) (tgt := 1306) (show decode code 1292 = .ok (.ifCond .ne 14, 3) by decide +kernel) rfl (fun _ => hend) (fun h0 => ?_)
  have hg : g 0 = Int64.ofInt (f_X3_row x1 Mm).1 := by
    rcases hcase with ⟨_, _, e3⟩ | ⟨e1, _⟩
    · exact e3
    · exact absurd (e1.symm.trans h0) (by decide)
  refine lv_aload_n hx hb (show decode code 1295 = .ok (.aload_n 3, 1) by decide +kernel) rfl (lv_at hl6 4 rfl) ?_
  refine lv_iconst (v := Int32.ofInt 0) hx hb (show decode code 1296 = .ok (.iconst 0, 1) by decide +kernel) (by decide) ?_
  refine va_lald hx hb hJ2.1.2.1 hJ2.2.2.1 0 1 rfl rfl (show ¬ (Int32.ofInt 0 < 0 ∨ 1 ≤ (Int32.ofInt 0).toNatClampNeg) by decide) (show decode code 1297 = .ok (.laload, 1) by decide +kernel) ?_
  refine lv_lload hx hb (show decode code 1298 = .ok (.lload 6, 2) by decide +kernel) (lv_at hv6 0 rfl) ?_
  rw [show g (Int32.ofInt 0).toNatClampNeg = Int64.ofInt (f_X3_row x1 Mm).1 from hg]
  refine W.lcmp hx hb (show decode code 1300 = .ok (.lcmp, 1) by decide +kernel) ?_
  exact lv_if_eq hx hb (off := 5) (tgt := 1306) (show decode code 1301 = .ok (.ifCond .eq 5, 3) by decide +kernel) rfl (fun _ => hend) (fun h => absurd (lg_self _) h)
set_option maxHeartbeats 1000000 in
theorem lw_case_row (C0 : lw_At p s m meth c b L xs) (hL : L ≤ 2560) (hfl : l.stackTraces = false) (hK : ex_K s) {i : Nat} (hi : i + 5 ≤ L) (hl : lv_has ls 8 [(4, .int (Int32.ofNat i)), (0, .ref b), (1, .ref (u 0)), (2, .ref (v 0)), (3, .ref qo)]) (hS : va_S (fun q => s.heap.size ≤ q) s.heap H locs) (hJ : lw_J s.heap.size cls D ad u v qo Mc Mm g s H) (hc : cells + 1 ≤ 601024 ∧ slots + 6 ≤ 7293034) {C : Int} (hG : pr_G C Mc Mm)
    (kk : ∀ (Nm : ax_M) (g1 : Nat → Int64) (H1 : Heap) (locs1 : List Loc) (ls1 : Array Slot), lv_has ls1 8 [(4, .int (Int32.ofNat i)), (0, .ref b), (1, .ref (u 0)), (2, .ref (v 0)), (3, .ref qo)] → pr_G C Mc Nm → lw_J s.heap.size cls D ad u v qo Mc Nm g1 s H1 → va_S (fun q => s.heap.size ≤ q) s.heap H1 locs1 → W p l e room_1 s m #[Value.ref b] below meth c H1 locs1 (cells + 1) (slots + 6) Q (F0 m 1309 ls1 [])) :
    W p l e room_1 s m #[Value.ref b] below meth c H locs cells slots Q (F0 m 1254 ls []) := by
  have hfix := lw_fix C0
  have hx := C0.1
  have hb := C0.2.1
  obtain ⟨x1, hx1, h1⟩ : ∃ z : Int, xs (i + 1) = Int32.ofInt z ∧ ax_r32 z := ⟨_, lw_i0.symm, ax_r32_toInt _⟩
  refine lv_aload_n hx hb (show decode code 1254 = .ok (.aload_n 1, 1) by decide +kernel) rfl (lv_at hl 2 rfl) ?_
  refine lw_load C0 hL hi hl hS [1] 1255 [.ref (u 0)] (by decide) (by decide +kernel) ?_
  show W p l e room_1 s m #[Value.ref b] below meth c H locs cells slots Q (F0 m 1261 ls (.int (xs (i + 1)) :: .ref (u 0) :: []))
  rw [hx1]
  refine lv_aload_n hx hb (show decode code 1261 = .ok (.aload_n 3, 1) by decide +kernel) rfl (lv_at hl 4 rfl) ?_
  have hgood : GoodIn (lw_c0 :: ax_T) (va_wsS R_law 196 yL_row wL_row) := lw_good (fun w hw => by
    rcases List.mem_append.mp hw with h | h
    · simp only [List.mem_cons, List.not_mem_nil, or_false] at h
      rcases h with h | h | h <;> subst h
      · exact xt_855
      · exact xt_856
      · exact xt_0
    · rcases List.mem_cons.mp h with h | h
      · subst h; exact xt_857
      · exact h)
  have hpre : PreS s H (lw_P1 s.heap.size cls D ad u v qo Mc Mm g [.int (Int32.ofInt x1)]) (.ref (u 0) :: ([.int (Int32.ofInt x1)] ++ [.ref qo])) :=
    ⟨lw_blind, fun U hU hW => ⟨rfl, by rw [hU]; exact hJ.warm hW, hK.warm hW, by rw [hU]; exact hS.1⟩⟩
  have hpx := px_row (x := x1) hG
  obtain ⟨hG1, hpx⟩ := hpx
  have hN1 : ∀ (g1 : Nat → Int64) (H1 : Heap) (locs1 : List Loc) (ls1 : Array Slot), lv_has ls1 8 [(4, .int (Int32.ofNat i)), (0, .ref b), (1, .ref (u 0)), (2, .ref (v 0)), (3, .ref qo)] → lw_J s.heap.size cls D ad u v qo Mc (f_X3_row x1 Mm).2 g1 s H1 → va_S (fun q => s.heap.size ≤ q) s.heap H1 locs1 → W p l e room_1 s m #[Value.ref b] below meth c H1 locs1 (cells + 1) (slots + 6) Q (F0 m 1309 ls1 []) := fun g1 H1 locs1 ls1 z1 z2 z3 => kk _ g1 H1 locs1 ls1 z1 hG1 z2 z3
  rcases hpx with ⟨k1, k2, k3⟩ | ⟨k1, k2⟩
  · have hcw : vx_CSW room_1 s #[Value.ref b] R_law 196 yL_row method_5_code 4 (some .int) [(0, 8, 11, 13)] wL_row ({ frames := 20, cells := 0, slots := 0, locals := 2000 }) 0 0 3 := vx_cwSW 3 hfix.2.2.2.2 hgood rfl rfl rfl ⟨by decide, by decide, by decide +kernel⟩ ⟨Nat.le_of_ble_eq_true rfl, Nat.le_of_ble_eq_true rfl⟩
    have hrun := vx_runSW (p := p) (l := l) (e := e) (below := below) (meth := meth) (locs := locs) (cells := cells) (slots := slots) (g := F0 m 1262 ls [.ref qo, .int (Int32.ofInt x1), .ref (u 0)]) (As := .ref (u 0) :: ([.int (Int32.ofInt x1)] ++ [.ref qo])) (rest := []) hfix (c_L_row h1 k1) hcw hpre rfl rfl hl.1 rfl (lv_room (by decide)) (show decode code 1262 = .ok (.invokestatic 196, 3) by decide +kernel) ⟨by show cells + 0 ≤ 601024; omega, by show slots + 0 ≤ 7293034; omega⟩
    refine va_calli hrun hS (fun _ _ h => h) (fun _ h => h) (fun r g1 t H1 locs1 ht hvm hpost hB hz1 hk1 hS1 => ?_)
    rw [ht] at hB
    have hJ1 := hJ.back hB hvm.symm hk1
    obtain ⟨p1, p2⟩ := hpost
    refine W.widen (k := cells + 1) (n := slots + 6) (by omega) (by omega) ?_
    exact lw_tail_row C0 hL hi hl hS1 hJ1 ⟨hc.1, hc.2⟩ hx1 h1 (Or.inl ⟨p1, k2, by rw [p2, k3]⟩) (hN1 g1)
  · have hcw : vx_CSW room_1 s #[Value.ref b] R_law 196 yL_row method_5_code 4 (some .int) [(0, 8, 11, 13)] wL_row ({ frames := 20, cells := 1, slots := 6, locals := 2000 }) 1 6 3 := vx_cwSW 3 hfix.2.2.2.2 hgood rfl rfl rfl ⟨by decide, by decide, by decide +kernel⟩ ⟨Nat.le_of_ble_eq_true rfl, Nat.le_of_ble_eq_true rfl⟩
    have hrun := vx_runSW (p := p) (l := l) (e := e) (below := below) (meth := meth) (locs := locs) (cells := cells) (slots := slots) (g := F0 m 1262 ls [.ref qo, .int (Int32.ofInt x1), .ref (u 0)]) (As := .ref (u 0) :: ([.int (Int32.ofInt x1)] ++ [.ref qo])) (rest := []) hfix (c_L_row_x hfl h1 k1) hcw hpre rfl rfl hl.1 rfl (lv_room (by decide)) (show decode code 1262 = .ok (.invokestatic 196, 3) by decide +kernel) ⟨hc.1, hc.2⟩
    refine va_calli hrun hS (fun _ _ h => h) (fun _ h => h) (fun r g1 t H1 locs1 ht hvm hpost hB hz1 hk1 hS1 => ?_)
    rw [ht] at hB
    have hJ1 := hJ.back hB hvm.symm hk1
    obtain ⟨p1, p2⟩ := hpost
    exact lw_tail_row C0 hL hi hl hS1 hJ1 ⟨hc.1, hc.2⟩ hx1 h1 (Or.inr ⟨p1, k2⟩) (hN1 g1)
end LWT
