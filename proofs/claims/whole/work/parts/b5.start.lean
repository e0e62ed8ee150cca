/-! ===== the law from its start ===== -/
theorem zt_1 : (Jvm.Cond.initialized "FlashFolio") ∈ ax_T := ax_T_mem (lw_in 1 (by decide +kernel)) (by decide +kernel)
theorem zt_5 : (Jvm.Cond.initialized "FlashFolioModel") ∈ ax_T := ax_T_mem (lw_in 5 (by decide +kernel)) (by decide +kernel)
theorem zt_18 : (Jvm.Cond.classLink "FlashFolioLaw" (8 : Nat) "FlashFolio") ∈ ax_T := ax_T_mem (lw_in 18 (by decide +kernel)) (by decide +kernel)
theorem zt_19 : (Jvm.Cond.instantiable "FlashFolio" (17 : Nat)) ∈ ax_T := ax_T_mem (lw_in 19 (by decide +kernel)) (by decide +kernel)
theorem zt_20 : (Jvm.Cond.methodLink "FlashFolioLaw" (23 : Nat) ({ cls := "FlashFolio", name := "<init>", desc := "()V" } : Jvm.MethodName)) ∈ ax_T := ax_T_mem (lw_in 20 (by decide +kernel)) (by decide +kernel)
theorem zt_21 : (Jvm.Cond.instanceMethod ({ cls := "FlashFolio", name := "<init>", desc := "()V" } : Jvm.MethodName)) ∈ ax_T := ax_T_mem (lw_in 21 (by decide +kernel)) (by decide +kernel)
theorem zt_192 : (Jvm.Cond.arrayClass Jvm.ClassFile.FieldType.long) ∈ ax_T := ax_T_mem (lw_in 192 (by decide +kernel)) (by decide +kernel)
theorem zt_885 : (Jvm.Cond.instantiable "FlashFolioModel" (39 : Nat)) ∈ ax_T := ax_T_mem (lw_in 885 (by decide +kernel)) (by decide +kernel)
theorem zt_958 : (Jvm.Cond.classLink "FlashFolioLaw" (24 : Nat) "FlashFolioModel") ∈ ax_T := ax_T_mem (lw_in 958 (by decide +kernel)) (by decide +kernel)
theorem zt_959 : (Jvm.Cond.methodLink "FlashFolioLaw" (26 : Nat) ({ cls := "FlashFolioModel", name := "<init>", desc := "()V" } : Jvm.MethodName)) ∈ ax_T := ax_T_mem (lw_in 959 (by decide +kernel)) (by decide +kernel)
theorem zt_960 : (Jvm.Cond.instanceMethod ({ cls := "FlashFolioModel", name := "<init>", desc := "()V" } : Jvm.MethodName)) ∈ ax_T := ax_T_mem (lw_in 960 (by decide +kernel)) (by decide +kernel)
theorem ax_ws_A {L : ax_L} {X : ax_X} {M : ax_M} {k : Nat} {q : Nat × va_E} (h : (ax_ws L X M)[k]? = some q) : ax_A L X q.1 := by
  unfold ax_ws at h
  rw [List.getElem?_map] at h
  cases hr : (List.range L.length)[k]? with
  | none => rw [hr] at h; cases h
  | some j =>
    rw [hr] at h
    cases h
    exact ⟨j, List.mem_range.mp (List.mem_of_getElem? hr), rfl⟩
theorem ax_A_ws {L : ax_L} {X : ax_X} {M : ax_M} {a : Nat} (h : ax_A L X a) : ∃ (k : Nat) (x : Nat × va_E), (ax_ws L X M)[k]? = some x ∧ a = x.1 := by
  obtain ⟨k, hk, rfl⟩ := h
  exact ⟨k, _, ax_ws_get (List.getElem?_eq_getElem hk), rfl⟩
theorem lx_P0 {D : va_G} {cl : List vw_C} {H : Heap} : va_P D cl [] H := fun k q h => by simp at h
theorem lx_D0 {A : Nat → Prop} : va_D A [] := ⟨fun i j x y h => by simp at h, fun k q h => by simp at h⟩
set_option maxHeartbeats 4000000 in
set_option maxRecDepth 100000 in
/-- YOUR PART: from the entry, for every script of at most 2560 ints, the law comes to its end with true -/
theorem whole_start {p : Program} {e : Env} {s : State} {m : MethodId} {below : List Frame} {meth : Method} {c : Code} (l : Launch) (hflags : l.flags = flags0) {b L : Nat} {xs : Nat → Int32} (hL : L ≤ 2560) (C0 : lw_At p s m meth c b L xs) : W p l e room_1 s m #[Value.ref b] below meth c s.heap [] 0 0 (lw_Z below #[Value.ref b] s) (entryFrame m ([Value.ref b] : List Value).toArray 8) := by
  have hfl : l.stackTraces = false := by
    unfold Launch.stackTraces
    rw [hflags]
    decide +kernel
  have hfix := lw_fix C0
  have hx := C0.1
  have hb := C0.2.1
  have hown := C0.2.2.2.2.1
  have hT := hfix.2.2.2.2
  obtain ⟨ad, hN0⟩ := lx_start C0
  obtain ⟨cls, D, hKf⟩ := lx_K C0
  have hK := ex_K.of C0
  have hl0 := lv_entry ([.ref b]) (n := 8) (Nat.le_of_ble_eq_true rfl)
  rw [lg_entry_eq]
  generalize (lg_sl ([.ref b]) ++ List.replicate (8 - (lg_sl ([.ref b])).length) Slot.unset).toArray = ls0 at hl0 ⊢
  have hl0 : lv_has ls0 8 [(0, .ref b)] := hl0
  have hH1 : s.heap.size ≤ s.heap.size := Nat.le_refl _
  have hz1 : ∀ j, j < 17 → defaultValue (tyX2 j) = vp_V [.null, .null, .null, z0, z0, .null, .null, .null, .null, .null, z0, .null, z0, .null, .null, z0, z0] j := by decide +kernel
  refine va_new (ci := 2) (fs := [.null, .null, .null, z0, z0, .null, .null, .null, .null, .null, z0, .null, z0, .null, .null, z0, z0]) (C := RX2) (T := TX2) (N := 17) (ws := []) (D := D) (cl := vwCl) (tys := ax_tys ((fun _ => 0), cls, D)) (A := fun q => s.heap.size ≤ q) hx hb hT (fun w hw => List.mem_cons_of_mem _ (ax_cls2.2.1 w hw)) tyX2 ax_cls2.2.2.1 hown (hT _ (List.mem_cons_of_mem _ zt_18)) (hT _ (List.mem_cons_of_mem _ zt_19)) (hT _ (List.mem_cons_of_mem _ zt_1)) (hKf _) lx_P0 lx_D0 va_S.rf (fun q h => h) rfl hz1 (Nat.le_of_ble_eq_true rfl) (Nat.le_of_ble_eq_true rfl) (show decode code 0 = .ok (.new 8, 3) by decide +kernel) (fun q1 K1 hP1 hD1 hS1 => ?_)
  have hP1 : va_P D vwCl [(q1, .inr (2, [.null, .null, .null, z0, z0, .null, .null, .null, .null, .null, z0, .null, z0, .null, .null, z0, z0]))] K1 := hP1
  have hD1 : va_D (fun q => s.heap.size ≤ q) [(q1, .inr (2, [.null, .null, .null, z0, z0, .null, .null, .null, .null, .null, z0, .null, z0, .null, .null, z0, z0]))] := hD1
  refine lv_dup hx hb (show decode code 3 = .ok (.dup, 1) by decide +kernel) rfl ?_
  have hF1 := va_free (wc := [(q1, .inr (2, [.null, .null, .null, z0, z0, .null, .null, .null, .null, .null, z0, .null, z0, .null, .null, z0, z0]))]) hD1 hS1 (fun q h => h) [0] rfl
  have ha1 : s.heap.size ≤ q1 := Nat.le_trans hH1 (hD1.2 0 _ rfl)
  have hb1 : s.heap.size ≤ K1.size := Nat.le_trans hH1 hS1.1
  refine va_callv (va_runI (As := []) (rest := [.ref q1]) hfix (c_X2_new l cls D ad s.heap.size q1 K1.size) ⟨callB_of 0 hT (ax_good calX2_init.1) rfl rfl rfl (hT _ (List.mem_cons_of_mem _ calX2_init.2.1)) (hT _ (List.mem_cons_of_mem _ zt_20)) calX2_init.2.2.1 ⟨Nat.le_of_ble_eq_true rfl, Nat.le_of_ble_eq_true rfl⟩, rfl, (hT _ (List.mem_cons_of_mem _ zt_21))⟩ ⟨lx_blind, fun U hU hW => ⟨rfl, by rw [hU], by rw [hU]; exact hP1, va_K.moved hW.alike (hKf _), hD1.weaken (fun _ _ _ _ => trivial), ha1, hb1, by rw [hU]; exact hN0.warm hW (fun q h1 h2 => hS1.2.1 q h1 (Nat.not_le.mpr h1))⟩⟩ rfl rfl hl0.1 rfl (lv_room (show (1 : Nat) ≤ 8 by decide)) (show decode code 4 = .ok (.invokespecial 23, 3) by decide +kernel) ⟨Nat.le_of_ble_eq_true rfl, Nat.le_of_ble_eq_true rfl⟩) hS1 (fun q _ h => hF1 q h) hF1 (fun u t1 H1 locs1 ht1 hvm1 hu1 hB1 hz11 hk11 hT1 => ?_)
  obtain ⟨hQ1, hE1⟩ := hB1
  rw [ht1] at hQ1
  have hR1 : ax_R ax_LC (u, cls, D) m0_C s H1 := ⟨hQ1, hKf u, ⟨hE1.1, fun k q h => ax_ws_A h⟩, m0_C_can⟩
  have hA1 : ∀ a, ax_A ax_LC (u, cls, D) a → s.heap.size ≤ a ∧ a < H1.size := fun a h => by
    obtain ⟨j, x, hj, rfl⟩ := ax_A_ws (M := m0_C) h
    exact ⟨hF1 _ (hE1.2 j x hj), (hQ1 j x hj).lt⟩
  have hN1 : lx_N (fun q => s.heap.size ≤ q) ad s H1 := hN0.warm (State.WarmedH.refl s) (fun q h1 h2 => hT1.2.1 q h1 (Nat.not_le.mpr h1))
  have hH2 : s.heap.size ≤ H1.size := Nat.le_trans hH1 hT1.1
  refine lv_astore_n (lv' := [(1, .ref q1), (0, .ref b)]) hx hb (show decode code 7 = .ok (.astore_n 1, 1) by decide +kernel) rfl hl0 (by decide) rfl (fun ls1 hl1 => ?_)
  refine va_forget (fun z h => Nat.le_trans hH1 (hT1.2.2 z h)) ?_
  refine W.widen (k := 38) (n := 3935) (Nat.le_of_ble_eq_true rfl) (Nat.le_of_ble_eq_true rfl) ?_
  have hz2 : ∀ j, j < 39 → defaultValue (tyX3 j) = vp_V [z0, z0, .null, .null, z0, z0, z0, z0, .null, .null, z0, z0, .null, .null, .null, .null, .null, .null, .null, .null, z0, z0, z0, z0, z0, .null, z0, z0, .null, .null, .null, z0, z0, .null, .null, z0, .null, .null, .null] j := by decide +kernel
  refine va_new (ci := 3) (fs := [z0, z0, .null, .null, z0, z0, z0, z0, .null, .null, z0, z0, .null, .null, .null, .null, .null, .null, .null, .null, z0, z0, z0, z0, z0, .null, z0, z0, .null, .null, .null, z0, z0, .null, .null, z0, .null, .null, .null]) (C := RX3) (T := TX3) (N := 39) (ws := []) (D := D) (cl := vwCl) (tys := ax_tys ((fun _ => 0), cls, D)) (A := fun q => H1.size ≤ q) hx hb hT (fun w hw => List.mem_cons_of_mem _ (ax_cls3.2.1 w hw)) tyX3 ax_cls3.2.2.1 hown (hT _ (List.mem_cons_of_mem _ zt_958)) (hT _ (List.mem_cons_of_mem _ zt_885)) (hT _ (List.mem_cons_of_mem _ zt_5)) (hKf _) lx_P0 lx_D0 va_S.rf (fun q h => h) rfl hz2 (Nat.le_of_ble_eq_true rfl) (Nat.le_of_ble_eq_true rfl) (show decode code 8 = .ok (.new 24, 3) by decide +kernel) (fun q2 K2 hP2 hD2 hS2 => ?_)
  have hP2 : va_P D vwCl [(q2, .inr (3, [z0, z0, .null, .null, z0, z0, z0, z0, .null, .null, z0, z0, .null, .null, .null, .null, .null, .null, .null, .null, z0, z0, z0, z0, z0, .null, z0, z0, .null, .null, .null, z0, z0, .null, .null, z0, .null, .null, .null]))] K2 := hP2
  have hD2 : va_D (fun q => H1.size ≤ q) [(q2, .inr (3, [z0, z0, .null, .null, z0, z0, z0, z0, .null, .null, z0, z0, .null, .null, .null, .null, .null, .null, .null, .null, z0, z0, z0, z0, z0, .null, z0, z0, .null, .null, .null, z0, z0, .null, .null, z0, .null, .null, .null]))] := hD2
  refine lv_dup hx hb (show decode code 11 = .ok (.dup, 1) by decide +kernel) rfl ?_
  have hF2 := va_free (wc := [(q2, .inr (3, [z0, z0, .null, .null, z0, z0, z0, z0, .null, .null, z0, z0, .null, .null, .null, .null, .null, .null, .null, .null, z0, z0, z0, z0, z0, .null, z0, z0, .null, .null, .null, z0, z0, .null, .null, z0, .null, .null, .null]))]) hD2 hS2 (fun q h => h) [0] rfl
  have ha2 : s.heap.size ≤ q2 := Nat.le_trans hH2 (hD2.2 0 _ rfl)
  have hb2 : s.heap.size ≤ K2.size := Nat.le_trans hH2 hS2.1
  refine va_callv (va_runI (As := []) (rest := [.ref q2]) hfix (c_X3_new l cls D ad s.heap.size q2 K2.size) ⟨callB_of 0 hT (ax_good calX3_init.1) rfl rfl rfl (hT _ (List.mem_cons_of_mem _ calX3_init.2.1)) (hT _ (List.mem_cons_of_mem _ zt_959)) calX3_init.2.2.1 ⟨Nat.le_of_ble_eq_true rfl, Nat.le_of_ble_eq_true rfl⟩, rfl, (hT _ (List.mem_cons_of_mem _ zt_960))⟩ ⟨lx_blind, fun U hU hW => ⟨rfl, by rw [hU], by rw [hU]; exact hP2, va_K.moved hW.alike (hKf _), hD2.weaken (fun _ _ _ _ => trivial), ha2, hb2, by rw [hU]; exact hN1.warm hW (fun q h1 h2 => hS2.2.1 q h1 (Nat.not_le.mpr h1))⟩⟩ rfl rfl hl1.1 rfl (lv_room (show (1 : Nat) ≤ 8 by decide)) (show decode code 12 = .ok (.invokespecial 26, 3) by decide +kernel) ⟨Nat.le_of_ble_eq_true rfl, Nat.le_of_ble_eq_true rfl⟩) hS2 (fun q _ h => hF2 q h) hF2 (fun v t2 H2 locs2 ht2 hvm2 hu2 hB2 hz12 hk12 hT2 => ?_)
  obtain ⟨hQ2, hE2⟩ := hB2
  rw [ht2] at hQ2
  have hR2 : ax_R ax_LM (v, cls, D) m0_M s H2 := ⟨hQ2, hKf v, ⟨hE2.1, fun k q h => ax_ws_A h⟩, m0_M_can⟩
  have hA2 : ∀ a, ax_A ax_LM (v, cls, D) a → H1.size ≤ a ∧ a < H2.size := fun a h => by
    obtain ⟨j, x, hj, rfl⟩ := ax_A_ws (M := m0_M) h
    exact ⟨hF2 _ (hE2.2 j x hj), (hQ2 j x hj).lt⟩
  have hN2 : lx_N (fun q => s.heap.size ≤ q) ad s H2 := hN1.warm (State.WarmedH.refl s) (fun q h1 h2 => hT2.2.1 q h1 (Nat.not_le.mpr h1))
  have hH3 : s.heap.size ≤ H2.size := Nat.le_trans hH2 hT2.1
  refine lv_astore_n (lv' := [(2, .ref q2), (1, .ref q1), (0, .ref b)]) hx hb (show decode code 15 = .ok (.astore_n 2, 1) by decide +kernel) rfl hl1 (by decide) rfl (fun ls2 hl2 => ?_)
  refine va_forget (fun z h => Nat.le_trans hH2 (hT2.2.2 z h)) ?_
  refine W.widen (k := 60) (n := 9832) (Nat.le_of_ble_eq_true rfl) (Nat.le_of_ble_eq_true rfl) ?_
  have hR1' : ax_R ax_LC (u, cls, D) m0_C s H2 := hR1.kept (A1 := fun q => H1.size ≤ q) (fun q h1 h2 => hT2.2.1 q h1 h2) (fun q h => Nat.not_le.mpr (hA1 q h).2)
  refine lv_iconst (v := 1) hx hb (show decode code 16 = .ok (.iconst 1, 1) by decide +kernel) (by decide) ?_
  refine nx_newa (atype := .long) (ty := .long) (t0 := 1) (cI := cls 4) (ws := []) (D := D) (cl := vwCl) (tys := ax_tys ((fun _ => 0), cls, D)) (A := fun q => H2.size ≤ q) (a0 := (1, .inr (.inl (fun _ => Int64.ofInt 0)))) (N' := 1) hx hb (hT _ (List.mem_cons_of_mem _ zt_192)) rfl (hKf _) rfl (fun _ _ => Iff.rfl) lx_P0 lx_D0 va_S.rf (fun q h => h) (fun _ => rfl) (by decide) (by decide) (by decide) (Nat.le_of_ble_eq_true rfl) (Nat.le_of_ble_eq_true rfl) (show decode code 17 = .ok (.newarray .long, 2) by decide +kernel) (fun qo H3 hP3 hD3 hS3 => ?_)
  have hP3 : va_P D vwCl [(qo, .inl (cls 4, 1, .inr (.inl (fun _ => Int64.ofInt 0))))] H3 := hP3
  have hqo : H2.size ≤ qo := hD3.2 0 _ rfl
  refine lv_astore_n (lv' := [(3, .ref qo), (2, .ref q2), (1, .ref q1), (0, .ref b)]) hx hb (show decode code 19 = .ok (.astore_n 3, 1) by decide +kernel) rfl hl2 (by decide) rfl (fun ls3 hl3 => ?_)
  refine lv_iconst (v := Int32.ofNat 0) hx hb (show decode code 20 = .ok (.iconst 0, 1) by decide +kernel) (by decide) ?_
  refine lv_istore (lv' := [(4, .int (Int32.ofNat 0)), (3, .ref qo), (2, .ref q2), (1, .ref q1), (0, .ref b)]) hx hb (show decode code 21 = .ok (.istore 4, 2) by decide +kernel) hl3 (by decide) rfl (fun ls4 hl4 => ?_)
  have hl5 : lv_has ls4 8 [(4, .int (Int32.ofNat 0)), (0, .ref b), (1, .ref q1), (2, .ref q2), (3, .ref qo)] := lv_sub hl4 [0, 4, 3, 2, 1] rfl
  rw [← hu1.1, ← hu2.1] at hl5
  have hk3 : ∀ q : Nat, q < H2.size → H3[q]? = H2[q]? := fun q h => hS3.2.1 q h (Nat.not_le.mpr h)
  have hJ : lw_J s.heap.size cls D ad u v qo m0_C m0_M (fun _ => Int64.ofInt 0) s H3 :=
    ⟨hR1'.kept (A1 := fun _ => False) (fun q h _ => hk3 q h) (fun _ _ h => h), hR2.kept (A1 := fun _ => False) (fun q h _ => hk3 q h) (fun _ _ h => h), hP3, hN2.warm (State.WarmedH.refl s) (fun q h1 _ => hk3 q h1),
      fun q h => ⟨(hA1 q h).1, fun h2 => by have := (hA1 q h).2; have := (hA2 q h2).1; omega, by have := (hA1 q h).2; have := hT2.1; omega⟩, fun q h => ⟨Nat.le_trans hH2 (hA2 q h).1, by have := (hA2 q h).2; omega⟩, Nat.le_trans hH3 hqo, hu1.2, hu2.2⟩
  have hS5 : va_S (fun q => s.heap.size ≤ q) s.heap H3 [] := ⟨Nat.le_trans hH3 hS3.1, fun q h1 h2 => by rw [hk3 q (Nat.lt_of_lt_of_le h1 hH3), hT2.2.1 q (Nat.lt_of_lt_of_le h1 hH2) (Nat.not_le.mpr (Nat.lt_of_lt_of_le h1 hH2)), hT1.2.1 q h1 h2], fun z h => nomatch h⟩
  exact lw_loop C0 hL hfl hK (L + 5) 0 m0_C m0_M (fun _ => Int64.ofInt 0) H3 [] _ _ ls4 (by omega) (Nat.zero_le _) (Nat.le_of_ble_eq_true rfl) (Nat.le_of_ble_eq_true rfl) hl5 hS5 hJ m0_G
