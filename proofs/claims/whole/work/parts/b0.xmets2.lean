/-! ===== row and leaf where they throw ===== -/
section XMV
variable {l : Launch} {X : ax_X} {M : ax_M}
theorem c_X2_row_x (hl : l.stackTraces = false) {x1 : Int} (h1 : ax_r32 x1) (hno : ¬ (f_X2_row x1 M).1) : ex_Met l gX2_row X M [.int (Int32.ofInt x1)] := by
  refine vx_ofW (cc := ax_cc gX2_row) (maxL := 2) (ret := some .long) (by decide) rfl ?_
  intro p e s m args below meth c s₁ B hml ht hv
  obtain ⟨rfl, hR, hN, hK⟩ := hv
  have hx := B.exec
  have hb := B.bytes
  have hts := atoms_spec (ws := ax_word gX2_row :: ax_T) B.pre
  have hown : s.vm.findClass RX2 = some m.cls := findClass_of_methodNamed B.named
  have hlocks := B.notSynchronized
  have hv := lv_entry ([.ref (X.1 0), .int (Int32.ofInt x1)]) (n := 2) (Nat.le_of_ble_eq_true rfl)
  rw [lg_entry_eq]
  generalize (lg_sl ([.ref (X.1 0), .int (Int32.ofInt x1)]) ++ List.replicate (2 - (lg_sl ([.ref (X.1 0), .int (Int32.ofInt x1)])).length) Slot.unset).toArray = ls at hv ⊢
  have hv : lv_has ls 2 [(0, .ref (X.1 0)), (1, .int (Int32.ofInt x1))] := hv
  have hk := hts _ (List.mem_cons_of_mem _ xt_k)
  have hi := hts _ (List.mem_cons_of_mem _ xt_i)
  have hu : ∀ w ∈ u_ws RX2 TX2 17, w ∈ ax_word gX2_row :: ax_T := fun w hw => List.mem_cons_of_mem _ (ax_cls2.2.1 w hw)
  have t12 : W p l e (headSpec (ax_word gX2_row :: ax_T) ({ frames := 8, cells := 1, slots := 6, locals := 512 })).room s m ([.ref (X.1 0), .int (Int32.ofInt x1)] : List Value).toArray below meth c s.heap [] 0 0 (vx_MQ below (fun _ _ _ _ => False) (ex_X X M) ([.ref (X.1 0), .int (Int32.ofInt x1)] : List Value).toArray s 1 6 (ax_A ax_LC X)) (F0 m 12 ls []) :=
    ex_throwW hx hb hl hown hk hi (hN.2.2.2.1 ("FlashFolio", 311, 11, "no such number of the row") (by decide)) hK hN.2.2.2.2.2.2.1 hN.2.2.2.2.2.2.2 va_S.rf (hv.1.trans hml.symm) (by decide +kernel) (by decide +kernel) (by decide +kernel) (by decide +kernel) (by decide +kernel) (fun x h => (ht x h).elim) (Nat.le_of_ble_eq_true rfl) (Nat.le_of_ble_eq_true rfl) (Nat.le_of_ble_eq_true rfl) (Nat.le_of_ble_eq_true rfl) hlocks (ex_x hR ⟨Nat.le_refl _, fun _ _ _ => rfl⟩) (fun z h => nomatch h) (Nat.le_refl _) (Nat.le_refl _)
  refine lv_iload_n hx hb (show decode (ax_cc gX2_row) 0 = .ok (.iload_n 1, 1) by decide +kernel) rfl (lv_at hv 1 rfl) ?_
  refine lv_if_lt hx hb (off := 11) (tgt := 12) (show decode (ax_cc gX2_row) 1 = .ok (.ifCond .lt 11, 3) by decide +kernel) rfl (fun _ => t12) (fun c1 => ?_)
  refine lv_iload_n hx hb (show decode (ax_cc gX2_row) 4 = .ok (.iload_n 1, 1) by decide +kernel) rfl (lv_at hv 1 rfl) ?_
  refine lv_aload_n hx hb (show decode (ax_cc gX2_row) 5 = .ok (.aload_n 0, 1) by decide +kernel) rfl (lv_at hv 0 rfl) ?_
  refine va_get (D := X.2.2) (ci := 2) (v := .int (Int32.ofInt (M 0 12))) (C := RX2) (T := TX2) (N := 17) (fs := ax_fl X 0 (ax_fs 2) (M 0)) hx hb hts hu hown hR.2.1 hR.1 0 (ax_ws_get (X := X) (M := M) (k := 0) (d := (2, 2)) rfl) rfl 12 (by decide) (hts _ (List.mem_cons_of_mem _ nt_151)) (fun _ h9 => h9) rfl (show decode (ax_cc gX2_row) 6 = .ok (.getfield 58, 3) by decide +kernel) ?_
  refine lv_icmp_lt hx hb (off := 14) (tgt := 23) (show decode (ax_cc gX2_row) 9 = .ok (.if_icmp .lt 14, 3) by decide +kernel) rfl (fun c2 => ?_) (fun _ => t12)
  exfalso
  have d1 : ¬ x1 < 0 := fun h => c1 ((ax_lt h1 (show ax_r32 0 from ⟨by decide, by decide⟩)).mpr h)
  have h12 : ax_r32 (M 0 12) := (hR.2.2.2 0 (2, 2) rfl 12 (0, 13, 0) rfl).1
  have d2 : x1 < M 0 12 := (ax_lt h1 h12).mp c2
  unfold f_X2_row at hno
  rw [if_neg d1, if_pos d2] at hno
  exact hno trivial
theorem c_X2_leaf_x (hl : l.stackTraces = false) {x1 x2 x3 : Int} (h1 : ax_r32 x1) (h2 : ax_r32 x2) (h3 : ax_r32 x3) (hno : ¬ (f_X2_leaf x1 x2 x3 M).1) : ex_Met l gX2_leaf X M [.int (Int32.ofInt x1), .int (Int32.ofInt x2), .int (Int32.ofInt x3)] := by
  refine vx_ofW (cc := ax_cc gX2_leaf) (maxL := 5) (ret := some .int) (by decide) rfl ?_
  intro p e s m args below meth c s₁ B hml ht hv
  obtain ⟨rfl, hR, hN, hK⟩ := hv
  have hx := B.exec
  have hb := B.bytes
  have hts := atoms_spec (ws := ax_word gX2_leaf :: ax_T) B.pre
  have hown : s.vm.findClass RX2 = some m.cls := findClass_of_methodNamed B.named
  have hlocks := B.notSynchronized
  have hv := lv_entry ([.ref (X.1 0), .int (Int32.ofInt x1), .int (Int32.ofInt x2), .int (Int32.ofInt x3)]) (n := 5) (Nat.le_of_ble_eq_true rfl)
  rw [lg_entry_eq]
  generalize (lg_sl ([.ref (X.1 0), .int (Int32.ofInt x1), .int (Int32.ofInt x2), .int (Int32.ofInt x3)]) ++ List.replicate (5 - (lg_sl ([.ref (X.1 0), .int (Int32.ofInt x1), .int (Int32.ofInt x2), .int (Int32.ofInt x3)])).length) Slot.unset).toArray = ls at hv ⊢
  have hv : lv_has ls 5 [(0, .ref (X.1 0)), (1, .int (Int32.ofInt x1)), (2, .int (Int32.ofInt x2)), (3, .int (Int32.ofInt x3))] := hv
  have hk := hts _ (List.mem_cons_of_mem _ xt_k)
  have hi := hts _ (List.mem_cons_of_mem _ xt_i)
  have hu : ∀ w ∈ u_ws RX2 TX2 17, w ∈ ax_word gX2_leaf :: ax_T := fun w hw => List.mem_cons_of_mem _ (ax_cls2.2.1 w hw)
  have r0 : ax_r32 0 := ⟨by decide, by decide⟩
  have r16 : ax_r32 16 := ⟨by decide, by decide⟩
  have r4 : ax_r32 4 := ⟨by decide, by decide⟩
  have t19 : W p l e (headSpec (ax_word gX2_leaf :: ax_T) ({ frames := 8, cells := 1, slots := 6, locals := 512 })).room s m ([.ref (X.1 0), .int (Int32.ofInt x1), .int (Int32.ofInt x2), .int (Int32.ofInt x3)] : List Value).toArray below meth c s.heap [] 0 0 (vx_MQ below (fun _ _ _ _ => False) (ex_X X M) ([.ref (X.1 0), .int (Int32.ofInt x1), .int (Int32.ofInt x2), .int (Int32.ofInt x3)] : List Value).toArray s 1 6 (ax_A ax_LC X)) (F0 m 19 ls []) :=
    ex_throw hx hb hl hown hk hi (hN.2.2.2.1 ("FlashFolio", 102, 8, "no such leaf") (by decide)) hK hN.2.2.2.2.2.2.1 hN.2.2.2.2.2.2.2 va_S.rf (hv.1.trans hml.symm) (by decide +kernel) (by decide +kernel) (by decide +kernel) (by decide +kernel) (by decide +kernel) (fun x h => (ht x h).elim) (Nat.le_of_ble_eq_true rfl) (Nat.le_of_ble_eq_true rfl) (Nat.le_of_ble_eq_true rfl) (Nat.le_of_ble_eq_true rfl) hlocks (ex_x hR ⟨Nat.le_refl _, fun _ _ _ => rfl⟩) (fun z h => nomatch h) (Nat.le_refl _) (Nat.le_refl _)
  refine lv_iload_n hx hb (show decode (ax_cc gX2_leaf) 0 = .ok (.iload_n 1, 1) by decide +kernel) rfl (lv_at hv 1 rfl) ?_
  refine lv_if_lt hx hb (off := 18) (tgt := 19) (show decode (ax_cc gX2_leaf) 1 = .ok (.ifCond .lt 18, 3) by decide +kernel) rfl (fun _ => t19) (fun c1 => ?_)
  refine lv_iload_n hx hb (show decode (ax_cc gX2_leaf) 4 = .ok (.iload_n 1, 1) by decide +kernel) rfl (lv_at hv 1 rfl) ?_
  refine lv_bipush (v := Int32.ofInt 16) hx hb (show decode (ax_cc gX2_leaf) 5 = .ok (.bipush 16, 2) by decide +kernel) (by decide) ?_
  refine lv_icmp_ge hx hb (off := 12) (tgt := 19) (show decode (ax_cc gX2_leaf) 7 = .ok (.if_icmp .ge 12, 3) by decide +kernel) rfl (fun _ => t19) (fun c2 => ?_)
  refine lv_iload_n hx hb (show decode (ax_cc gX2_leaf) 10 = .ok (.iload_n 2, 1) by decide +kernel) rfl (lv_at hv 2 rfl) ?_
  refine lv_if_lt hx hb (off := 8) (tgt := 19) (show decode (ax_cc gX2_leaf) 11 = .ok (.ifCond .lt 8, 3) by decide +kernel) rfl (fun _ => t19) (fun c3 => ?_)
  refine lv_iload_n hx hb (show decode (ax_cc gX2_leaf) 14 = .ok (.iload_n 2, 1) by decide +kernel) rfl (lv_at hv 2 rfl) ?_
  refine lv_iconst (v := Int32.ofInt 4) hx hb (show decode (ax_cc gX2_leaf) 15 = .ok (.iconst 4, 1) by decide +kernel) (by decide) ?_
  refine lv_icmp_lt hx hb (off := 13) (tgt := 29) (show decode (ax_cc gX2_leaf) 16 = .ok (.if_icmp .lt 13, 3) by decide +kernel) rfl (fun c4 => ?_) (fun _ => t19)
  have d1 : ¬ x1 < 0 := fun h => c1 ((ax_lt h1 r0).mpr h)
  have d2 : x1 < 16 := by
    by_cases h : x1 < 16
    · exact h
    · exact absurd ((ax_le r16 h1).mpr (by omega)) c2
  have d3 : ¬ x2 < 0 := fun h => c3 ((ax_lt h2 r0).mpr h)
  have d4 : x2 < 4 := (ax_lt h2 r4).mp c4
  refine lv_iload_n hx hb (show decode (ax_cc gX2_leaf) 29 = .ok (.iload_n 1, 1) by decide +kernel) rfl (lv_at hv 1 rfl) ?_
  refine lv_iconst (v := Int32.ofInt 4) hx hb (show decode (ax_cc gX2_leaf) 30 = .ok (.iconst 4, 1) by decide +kernel) (by decide) ?_
  refine lv_imul hx hb (show decode (ax_cc gX2_leaf) 31 = .ok (.imul, 1) by decide +kernel) ?_
  refine lv_iload_n hx hb (show decode (ax_cc gX2_leaf) 32 = .ok (.iload_n 2, 1) by decide +kernel) rfl (lv_at hv 2 rfl) ?_
  refine lv_iadd hx hb (show decode (ax_cc gX2_leaf) 33 = .ok (.iadd, 1) by decide +kernel) ?_
  have ey : Int32.ofInt x1 * Int32.ofInt 4 + Int32.ofInt x2 = Int32.ofInt (x1 * 4 + x2) := by rw [Int32.ofInt_add, Int32.ofInt_mul]
  rw [ey]
  have hy : ax_r32 (x1 * 4 + x2) := ⟨by omega, by omega⟩
  unfold f_X2_leaf at hno
  rw [if_neg d1, if_neg (show ¬ 16 ≤ x1 by omega), if_neg d3, if_pos d4] at hno
  simp only [ax_bd] at hno
  generalize x1 * 4 + x2 = y at hy hno ⊢
  refine lv_istore (lv' := [(4, .int (Int32.ofInt y)), (0, .ref (X.1 0)), (1, .int (Int32.ofInt x1)), (2, .int (Int32.ofInt x2)), (3, .int (Int32.ofInt x3))]) hx hb (show decode (ax_cc gX2_leaf) 34 = .ok (.istore 4, 2) by decide +kernel) hv (by decide) rfl (fun ls2 hv2 => ?_)
  refine lv_aload_n hx hb (show decode (ax_cc gX2_leaf) 36 = .ok (.aload_n 0, 1) by decide +kernel) rfl (lv_at hv2 1 rfl) ?_
  refine va_get (D := X.2.2) (ci := 2) (v := .ref (X.1 1)) (C := RX2) (T := TX2) (N := 17) (fs := ax_fl X 0 (ax_fs 2) (M 0)) hx hb hts hu hown hR.2.1 hR.1 0 (ax_ws_get (X := X) (M := M) (k := 0) (d := (2, 2)) rfl) rfl 0 (by decide) (hts _ (List.mem_cons_of_mem _ nt_139)) (fun _ h9 => h9) rfl (show decode (ax_cc gX2_leaf) 37 = .ok (.getfield 12, 3) by decide +kernel) ?_
  refine lv_iload hx hb (show decode (ax_cc gX2_leaf) 40 = .ok (.iload 4, 2) by decide +kernel) (lv_at hv2 0 rfl) ?_
  refine mx_callVN (L := ax_LC) (X := X) (M := M) (a := 1) (as := [(0, 0, y)]) (rest := []) (A := ax_A ax_LC X) rfl ⟨hx, hb, hml, hown, hts⟩ (show decode (ax_cc gX2_leaf) 42 = .ok (.invokevirtual 104, 3) by decide +kernel) ax_cls0 calX0_isEmptyAt (d1 := 0) (Nat.le_of_ble_eq_true rfl) (Nat.le_of_ble_eq_true rfl) rfl (hN.1 _ wn_852 rfl) wt_396 ws_19 (by decide) (c_X0_isEmptyAt 0 1 y M) rfl (fun v hv => by rcases List.mem_cons.mp hv with e | h; exact e ▸ hy; cases h) hR (fun U hU hW => ax_N_now hN va_S.rf hU hW) va_S.rf (fun _ h => h) hv2.1 ⟨Nat.le_of_ble_eq_true rfl, Nat.le_of_ble_eq_true rfl⟩ (fun r M1 H1 locs1 hq _ hR1 hz1 hk1 hS1 => ?_)
  obtain ⟨rfl, rfl, q1, q2⟩ := hq
  refine lv_if_eq hx hb (off := 13) (tgt := 58) (show decode (ax_cc gX2_leaf) 45 = .ok (.ifCond .eq 13, 3) by decide +kernel) rfl (fun c5 => ?_) (fun c5 => ?_)
  · have e5 : f_X0_isEmptyAt 1 y M1 = 0 := by
      have h9 : ax_r32 (f_X0_isEmptyAt 1 y M1) := ⟨by omega, by omega⟩
      rw [← ax_toI h9, show Int32.ofInt (f_X0_isEmptyAt 1 y M1) = 0 from c5]
      rfl
    rw [if_pos e5] at hno
    have d5 : x3 < 0 ∨ 2 < x3 := by
      by_cases z0 : x3 = 0
      · rw [if_pos z0] at hno; exact absurd trivial hno
      · by_cases z1 : x3 = 1
        · rw [if_neg z0, if_pos z1] at hno; exact absurd trivial hno
        · by_cases z2 : x3 = 2
          · rw [if_neg z0, if_neg z1, if_pos z2] at hno; exact absurd trivial hno
          · omega
    refine lv_iload_n hx hb (show decode (ax_cc gX2_leaf) 58 = .ok (.iload_n 3, 1) by decide +kernel) rfl (lv_at hv2 4 rfl) ?_
    refine lv_tableOut hx hb (dflt := 58) (lo := 0) (hi := 2) (offs := #[25, 36, 47]) (len := 25) (tgt := 117) (show decode (ax_cc gX2_leaf) 59 = .ok (.tableswitch 58 0 2 #[25, 36, 47], 25) by decide +kernel) (by rw [ax_toI h3]; exact d5) rfl ?_
    exact ex_throw hx hb hl hown hk hi (hN.2.2.2.1 ("FlashFolio", 119, 10, "no such thing of a leaf") (by decide)) hK hN.2.2.2.2.2.2.1 hN.2.2.2.2.2.2.2 hS1 (hv2.1.trans hml.symm) (by decide +kernel) (by decide +kernel) (by decide +kernel) (by decide +kernel) (by decide +kernel) (fun x h => (ht x h).elim) (Nat.le_of_ble_eq_true rfl) (Nat.le_of_ble_eq_true rfl) (Nat.le_of_ble_eq_true rfl) (Nat.le_of_ble_eq_true rfl) hlocks (ex_x hR1 ⟨hz1, hk1⟩) hS1.2.2 (Nat.le_refl _) (Nat.le_refl _)
  · exact ex_throw hx hb hl hown hk hi (hN.2.2.2.1 ("FlashFolio", 108, 9, "an empty leaf") (by decide)) hK hN.2.2.2.2.2.2.1 hN.2.2.2.2.2.2.2 hS1 (hv2.1.trans hml.symm) (by decide +kernel) (by decide +kernel) (by decide +kernel) (by decide +kernel) (by decide +kernel) (fun x h => (ht x h).elim) (Nat.le_of_ble_eq_true rfl) (Nat.le_of_ble_eq_true rfl) (Nat.le_of_ble_eq_true rfl) (Nat.le_of_ble_eq_true rfl) hlocks (ex_x hR1 ⟨hz1, hk1⟩) hS1.2.2 (Nat.le_refl _) (Nat.le_refl _)
end XMV
