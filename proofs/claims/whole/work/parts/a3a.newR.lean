set_option maxHeartbeats 4000000 in
set_option maxRecDepth 100000 in
theorem c_X1_new : lx_new gX1_init 1 [.null, z0, .null, z0, z0, z0, z0, z0] lx_LR m0_R 1 2 80 := by
  intro l cls D ad n0 h0 sz
  refine Met.ofW (cc := ax_cc gX1_init) (maxL := 1) (ret := none) (by decide) rfl ?_
  intro p e s m args below meth c s₁ B hml hv
  obtain ⟨rfl, hsz, hP, hK, hD0, hn1, hn2, hN⟩ := hv
  have hx := B.exec
  have hb := B.bytes
  have hr := B.returns
  have hts := atoms_spec (ws := ax_word gX1_init :: ax_T) B.pre
  have hown : s.vm.findClass RX1 = some m.cls := findClass_of_methodNamed B.named
  have hlocks := B.notSynchronized
  have hin : meth.name = "<init>" := (name_of_methodNamed B.named B.method).1
  subst hsz
  have hD := hD0.self (sz := s.heap.size)
  generalize hAe : va_A [(h0, .inr (1, [.null, z0, .null, z0, z0, z0, z0, z0]))] s.heap.size = A at hD ⊢
  have hA : ∀ q : Nat, s.heap.size ≤ q → A q := fun q h => by rw [← hAe]; exact Or.inr h
  have hA0 : ∀ q : Nat, A q → n0 ≤ q := fun q h => by
    rw [← hAe] at h
    exact lx_A1 hn1 hn2 h
  have hS : va_S A s.heap s.heap [] := va_S.rf
  have hl := lv_entry ([.ref h0]) (n := 1) (Nat.le_of_ble_eq_true rfl)
  rw [lg_entry_eq]
  generalize (lg_sl ([.ref h0]) ++ List.replicate (1 - (lg_sl ([.ref h0])).length) Slot.unset).toArray = ls at hl ⊢
  have hl : lv_has ls 1 [(0, .ref h0)] := hl
  have hu : ∀ w ∈ u_ws RX1 TX1 8, w ∈ ax_word gX1_init :: ax_T := fun w hw => List.mem_cons_of_mem _ (ax_cls1.2.1 w hw)
  refine lv_aload_n hx hb (show decode (ax_cc gX1_init) 0 = .ok (.aload_n 0, 1) by decide +kernel) rfl (lv_at hl 0 rfl) ?_
  refine W.objInit hx hb hown (hts _ (List.mem_cons_of_mem _ nt_112)) (hts _ (List.mem_cons_of_mem _ nt_24)) (hts _ (List.mem_cons_of_mem _ nt_obj)) rfl (by rw [hml]; exact hl.1) rfl (show decode (ax_cc gX1_init) 1 = .ok (.invokespecial 3, 3) by decide +kernel) (Nat.le_of_ble_eq_true rfl) (Nat.le_of_ble_eq_true rfl) ?_
  refine W.eq (g2 := F0 m 4 ls []) rfl ?_
  refine lv_aload_n hx hb (show decode (ax_cc gX1_init) 4 = .ok (.aload_n 0, 1) by decide +kernel) rfl (lv_at hl 0 rfl) ?_
  refine lv_bipush (v := Int32.ofInt 40) hx hb (show decode (ax_cc gX1_init) 5 = .ok (.bipush 40, 2) by decide +kernel) (by decide) ?_
  refine nx_newa (atype := .int) (ty := .int) (t0 := 0) (cI := cls 3) (a0 := (40, .inl (fun _ => Int32.ofInt 0))) (N' := 40) hx hb (hts _ (List.mem_cons_of_mem _ nt_106)) rfl hK rfl (fun _ _ => Iff.rfl) hP hD hS hA (fun _ => rfl) (by decide) (by decide) (by decide) (Nat.le_of_ble_eq_true rfl) (Nat.le_of_ble_eq_true rfl) (show decode (ax_cc gX1_init) 7 = .ok (.newarray .int, 2) by decide +kernel) (fun q7 H hP hD hS => ?_)
  have hP : va_P D vwCl [(h0, .inr (1, [.null, z0, .null, z0, z0, z0, z0, z0])), (q7, .inl (cls 3, 40, .inl (fun _ => Int32.ofInt 0)))] H := hP
  have hD : va_D A [(h0, .inr (1, [.null, z0, .null, z0, z0, z0, z0, z0])), (q7, .inl (cls 3, 40, .inl (fun _ => Int32.ofInt 0)))] := hD
  refine W.widen (k := 1) (n := 40) (Nat.le_of_ble_eq_true rfl) (Nat.le_of_ble_eq_true rfl) ?_
  refine va_putF (D := D) (ci := 1) (v := .ref q7) (ty := tyX1 0) (C := RX1) (T := TX1) (N := 8) hx hb hts hu tyX1 ax_cls1.2.2.1 ax_cls1.2.2.2 hown hK hP hD hS 0 rfl rfl 0 (by decide) (hts _ (List.mem_cons_of_mem _ nt_113)) (fun _ h9 => h9) rfl hin rfl (ax_cls1.2.2.1 0 (by decide)) rfl rfl (Nat.le_of_ble_eq_true rfl) (show decode (ax_cc gX1_init) 9 = .ok (.putfield 11, 3) by decide +kernel) (fun H locs hP hD hS => ?_)
  have hP : va_P D vwCl [(h0, .inr (1, [.ref q7, z0, .null, z0, z0, z0, z0, z0])), (q7, .inl (cls 3, 40, .inl (fun _ => Int32.ofInt 0)))] H := hP
  have hD : va_D A [(h0, .inr (1, [.ref q7, z0, .null, z0, z0, z0, z0, z0])), (q7, .inl (cls 3, 40, .inl (fun _ => Int32.ofInt 0)))] := hD
  refine lv_aload_n hx hb (show decode (ax_cc gX1_init) 12 = .ok (.aload_n 0, 1) by decide +kernel) rfl (lv_at hl 0 rfl) ?_
  refine lv_iconst (v := Int32.ofInt 0) hx hb (show decode (ax_cc gX1_init) 13 = .ok (.iconst 0, 1) by decide +kernel) (by decide) ?_
  refine va_put (D := D) (ci := 1) (v := z0) (ty := tyX1 1) (C := RX1) (T := TX1) (N := 8) hx hb hts hu tyX1 ax_cls1.2.2.1 ax_cls1.2.2.2 hown hK hP hD hS 0 rfl rfl 1 (by decide) (hts _ (List.mem_cons_of_mem _ nt_114)) (fun _ h9 => h9) rfl (ax_cls1.2.2.1 1 (by decide)) rfl rfl (Nat.le_of_ble_eq_true rfl) (show decode (ax_cc gX1_init) 14 = .ok (.putfield 15, 3) by decide +kernel) (fun H locs hP hD hS => ?_)
  have hP : va_P D vwCl [(h0, .inr (1, [.ref q7, z0, .null, z0, z0, z0, z0, z0])), (q7, .inl (cls 3, 40, .inl (fun _ => Int32.ofInt 0)))] H := hP
  have hD : va_D A [(h0, .inr (1, [.ref q7, z0, .null, z0, z0, z0, z0, z0])), (q7, .inl (cls 3, 40, .inl (fun _ => Int32.ofInt 0)))] := hD
  refine lv_aload_n hx hb (show decode (ax_cc gX1_init) 17 = .ok (.aload_n 0, 1) by decide +kernel) rfl (lv_at hl 0 rfl) ?_
  refine lv_bipush (v := Int32.ofInt 40) hx hb (show decode (ax_cc gX1_init) 18 = .ok (.bipush 40, 2) by decide +kernel) (by decide) ?_
  refine nx_newa (atype := .int) (ty := .int) (t0 := 0) (cI := cls 3) (a0 := (40, .inl (fun _ => Int32.ofInt 0))) (N' := 40) hx hb (hts _ (List.mem_cons_of_mem _ nt_106)) rfl hK rfl (fun _ _ => Iff.rfl) hP hD hS hA (fun _ => rfl) (by decide) (by decide) (by decide) (Nat.le_of_ble_eq_true rfl) (Nat.le_of_ble_eq_true rfl) (show decode (ax_cc gX1_init) 20 = .ok (.newarray .int, 2) by decide +kernel) (fun q20 H hP hD hS => ?_)
  have hP : va_P D vwCl [(h0, .inr (1, [.ref q7, z0, .null, z0, z0, z0, z0, z0])), (q7, .inl (cls 3, 40, .inl (fun _ => Int32.ofInt 0))), (q20, .inl (cls 3, 40, .inl (fun _ => Int32.ofInt 0)))] H := hP
  have hD : va_D A [(h0, .inr (1, [.ref q7, z0, .null, z0, z0, z0, z0, z0])), (q7, .inl (cls 3, 40, .inl (fun _ => Int32.ofInt 0))), (q20, .inl (cls 3, 40, .inl (fun _ => Int32.ofInt 0)))] := hD
  refine W.widen (k := 2) (n := 80) (Nat.le_of_ble_eq_true rfl) (Nat.le_of_ble_eq_true rfl) ?_
  refine va_putF (D := D) (ci := 1) (v := .ref q20) (ty := tyX1 2) (C := RX1) (T := TX1) (N := 8) hx hb hts hu tyX1 ax_cls1.2.2.1 ax_cls1.2.2.2 hown hK hP hD hS 0 rfl rfl 2 (by decide) (hts _ (List.mem_cons_of_mem _ nt_115)) (fun _ h9 => h9) rfl hin rfl (ax_cls1.2.2.1 2 (by decide)) rfl rfl (Nat.le_of_ble_eq_true rfl) (show decode (ax_cc gX1_init) 22 = .ok (.putfield 19, 3) by decide +kernel) (fun H locs hP hD hS => ?_)
  have hP : va_P D vwCl [(h0, .inr (1, [.ref q7, z0, .ref q20, z0, z0, z0, z0, z0])), (q7, .inl (cls 3, 40, .inl (fun _ => Int32.ofInt 0))), (q20, .inl (cls 3, 40, .inl (fun _ => Int32.ofInt 0)))] H := hP
  have hD : va_D A [(h0, .inr (1, [.ref q7, z0, .ref q20, z0, z0, z0, z0, z0])), (q7, .inl (cls 3, 40, .inl (fun _ => Int32.ofInt 0))), (q20, .inl (cls 3, 40, .inl (fun _ => Int32.ofInt 0)))] := hD
  refine lv_aload_n hx hb (show decode (ax_cc gX1_init) 25 = .ok (.aload_n 0, 1) by decide +kernel) rfl (lv_at hl 0 rfl) ?_
  refine lv_iconst (v := Int32.ofInt 0) hx hb (show decode (ax_cc gX1_init) 26 = .ok (.iconst 0, 1) by decide +kernel) (by decide) ?_
  refine va_put (D := D) (ci := 1) (v := z0) (ty := tyX1 3) (C := RX1) (T := TX1) (N := 8) hx hb hts hu tyX1 ax_cls1.2.2.1 ax_cls1.2.2.2 hown hK hP hD hS 0 rfl rfl 3 (by decide) (hts _ (List.mem_cons_of_mem _ nt_116)) (fun _ h9 => h9) rfl (ax_cls1.2.2.1 3 (by decide)) rfl rfl (Nat.le_of_ble_eq_true rfl) (show decode (ax_cc gX1_init) 27 = .ok (.putfield 22, 3) by decide +kernel) (fun H locs hP hD hS => ?_)
  have hP : va_P D vwCl [(h0, .inr (1, [.ref q7, z0, .ref q20, z0, z0, z0, z0, z0])), (q7, .inl (cls 3, 40, .inl (fun _ => Int32.ofInt 0))), (q20, .inl (cls 3, 40, .inl (fun _ => Int32.ofInt 0)))] H := hP
  have hD : va_D A [(h0, .inr (1, [.ref q7, z0, .ref q20, z0, z0, z0, z0, z0])), (q7, .inl (cls 3, 40, .inl (fun _ => Int32.ofInt 0))), (q20, .inl (cls 3, 40, .inl (fun _ => Int32.ofInt 0)))] := hD
  refine lv_aload_n hx hb (show decode (ax_cc gX1_init) 30 = .ok (.aload_n 0, 1) by decide +kernel) rfl (lv_at hl 0 rfl) ?_
  refine lv_iconst (v := Int32.ofInt 1) hx hb (show decode (ax_cc gX1_init) 31 = .ok (.iconst 1, 1) by decide +kernel) (by decide) ?_
  refine va_put (D := D) (ci := 1) (v := .int (Int32.ofInt 1)) (ty := tyX1 4) (C := RX1) (T := TX1) (N := 8) hx hb hts hu tyX1 ax_cls1.2.2.1 ax_cls1.2.2.2 hown hK hP hD hS 0 rfl rfl 4 (by decide) (hts _ (List.mem_cons_of_mem _ nt_117)) (fun _ h9 => h9) rfl (ax_cls1.2.2.1 4 (by decide)) rfl rfl (Nat.le_of_ble_eq_true rfl) (show decode (ax_cc gX1_init) 32 = .ok (.putfield 25, 3) by decide +kernel) (fun H locs hP hD hS => ?_)
  have hP : va_P D vwCl [(h0, .inr (1, [.ref q7, z0, .ref q20, z0, .int (Int32.ofInt 1), z0, z0, z0])), (q7, .inl (cls 3, 40, .inl (fun _ => Int32.ofInt 0))), (q20, .inl (cls 3, 40, .inl (fun _ => Int32.ofInt 0)))] H := hP
  have hD : va_D A [(h0, .inr (1, [.ref q7, z0, .ref q20, z0, .int (Int32.ofInt 1), z0, z0, z0])), (q7, .inl (cls 3, 40, .inl (fun _ => Int32.ofInt 0))), (q20, .inl (cls 3, 40, .inl (fun _ => Int32.ofInt 0)))] := hD
  refine lv_aload_n hx hb (show decode (ax_cc gX1_init) 35 = .ok (.aload_n 0, 1) by decide +kernel) rfl (lv_at hl 0 rfl) ?_
  refine lv_iconst (v := Int32.ofInt 0) hx hb (show decode (ax_cc gX1_init) 36 = .ok (.iconst 0, 1) by decide +kernel) (by decide) ?_
  refine va_put (D := D) (ci := 1) (v := z0) (ty := tyX1 5) (C := RX1) (T := TX1) (N := 8) hx hb hts hu tyX1 ax_cls1.2.2.1 ax_cls1.2.2.2 hown hK hP hD hS 0 rfl rfl 5 (by decide) (hts _ (List.mem_cons_of_mem _ nt_118)) (fun _ h9 => h9) rfl (ax_cls1.2.2.1 5 (by decide)) rfl rfl (Nat.le_of_ble_eq_true rfl) (show decode (ax_cc gX1_init) 37 = .ok (.putfield 29, 3) by decide +kernel) (fun H locs hP hD hS => ?_)
  have hP : va_P D vwCl [(h0, .inr (1, [.ref q7, z0, .ref q20, z0, .int (Int32.ofInt 1), z0, z0, z0])), (q7, .inl (cls 3, 40, .inl (fun _ => Int32.ofInt 0))), (q20, .inl (cls 3, 40, .inl (fun _ => Int32.ofInt 0)))] H := hP
  have hD : va_D A [(h0, .inr (1, [.ref q7, z0, .ref q20, z0, .int (Int32.ofInt 1), z0, z0, z0])), (q7, .inl (cls 3, 40, .inl (fun _ => Int32.ofInt 0))), (q20, .inl (cls 3, 40, .inl (fun _ => Int32.ofInt 0)))] := hD
  refine lv_aload_n hx hb (show decode (ax_cc gX1_init) 40 = .ok (.aload_n 0, 1) by decide +kernel) rfl (lv_at hl 0 rfl) ?_
  refine lv_iconst (v := Int32.ofInt 0) hx hb (show decode (ax_cc gX1_init) 41 = .ok (.iconst 0, 1) by decide +kernel) (by decide) ?_
  refine va_put (D := D) (ci := 1) (v := z0) (ty := tyX1 6) (C := RX1) (T := TX1) (N := 8) hx hb hts hu tyX1 ax_cls1.2.2.1 ax_cls1.2.2.2 hown hK hP hD hS 0 rfl rfl 6 (by decide) (hts _ (List.mem_cons_of_mem _ nt_119)) (fun _ h9 => h9) rfl (ax_cls1.2.2.1 6 (by decide)) rfl rfl (Nat.le_of_ble_eq_true rfl) (show decode (ax_cc gX1_init) 42 = .ok (.putfield 32, 3) by decide +kernel) (fun H locs hP hD hS => ?_)
  have hP : va_P D vwCl [(h0, .inr (1, [.ref q7, z0, .ref q20, z0, .int (Int32.ofInt 1), z0, z0, z0])), (q7, .inl (cls 3, 40, .inl (fun _ => Int32.ofInt 0))), (q20, .inl (cls 3, 40, .inl (fun _ => Int32.ofInt 0)))] H := hP
  have hD : va_D A [(h0, .inr (1, [.ref q7, z0, .ref q20, z0, .int (Int32.ofInt 1), z0, z0, z0])), (q7, .inl (cls 3, 40, .inl (fun _ => Int32.ofInt 0))), (q20, .inl (cls 3, 40, .inl (fun _ => Int32.ofInt 0)))] := hD
  refine lv_aload_n hx hb (show decode (ax_cc gX1_init) 45 = .ok (.aload_n 0, 1) by decide +kernel) rfl (lv_at hl 0 rfl) ?_
  refine lv_iconst (v := Int32.ofInt 0) hx hb (show decode (ax_cc gX1_init) 46 = .ok (.iconst 0, 1) by decide +kernel) (by decide) ?_
  refine va_put (D := D) (ci := 1) (v := z0) (ty := tyX1 7) (C := RX1) (T := TX1) (N := 8) hx hb hts hu tyX1 ax_cls1.2.2.1 ax_cls1.2.2.2 hown hK hP hD hS 0 rfl rfl 7 (by decide) (hts _ (List.mem_cons_of_mem _ nt_120)) (fun _ h9 => h9) rfl (ax_cls1.2.2.1 7 (by decide)) rfl rfl (Nat.le_of_ble_eq_true rfl) (show decode (ax_cc gX1_init) 47 = .ok (.putfield 35, 3) by decide +kernel) (fun H locs hP hD hS => ?_)
  have hP : va_P D vwCl [(h0, .inr (1, [.ref q7, z0, .ref q20, z0, .int (Int32.ofInt 1), z0, z0, z0])), (q7, .inl (cls 3, 40, .inl (fun _ => Int32.ofInt 0))), (q20, .inl (cls 3, 40, .inl (fun _ => Int32.ofInt 0)))] H := hP
  have hD : va_D A [(h0, .inr (1, [.ref q7, z0, .ref q20, z0, .int (Int32.ofInt 1), z0, z0, z0])), (q7, .inl (cls 3, 40, .inl (fun _ => Int32.ofInt 0))), (q20, .inl (cls 3, 40, .inl (fun _ => Int32.ofInt 0)))] := hD
  refine lv_aload_n hx hb (show decode (ax_cc gX1_init) 50 = .ok (.aload_n 0, 1) by decide +kernel) rfl (lv_at hl 0 rfl) ?_
  refine va_get (D := D) (ci := 1) (v := .ref q7) (C := RX1) (T := TX1) (N := 8) hx hb hts hu hown hK hP 0 rfl rfl 0 (by decide) (hts _ (List.mem_cons_of_mem _ nt_113)) (fun _ h9 => h9) rfl (show decode (ax_cc gX1_init) 51 = .ok (.getfield 11, 3) by decide +kernel) ?_
  refine lv_iconst (v := Int32.ofInt 0) hx hb (show decode (ax_cc gX1_init) 54 = .ok (.iconst 0, 1) by decide +kernel) (by decide) ?_
  refine lv_sipush (v := Int32.ofInt 1000) hx hb (show decode (ax_cc gX1_init) 55 = .ok (.sipush 1000, 3) by decide +kernel) (by decide) ?_
  refine va_iast hx hb hK hP hD hS 1 0 rfl rfl (i := Int32.ofInt 0) (x := Int32.ofInt 1000) (show ¬ (Int32.ofInt 0 < 0 ∨ 40 ≤ (Int32.ofInt 0).toNatClampNeg) by decide) (show decode (ax_cc gX1_init) 58 = .ok (.iastore, 1) by decide +kernel) (fun H locs hP hD hS => ?_)
  have hP : va_P D vwCl [(h0, .inr (1, [.ref q7, z0, .ref q20, z0, .int (Int32.ofInt 1), z0, z0, z0])), (q7, .inl (cls 3, 40, .inl (upd (fun _ => Int32.ofInt 0) (Int32.ofInt 0).toNatClampNeg (Int32.ofInt 1000)))), (q20, .inl (cls 3, 40, .inl (fun _ => Int32.ofInt 0)))] H := hP
  have hD : va_D A [(h0, .inr (1, [.ref q7, z0, .ref q20, z0, .int (Int32.ofInt 1), z0, z0, z0])), (q7, .inl (cls 3, 40, .inl (upd (fun _ => Int32.ofInt 0) (Int32.ofInt 0).toNatClampNeg (Int32.ofInt 1000)))), (q20, .inl (cls 3, 40, .inl (fun _ => Int32.ofInt 0)))] := hD
  refine lv_aload_n hx hb (show decode (ax_cc gX1_init) 59 = .ok (.aload_n 0, 1) by decide +kernel) rfl (lv_at hl 0 rfl) ?_
  refine va_get (D := D) (ci := 1) (v := .ref q7) (C := RX1) (T := TX1) (N := 8) hx hb hts hu hown hK hP 0 rfl rfl 0 (by decide) (hts _ (List.mem_cons_of_mem _ nt_113)) (fun _ h9 => h9) rfl (show decode (ax_cc gX1_init) 60 = .ok (.getfield 11, 3) by decide +kernel) ?_
  refine lv_iconst (v := Int32.ofInt 1) hx hb (show decode (ax_cc gX1_init) 63 = .ok (.iconst 1, 1) by decide +kernel) (by decide) ?_
  refine lv_iconst (v := Int32.ofInt 4) hx hb (show decode (ax_cc gX1_init) 64 = .ok (.iconst 4, 1) by decide +kernel) (by decide) ?_
  refine va_iast hx hb hK hP hD hS 1 0 rfl rfl (i := Int32.ofInt 1) (x := Int32.ofInt 4) (show ¬ (Int32.ofInt 1 < 0 ∨ 40 ≤ (Int32.ofInt 1).toNatClampNeg) by decide) (show decode (ax_cc gX1_init) 65 = .ok (.iastore, 1) by decide +kernel) (fun H locs hP hD hS => ?_)
  have hP : va_P D vwCl [(h0, .inr (1, [.ref q7, z0, .ref q20, z0, .int (Int32.ofInt 1), z0, z0, z0])), (q7, .inl (cls 3, 40, .inl (upd (upd (fun _ => Int32.ofInt 0) (Int32.ofInt 0).toNatClampNeg (Int32.ofInt 1000)) (Int32.ofInt 1).toNatClampNeg (Int32.ofInt 4)))), (q20, .inl (cls 3, 40, .inl (fun _ => Int32.ofInt 0)))] H := hP
  have hD : va_D A [(h0, .inr (1, [.ref q7, z0, .ref q20, z0, .int (Int32.ofInt 1), z0, z0, z0])), (q7, .inl (cls 3, 40, .inl (upd (upd (fun _ => Int32.ofInt 0) (Int32.ofInt 0).toNatClampNeg (Int32.ofInt 1000)) (Int32.ofInt 1).toNatClampNeg (Int32.ofInt 4)))), (q20, .inl (cls 3, 40, .inl (fun _ => Int32.ofInt 0)))] := hD
  refine lv_aload_n hx hb (show decode (ax_cc gX1_init) 66 = .ok (.aload_n 0, 1) by decide +kernel) rfl (lv_at hl 0 rfl) ?_
  refine va_get (D := D) (ci := 1) (v := .ref q7) (C := RX1) (T := TX1) (N := 8) hx hb hts hu hown hK hP 0 rfl rfl 0 (by decide) (hts _ (List.mem_cons_of_mem _ nt_113)) (fun _ h9 => h9) rfl (show decode (ax_cc gX1_init) 67 = .ok (.getfield 11, 3) by decide +kernel) ?_
  refine lv_iconst (v := Int32.ofInt 2) hx hb (show decode (ax_cc gX1_init) 70 = .ok (.iconst 2, 1) by decide +kernel) (by decide) ?_
  refine lv_sipush (v := Int32.ofInt 2062) hx hb (show decode (ax_cc gX1_init) 71 = .ok (.sipush 2062, 3) by decide +kernel) (by decide) ?_
  refine va_iast hx hb hK hP hD hS 1 0 rfl rfl (i := Int32.ofInt 2) (x := Int32.ofInt 2062) (show ¬ (Int32.ofInt 2 < 0 ∨ 40 ≤ (Int32.ofInt 2).toNatClampNeg) by decide) (show decode (ax_cc gX1_init) 74 = .ok (.iastore, 1) by decide +kernel) (fun H locs hP hD hS => ?_)
  have hP : va_P D vwCl [(h0, .inr (1, [.ref q7, z0, .ref q20, z0, .int (Int32.ofInt 1), z0, z0, z0])), (q7, .inl (cls 3, 40, .inl (upd (upd (upd (fun _ => Int32.ofInt 0) (Int32.ofInt 0).toNatClampNeg (Int32.ofInt 1000)) (Int32.ofInt 1).toNatClampNeg (Int32.ofInt 4)) (Int32.ofInt 2).toNatClampNeg (Int32.ofInt 2062)))), (q20, .inl (cls 3, 40, .inl (fun _ => Int32.ofInt 0)))] H := hP
  have hD : va_D A [(h0, .inr (1, [.ref q7, z0, .ref q20, z0, .int (Int32.ofInt 1), z0, z0, z0])), (q7, .inl (cls 3, 40, .inl (upd (upd (upd (fun _ => Int32.ofInt 0) (Int32.ofInt 0).toNatClampNeg (Int32.ofInt 1000)) (Int32.ofInt 1).toNatClampNeg (Int32.ofInt 4)) (Int32.ofInt 2).toNatClampNeg (Int32.ofInt 2062)))), (q20, .inl (cls 3, 40, .inl (fun _ => Int32.ofInt 0)))] := hD
  refine lv_aload_n hx hb (show decode (ax_cc gX1_init) 75 = .ok (.aload_n 0, 1) by decide +kernel) rfl (lv_at hl 0 rfl) ?_
  refine lv_iconst (v := Int32.ofInt 3) hx hb (show decode (ax_cc gX1_init) 76 = .ok (.iconst 3, 1) by decide +kernel) (by decide) ?_
  refine va_put (D := D) (ci := 1) (v := .int (Int32.ofInt 3)) (ty := tyX1 1) (C := RX1) (T := TX1) (N := 8) hx hb hts hu tyX1 ax_cls1.2.2.1 ax_cls1.2.2.2 hown hK hP hD hS 0 rfl rfl 1 (by decide) (hts _ (List.mem_cons_of_mem _ nt_114)) (fun _ h9 => h9) rfl (ax_cls1.2.2.1 1 (by decide)) rfl rfl (Nat.le_of_ble_eq_true rfl) (show decode (ax_cc gX1_init) 77 = .ok (.putfield 15, 3) by decide +kernel) (fun H locs hP hD hS => ?_)
  have hP : va_P D vwCl [(h0, .inr (1, [.ref q7, .int (Int32.ofInt 3), .ref q20, z0, .int (Int32.ofInt 1), z0, z0, z0])), (q7, .inl (cls 3, 40, .inl (upd (upd (upd (fun _ => Int32.ofInt 0) (Int32.ofInt 0).toNatClampNeg (Int32.ofInt 1000)) (Int32.ofInt 1).toNatClampNeg (Int32.ofInt 4)) (Int32.ofInt 2).toNatClampNeg (Int32.ofInt 2062)))), (q20, .inl (cls 3, 40, .inl (fun _ => Int32.ofInt 0)))] H := hP
  have hD : va_D A [(h0, .inr (1, [.ref q7, .int (Int32.ofInt 3), .ref q20, z0, .int (Int32.ofInt 1), z0, z0, z0])), (q7, .inl (cls 3, 40, .inl (upd (upd (upd (fun _ => Int32.ofInt 0) (Int32.ofInt 0).toNatClampNeg (Int32.ofInt 1000)) (Int32.ofInt 1).toNatClampNeg (Int32.ofInt 4)) (Int32.ofInt 2).toNatClampNeg (Int32.ofInt 2062)))), (q20, .inl (cls 3, 40, .inl (fun _ => Int32.ofInt 0)))] := hD
  rw [u0_R] at hP hD
  have hE : ax_ws lx_LR ((fun k => if k < 1000 then [h0, q7, q20].getD k 0 else ad k), cls, D) m0_R = [(h0, .inr (1, [.ref q7, .int (Int32.ofInt 3), .ref q20, z0, .int (Int32.ofInt 1), z0, z0, z0])), (q7, .inl (cls 3, 40, .inl (fun i => Int32.ofInt (m0_R 1 i)))), (q20, .inl (cls 3, 40, .inl (fun _ => Int32.ofInt 0)))] := by
    rfl
  rw [← hE] at hP hD
  refine W.widen (k := 2) (n := 80) (Nat.le_of_ble_eq_true rfl) (Nat.le_of_ble_eq_true rfl) ?_
  exact W.vret hx hb hr (fun t ht hW => ⟨⟨(fun k => if k < 1000 then [h0, q7, q20].getD k 0 else ad k), rfl, ⟨rfl, fun k hk => if_neg (Nat.not_lt.mpr hk)⟩, by rw [ht]; exact hP, hD⟩, hS.F ht⟩) hS.2.2 (show decode (ax_cc gX1_init) 80 = .ok (.return_, 1) by decide +kernel)
