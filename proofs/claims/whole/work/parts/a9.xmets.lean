/-! ===== block, leaf, row where they throw ===== -/
theorem xt_k : Cond.classLink "FlashFolio" 77 ex_n ∈ ax_T := ax_T_mem (lw_in 778 (by decide +kernel)) (by decide +kernel)
theorem xt_i : Cond.initialized ex_n ∈ ax_T := ax_T_mem (lw_in 15 (by decide +kernel)) (by decide +kernel)
/-- what is so where the class has thrown -/
def ex_X (X : ax_X) (M : ax_M) : String → State → State → Prop := fun E st t => E = ex_n ∧ ax_R ax_LC X M t t.heap ∧ va_F (ax_A ax_LC X) st t
def ex_P (X : ax_X) (M : ax_M) (av : List Value) : Array Value → State → Prop := va_Pc (.ref (X.1 0) :: av) (fun U => ax_R ax_LC X M U U.heap ∧ ax_N ax_LC X U U.heap ∧ ex_K U)
def ex_Met (l : Launch) (G : ax_G) (X : ax_X) (M : ax_M) (av : List Value) : Prop := vx_Met l G.1 (ax_word G :: ax_T) ({ frames := 8, cells := 1, slots := 6, locals := 512 }) (ex_P X M av) (fun _ _ _ _ => False) (ex_X X M) 1 6 (ax_A ax_LC X)
theorem ex_blind {X : ax_X} {M : ax_M} {av : List Value} : FrameBlind (ex_P X M av) := by
  intro a U g mk h
  obtain ⟨h1, hR, hN, hK⟩ := h
  exact ⟨h1, ax_R.moved (u := U) (U := U.calling g mk a) (Vm.Alike.refl U.vm) hR, ax_N.warm (s := U) (U := U.calling g mk a) (H := U.heap) hN (State.WarmedH.refl U) (fun _ _ _ => rfl) (Nat.le_refl _), ex_K.warm (s := U) (U := U.calling g mk a) hK (State.WarmedH.refl U)⟩
section XMT
variable {p : Program} {l : Launch} {e : Env} {R : Room} {s : State} {m : MethodId} {args : Array Value} {below : List Frame} {meth : Method} {c' : Code} {H H0 : Heap} {locs : List Loc} {cells slots : Nat} {Q : State → Prop}
variable {cc : ByteArray} {pc : Nat} {ls : Array Slot} {rest : List Value} {A : Nat → Prop}
theorem mx_callVN {L : ax_L} {X : ax_X} {M : ax_M} {G1 : ax_G} {a d1 i c N n nL : Nat} {as : List ax_V} {C own host : String} {T : u_T} {ty : Nat → FieldType} {c0 : Cond} {Ts : List Cond} {Q1 : Option ax_V → ax_M → Prop} (hTs : Ts = c0 :: ax_T) (hfix : CallFix p m c' cc nL s args Ts own) (hd : decode cc pc = .ok (.invokevirtual i, 3)) (hcl : ax_cls c C T N ty) (hcal : ax_cal G1 n) (hdd : d1 + 1 ≤ R.frames) (hdl : 64 + 64 * d1 ≤ R.locals) (hn : as.length = n)
    (hw1 : va_Nw (.methodLinkNest own i G1.1 host) s) (hw2 : Cond.instanceMethod G1.1 ∈ ax_T) (hw3 : Cond.selects C G1.1 G1.1 ∈ ax_T) (hwd : (rest.map fun v => v.category).sum ≤ 8) (hM : ax_Met L G1 d1 ((2, c, (a : Int)) :: as) M Q1) (h0 : L[a]? = some (2, c)) (hok : ∀ v ∈ as, ax_ok L v) (hR : ax_R L X M s H) (hN : ∀ U : State, U.heap = H → s.WarmedH U.vm → ax_N L X U U.heap)
    (hS : va_S A H0 H locs) (hAA : ∀ q, ax_A L X q → A q) (hsz : ls.size = nL) (hc : cells ≤ R.cells ∧ slots ≤ R.slots)
    (kk : ∀ (r : Option ax_V) (M1 : ax_M) (H1 : Heap) (locs1 : List Loc), Q1 r M1 → ax_okr L r → ax_R L X M1 s H1 → H.size ≤ H1.size → (∀ q : Nat, q < H.size → ¬ ax_A L X q → H1[q]? = H[q]?) → va_S A H0 H1 locs1 → W p l e R s m args below meth c' H1 locs1 cells slots Q (F0 m (pc + 3) ls ((r.map (ax_vl X)).toList ++ rest))) :
    W p l e R s m args below meth c' H locs cells slots Q (F0 m pc ls ((as.map (ax_vl X)).reverse ++ .ref (X.1 a) :: rest)) := by
  subst hTs
  have hts := hfix.2.2.2.2
  have hm := hM l X (fun v hv => by
    rcases List.mem_cons.mp hv with e | h
    · subst e; exact ⟨Int.natCast_nonneg a, h0⟩
    · exact hok v h)
  have hcw : va_CN R s args own i G1.1 host (ax_cc G1) (ax_nL G1) (ax_ret G1) (ax_word G1 :: ax_T) (ax_rm d1) 0 0 n ∧ (Cond.instanceMethod G1.1).before args s = true ∧ (Cond.selects C G1.1 G1.1).before args s = true :=
    ⟨va_cnB n hts (ax_good hcal.1) rfl rfl rfl hw1 (hts _ (List.mem_cons_of_mem _ hcal.2.1)) hcal.2.2.1 ⟨hdd, by have := hcal.2.2.2; show 8 + (ax_nL G1 + 11) + 64 * d1 ≤ R.locals; omega⟩, hts _ (List.mem_cons_of_mem _ hw2), hts _ (List.mem_cons_of_mem _ hw3)⟩
  have hpre : PreV s H C (X.1 a) (va_Pc (((2, c, (a : Int)) :: as).map (ax_vl X)) (fun U => ax_R L X M U U.heap ∧ ax_N L X U U.heap)) (as.map (ax_vl X)) :=
    ⟨ax_blind, ax_recv (a := (a : Int)) hcl hR h0, fun U hU hW => ⟨rfl, by rw [hU]; exact hR.moved hW.alike, hN U hU hW⟩⟩
  have hrun := va_runVN (g := F0 m pc ls ((as.map (ax_vl X)).reverse ++ .ref (X.1 a) :: rest)) (As := as.map (ax_vl X)) (rest := rest) (H := H) (locs := locs) (cells := cells) (slots := slots) (below := below) (meth := meth) (e := e) (n := n) hfix hm hcw hpre rfl (by rw [List.length_map]; exact hn) hsz rfl (lv_room hwd) hd ⟨hc.1, hc.2⟩
  exact mx_go hrun hS hAA kk
end XMT
section XMU
variable {l : Launch} {X : ax_X} {M : ax_M}
theorem ex_x {s : State} {H : Heap} (hR : ax_R ax_LC X M s H) (hF : s.heap.size ≤ H.size ∧ ∀ q : Nat, q < s.heap.size → ¬ ax_A ax_LC X q → H[q]? = s.heap[q]?) : ∀ t : State, s.vm.Alike t.vm → H.size ≤ t.heap.size → (∀ q : Nat, q < H.size → t.heap[q]? = H[q]?) → ex_X X M ex_n s t := fun t hA h1 h2 =>
  ⟨rfl, (hR.kept (A1 := fun _ => False) (fun q h _ => h2 q h) (fun _ _ h => h)).moved hA, Nat.le_trans hF.1 h1, fun q h3 h4 => by rw [h2 q (Nat.lt_of_lt_of_le h3 hF.1)]; exact hF.2 q h3 h4⟩
theorem c_X2_block_x (hl : l.stackTraces = false) {x1 x2 : Int} (h1 : ax_r32 x1) (h2 : ax_r32 x2) (hno : ¬ (f_X2_block x1 x2 M).1) : ex_Met l gX2_block X M [.int (Int32.ofInt x1), .int (Int32.ofInt x2)] := by
  refine vx_ofW (cc := ax_cc gX2_block) (maxL := 3) (ret := some .int) (by decide) rfl ?_
  intro p e s m args below meth c s₁ B hml ht hv
  obtain ⟨rfl, hR, hN, hK⟩ := hv
  have hx := B.exec
  have hb := B.bytes
  have hts := atoms_spec (ws := ax_word gX2_block :: ax_T) B.pre
  have hown : s.vm.findClass RX2 = some m.cls := findClass_of_methodNamed B.named
  have hlocks := B.notSynchronized
  have hv := lv_entry ([.ref (X.1 0), .int (Int32.ofInt x1), .int (Int32.ofInt x2)]) (n := 3) (Nat.le_of_ble_eq_true rfl)
  rw [lg_entry_eq]
  generalize (lg_sl ([.ref (X.1 0), .int (Int32.ofInt x1), .int (Int32.ofInt x2)]) ++ List.replicate (3 - (lg_sl ([.ref (X.1 0), .int (Int32.ofInt x1), .int (Int32.ofInt x2)])).length) Slot.unset).toArray = ls at hv ⊢
  have hv : lv_has ls 3 [(0, .ref (X.1 0)), (1, .int (Int32.ofInt x1)), (2, .int (Int32.ofInt x2))] := hv
  have hk := hts _ (List.mem_cons_of_mem _ xt_k)
  have hi := hts _ (List.mem_cons_of_mem _ xt_i)
  have t10 : W p l e (headSpec (ax_word gX2_block :: ax_T) ({ frames := 8, cells := 1, slots := 6, locals := 512 })).room s m ([.ref (X.1 0), .int (Int32.ofInt x1), .int (Int32.ofInt x2)] : List Value).toArray below meth c s.heap [] 0 0 (vx_MQ below (fun _ _ _ _ => False) (ex_X X M) ([.ref (X.1 0), .int (Int32.ofInt x1), .int (Int32.ofInt x2)] : List Value).toArray s 1 6 (ax_A ax_LC X)) (F0 m 10 ls []) :=
    ex_throw hx hb hl hown hk hi (hN.2.2.2.1 ("FlashFolio", 79, 6, "no such block") (by decide)) hK hN.2.2.2.2.2.2.1 hN.2.2.2.2.2.2.2 va_S.rf (hv.1.trans hml.symm) (by decide +kernel) (by decide +kernel) (by decide +kernel) (by decide +kernel) (by decide +kernel) (fun x h => (ht x h).elim) (Nat.le_of_ble_eq_true rfl) (Nat.le_of_ble_eq_true rfl) (Nat.le_of_ble_eq_true rfl) (Nat.le_of_ble_eq_true rfl) hlocks (ex_x hR ⟨Nat.le_refl _, fun _ _ _ => rfl⟩) (fun z h => nomatch h) (Nat.le_refl _) (Nat.le_refl _)
  refine lv_iload_n hx hb (show decode (ax_cc gX2_block) 0 = .ok (.iload_n 1, 1) by decide +kernel) rfl (lv_at hv 1 rfl) ?_
  refine lv_if_lt hx hb (off := 9) (tgt := 10) (show decode (ax_cc gX2_block) 1 = .ok (.ifCond .lt 9, 3) by decide +kernel) rfl (fun _ => t10) (fun c1 => ?_)
  refine lv_iload_n hx hb (show decode (ax_cc gX2_block) 4 = .ok (.iload_n 1, 1) by decide +kernel) rfl (lv_at hv 1 rfl) ?_
  refine lv_bipush (v := Int32.ofInt 16) hx hb (show decode (ax_cc gX2_block) 5 = .ok (.bipush 16, 2) by decide +kernel) (by decide) ?_
  refine lv_icmp_lt hx hb (off := 13) (tgt := 20) (show decode (ax_cc gX2_block) 7 = .ok (.if_icmp .lt 13, 3) by decide +kernel) rfl (fun c2 => ?_) (fun _ => t10)
  have d1 : ¬ x1 < 0 := fun h => c1 ((ax_lt h1 (show ax_r32 0 from ⟨by decide, by decide⟩)).mpr h)
  have d2 : x1 < 16 := (ax_lt h1 (show ax_r32 16 from ⟨by decide, by decide⟩)).mp c2
  have d3 : x2 < 0 ∨ 4 < x2 := by
    unfold f_X2_block at hno
    rw [if_neg d1, if_pos d2] at hno
    by_cases z0 : x2 = 0
    · rw [if_pos z0] at hno; exact absurd trivial hno
    · by_cases z1 : x2 = 1
      · rw [if_neg z0, if_pos z1] at hno; exact absurd trivial hno
      · by_cases z2 : x2 = 2
        · rw [if_neg z0, if_neg z1, if_pos z2] at hno; exact absurd trivial hno
        · by_cases z3 : x2 = 3
          · rw [if_neg z0, if_neg z1, if_neg z2, if_pos z3] at hno; exact absurd trivial hno
          · by_cases z4 : x2 = 4
            · rw [if_neg z0, if_neg z1, if_neg z2, if_neg z3, if_pos z4] at hno; exact absurd trivial hno
            · omega
  refine lv_iload_n hx hb (show decode (ax_cc gX2_block) 20 = .ok (.iload_n 2, 1) by decide +kernel) rfl (lv_at hv 2 rfl) ?_
  refine lv_tableOut hx hb (dflt := 83) (lo := 0) (hi := 4) (offs := #[35, 45, 55, 64, 73]) (len := 35) (tgt := 104) (show decode (ax_cc gX2_block) 21 = .ok (.tableswitch 83 0 4 #[35, 45, 55, 64, 73], 35) by decide +kernel) (by rw [ax_toI h2]; exact d3) rfl ?_
  exact ex_throw hx hb hl hown hk hi (hN.2.2.2.1 ("FlashFolio", 100, 7, "no such thing of a block") (by decide)) hK hN.2.2.2.2.2.2.1 hN.2.2.2.2.2.2.2 va_S.rf (hv.1.trans hml.symm) (by decide +kernel) (by decide +kernel) (by decide +kernel) (by decide +kernel) (by decide +kernel) (fun x h => (ht x h).elim) (Nat.le_of_ble_eq_true rfl) (Nat.le_of_ble_eq_true rfl) (Nat.le_of_ble_eq_true rfl) (Nat.le_of_ble_eq_true rfl) hlocks (ex_x hR ⟨Nat.le_refl _, fun _ _ _ => rfl⟩) (fun z h => nomatch h) (Nat.le_refl _) (Nat.le_refl _)
end XMU
