/-! ===== what is there from the start, apart from what may change ===== -/
def lx_N (A : Nat → Prop) (ad : Nat → Nat) (U : State) (H : Heap) : Prop :=
  (∀ w ∈ lw_tbl, ax_isN w = true → va_Nw w U) ∧
  (∀ j q, ax_cs[j]? = some q → va_Z "FlashFolio" q.1 "[I" (.ref (ad (1000 + j))) A U H ∧ va_T .int (ad (1000 + j)) q.2.length (fun i => .int (Int32.ofInt (q.2.getD i 0))) A U H) ∧
  vk_S 6 (ax_tx.map List.length) (ax_tx.map (fun r => r.map Int32.ofInt)) (fun i => ad (2000 + i)) (fun i => ad (3000 + i)) A U H ∧
  (∀ q ∈ ax_tr, vk_R q.1 q.2.1 q.2.2.2 (ad (2000 + q.2.2.1)) U) ∧
  va_Z "java/lang/String" "COMPACT_STRINGS" "Z" (.int 1) A U H ∧
  (va_Z "jdk/internal/util/Preconditions" "SIOOBE_FORMATTER" "Ljava/util/function/BiFunction;" .null A U H ∨ va_Z "jdk/internal/util/Preconditions" "SIOOBE_FORMATTER" "Ljava/util/function/BiFunction;" (.ref (ad 6000)) A U H) ∧
  vx_Zq Bundle.tN "UNASSIGNED_STACK" Bundle.steD A U H ∧
  vx_Zq Bundle.tN "SUPPRESSED_SENTINEL" Bundle.listD A U H
theorem lx_N.of {L : ax_L} {X : ax_X} {A : Nat → Prop} {ad : Nat → Nat} {U : State} {H : Heap} (h : lx_N A ad U H) (hA : ∀ q, ax_A L X q → A q) (hx : ∀ k, 1000 ≤ k → X.1 k = ad k) : ax_N L X U H := by
  obtain ⟨h1, h2, h3, h4, h5, h6, h7, h8⟩ := h
  refine ⟨h1, fun j q hj => ?_, ?_, fun q hq => ?_, h5.narrow hA, ?_, h7.narrow hA, h8.narrow hA⟩
  · rw [hx _ (by omega)]
    exact ⟨(h2 j q hj).1.narrow hA, (h2 j q hj).2.narrow hA⟩
  · rw [show (fun i => X.1 (2000 + i)) = fun i => ad (2000 + i) from funext fun i => hx _ (by omega), show (fun i => X.1 (3000 + i)) = fun i => ad (3000 + i) from funext fun i => hx _ (by omega)]
    exact h3.narrow hA
  · rw [hx _ (by omega)]
    exact h4 q hq
  · rw [hx 6000 (by omega)]
    exact h6.imp (fun h => h.narrow hA) (fun h => h.narrow hA)
theorem lx_N.warm {A : Nat → Prop} {ad : Nat → Nat} {s U : State} {H H1 : Heap} (h : lx_N A ad s H) (hW : s.WarmedH U.vm) (hq : ∀ a : Nat, a < H.size → ¬ A a → H1[a]? = H[a]?) : lx_N A ad U H1 := by
  obtain ⟨h1, h2, h3, h4, h5, h6, h7, h8⟩ := h
  have hvm := hW.alike
  refine ⟨fun w hw hn => ?_, fun j q hj => ?_, (h3.moved hvm).kept hq, fun q hq' => (h4 q hq').warm hW, (h5.moved hvm).kept hq, h6.imp (fun h => (h.moved hvm).kept hq) (fun h => (h.moved hvm).kept hq), (h7.moved hvm).kept hq, (h8.moved hvm).kept hq⟩
  · have h := h1 w hw hn
    cases w <;> first | exact va_Nw.warmF hW h | exact va_Nw.warmM hW h | cases hn
  · obtain ⟨a1, a2⟩ := h2 j q hj
    exact ⟨(a1.moved hvm).kept hq, (va_T.moved hvm a2).kept hq⟩
section LXS
variable {p : Program} {s : State} {m : MethodId} {meth : Method} {c : Code} {b L : Nat} {xs : Nat → Int32}
/-- the terms of the texts -/
def lx_tm (i : Nat) : Term := match i with
  | 0 => .string "FlashFolio$Rule" 62
  | 1 => .string "FlashFolioModel" 96
  | 2 => .string "FlashFolioModel" 98
  | 3 => .string "FlashFolioModel" 100
  | 4 => .string "FlashFolioModel" 400
  | _ => .string "FlashFolioModel" 402
theorem lx_row {args : Array Value} {cn : String} {n : Nat} {xs : List Int} (hg : ∀ w ∈ flatC (Jvm.Cond.and given_1 narrow_1), w.before args s = true) (hn : n < 2 ^ 31) (h1 : Cond.arrayOf (.static "FlashFolio" cn "[I") .int ∈ flatC (Jvm.Cond.and given_1 narrow_1)) (h2 : Cond.eq (.length (.static "FlashFolio" cn "[I")) (.int (Int32.ofNat n)) ∈ flatC (Jvm.Cond.and given_1 narrow_1))
    (h3 : ∀ j, j < n → Cond.eq (.elem (.static "FlashFolio" cn "[I") (.int (Int32.ofNat j))) (.int (Int32.ofInt (xs.getD j 0))) ∈ flatC (Jvm.Cond.and given_1 narrow_1)) (h4 : (Cond.laysStatic "FlashFolio" cn "[I").before args s = true) (h5 : (Cond.initialized "FlashFolio").before args s = true) :
    ∃ t : Nat, va_Z "FlashFolio" cn "[I" (.ref t) (fun q => s.heap.size ≤ q) s s.heap ∧ va_T .int t n (fun i => .int (Int32.ofInt (xs.getD i 0))) (fun q => s.heap.size ≤ q) s s.heap := by
  have hA : ∀ a : Nat, a < s.heap.size → ¬ (s.heap.size ≤ a) := fun a h => Nat.not_le.mpr h
  obtain ⟨t, ht, hT⟩ := va_Tof (f := fun i => .int (Int32.ofInt (xs.getD i 0))) (A := fun q => s.heap.size ≤ q) hn (hg _ h1) (va_eqt (hg _ h2)) (fun j hj => va_eqt (hg _ (h3 j hj))) hA
  exact ⟨t, va_Zref h4 h5 ht hA, hT⟩
theorem lx_start (C0 : lw_At p s m meth c b L xs) : ∃ ad, lx_N (fun q => s.heap.size ≤ q) ad s s.heap := by
  obtain ⟨_, _, _, _, _, hts, _, _, _, hgv⟩ := C0
  have hA : ∀ a : Nat, a < s.heap.size → ¬ (s.heap.size ≤ a) := fun a h => Nat.not_le.mpr h
  have hg := flat_of_before _ hgv
  have hini : (Cond.initialized "FlashFolio").before #[Value.ref b] s = true := hts _ (by decide +kernel)
  obtain ⟨t0, z0, y0⟩ := lx_row (cn := "LEAST_LIMIT") (n := 3) (xs := [1, 0, 1]) hg (by decide) (by decide +kernel) (by decide +kernel) (by decide +kernel) (hts _ (by decide +kernel)) hini
  obtain ⟨t1, z1, y1⟩ := lx_row (cn := "MOST_LIMIT") (n := 3) (xs := [3, 2, 9]) hg (by decide) (by decide +kernel) (by decide +kernel) (by decide +kernel) (hts _ (by decide +kernel)) hini
  obtain ⟨t2, z2, y2⟩ := lx_row (cn := "MOST_HEARD_V") (n := 4) (xs := [4, 9, 4, 5]) hg (by decide) (by decide +kernel) (by decide +kernel) (by decide +kernel) (hts _ (by decide +kernel)) hini
  have g1 : ∀ i, i < 6 → Cond.exactly (lx_tm i) "java/lang/String" ∈ flatC (Jvm.Cond.and given_1 narrow_1) := by decide +kernel
  have g2 : ∀ i, i < 6 → Cond.eq (.field (lx_tm i) "java/lang/String" "coder" "B") (.int 0) ∈ flatC (Jvm.Cond.and given_1 narrow_1) := by decide +kernel
  have g3 : ∀ i, i < 6 → Cond.arrayOf (.field (lx_tm i) "java/lang/String" "value" "[B") .byte ∈ flatC (Jvm.Cond.and given_1 narrow_1) := by decide +kernel
  have g4 : ∀ i, i < 6 → Cond.eq (.length (.field (lx_tm i) "java/lang/String" "value" "[B")) (.int (Int32.ofNat ((ax_tx.map List.length).getD i 0))) ∈ flatC (Jvm.Cond.and given_1 narrow_1) := by decide +kernel
  have g5 : ∀ i, i < 6 → ∀ j, j < (ax_tx.map List.length).getD i 0 → Cond.eq (.elem (.field (lx_tm i) "java/lang/String" "value" "[B") (.int (Int32.ofNat j))) (.int (((ax_tx.map (fun r => r.map Int32.ofInt)).getD i []).getD j 0)) ∈ flatC (Jvm.Cond.and given_1 narrow_1) := by decide +kernel
  have g6 : ∀ i, i < 6 → ∀ j, j < 6 → i ≠ j → Cond.not (Cond.eq (lx_tm i) (lx_tm j)) ∈ flatC (Jvm.Cond.and given_1 narrow_1) ∨ Cond.not (Cond.eq (lx_tm j) (lx_tm i)) ∈ flatC (Jvm.Cond.and given_1 narrow_1) := by decide +kernel
  obtain ⟨adK, adV, hS, hev⟩ := vk_Sof (tm := lx_tm) (N := 6) (len := ax_tx.map List.length) (byt := ax_tx.map (fun r => r.map Int32.ofInt)) (A := fun q => s.heap.size ≤ q) (by decide +kernel) (fun i hi => hg _ (g1 i hi)) (fun i hi => hg _ (g2 i hi)) (fun i hi => hg _ (g3 i hi)) (fun i hi => hg _ (g4 i hi)) (fun i hi j hj => hg _ (g5 i hi j hj)) (fun i j hi hj hij => (g6 i hi j hj hij).imp (fun h => hg _ h) (fun h => hg _ h)) hA
  have tx : ∀ k, Cond.exactly (.string "FlashFolio" k) "java/lang/String" ∈ flatC (Jvm.Cond.and given_1 narrow_1) → ∃ a : Nat, (Term.string "FlashFolio" k).eval #[Value.ref b] s none [] s = some (.ref a) := fun k hk => by
    obtain ⟨a, _, _, _, q1, _⟩ := Cond.exactly_spec (args := #[Value.ref b]) (first := s) (o := none) (s := s) (idx := []) (hg _ hk)
    exact ⟨a, q1⟩
  obtain ⟨x6, h6⟩ := tx 79 (by decide +kernel)
  obtain ⟨x7, h7⟩ := tx 100 (by decide +kernel)
  obtain ⟨x8, h8⟩ := tx 102 (by decide +kernel)
  obtain ⟨x9, h9⟩ := tx 108 (by decide +kernel)
  obtain ⟨x10, h10⟩ := tx 119 (by decide +kernel)
  obtain ⟨x11, h11⟩ := tx 311 (by decide +kernel)
  have h87 : (Term.string "FlashFolioModel" 87).eval #[Value.ref b] s none [] s = some (.ref (adK 0)) := va_eqR (hg (Cond.eq (.string "FlashFolio$Rule" 62) (.string "FlashFolioModel" 87)) (by decide +kernel)) (hev 0 (by decide))
  have hZq := va_Zqof (A := fun q => s.heap.size ≤ q) (C := "jdk/internal/util/Preconditions") (n := "SIOOBE_FORMATTER") (d := "Ljava/util/function/BiFunction;") (hts _ (by decide +kernel)) (hts _ (by decide +kernel)) (hg _ (by decide +kernel)) hA
  obtain ⟨sio, hsio⟩ : ∃ t : Nat, va_Z "jdk/internal/util/Preconditions" "SIOOBE_FORMATTER" "Ljava/util/function/BiFunction;" .null (fun q => s.heap.size ≤ q) s s.heap ∨ va_Z "jdk/internal/util/Preconditions" "SIOOBE_FORMATTER" "Ljava/util/function/BiFunction;" (.ref t) (fun q => s.heap.size ≤ q) s s.heap := by
    rcases hZq with h | ⟨t, h⟩
    · exact ⟨0, Or.inl h⟩
    · exact ⟨t, Or.inr h⟩
  refine ⟨fun k => if k < 2000 then [t0, t1, t2].getD (k - 1000) 0 else if k < 2006 then adK (k - 2000) else if k < 3000 then [x6, x7, x8, x9, x10, x11].getD (k - 2006) 0 else if k < 6000 then adV (k - 3000) else sio, fun w hw hn => ?_, fun j q hj => ?_, ?_, fun q hq => ?_, ?_, ?_, ?_, ?_⟩
  · exact va_Nw.of (by cases w <;> first | rfl | cases hn) (hts w hw)
  · match j, hj with
    | 0, hj => cases hj; exact ⟨z0, y0⟩
    | 1, hj => cases hj; exact ⟨z1, y1⟩
    | 2, hj => cases hj; exact ⟨z2, y2⟩
    | (k + 3), hj => cases hj
  · refine ⟨fun i hi => ?_, fun i j hi hj e => ?_⟩
    · have e1 : (if 2000 + i < 2000 then [t0, t1, t2].getD (2000 + i - 1000) 0 else if 2000 + i < 2006 then adK (2000 + i - 2000) else if 2000 + i < 3000 then [x6, x7, x8, x9, x10, x11].getD (2000 + i - 2006) 0 else if 2000 + i < 6000 then adV (2000 + i - 3000) else sio) = adK i := by
        rw [if_neg (by omega), if_pos (by omega), Nat.add_sub_cancel_left]
      have e2 : (if 3000 + i < 2000 then [t0, t1, t2].getD (3000 + i - 1000) 0 else if 3000 + i < 2006 then adK (3000 + i - 2000) else if 3000 + i < 3000 then [x6, x7, x8, x9, x10, x11].getD (3000 + i - 2006) 0 else if 3000 + i < 6000 then adV (3000 + i - 3000) else sio) = adV i := by
        rw [if_neg (by omega), if_neg (by omega), if_neg (by omega), if_pos (by omega), Nat.add_sub_cancel_left]
      have := hS.1 i hi
      dsimp only
      rw [e1, e2]
      exact this
    · refine hS.2 i j hi hj ?_
      dsimp only at e
      rw [if_neg (by omega), if_pos (by omega), if_neg (by omega), if_pos (by omega), Nat.add_sub_cancel_left, Nat.add_sub_cancel_left] at e
      exact e
  · have ht : ∀ w, w ∈ lw_tbl → w.before #[Value.ref b] s = true := hts
    simp only [ax_tr, List.mem_cons, List.not_mem_nil, or_false] at hq
    rcases hq with e | e | e | e | e | e | e | e | e | e | e | e | e <;> subst e
    · exact vk_R.of (ht (Cond.stringRef "FlashFolio$Rule" 62 "dfwcls") (by decide +kernel)) (hev 0 (by decide))
    · exact vk_R.of (ht (Cond.stringRef "FlashFolioModel" 87 "dfwcls") (by decide +kernel)) h87
    · exact vk_R.of (ht (Cond.stringRef "FlashFolioModel" 96 "<>=") (by decide +kernel)) (hev 1 (by decide))
    · exact vk_R.of (ht (Cond.stringRef "FlashFolioModel" 98 "+-") (by decide +kernel)) (hev 2 (by decide))
    · exact vk_R.of (ht (Cond.stringRef "FlashFolioModel" 100 "*/") (by decide +kernel)) (hev 3 (by decide))
    · exact vk_R.of (ht (Cond.stringRef "FlashFolioModel" 400 "qlhmcw") (by decide +kernel)) (hev 4 (by decide))
    · exact vk_R.of (ht (Cond.stringRef "FlashFolioModel" 402 "01") (by decide +kernel)) (hev 5 (by decide))
    · exact vk_R.of (ht (Cond.stringRef "FlashFolio" 79 "no such block") (by decide +kernel)) h6
    · exact vk_R.of (ht (Cond.stringRef "FlashFolio" 100 "no such thing of a block") (by decide +kernel)) h7
    · exact vk_R.of (ht (Cond.stringRef "FlashFolio" 102 "no such leaf") (by decide +kernel)) h8
    · exact vk_R.of (ht (Cond.stringRef "FlashFolio" 108 "an empty leaf") (by decide +kernel)) h9
    · exact vk_R.of (ht (Cond.stringRef "FlashFolio" 119 "no such thing of a leaf") (by decide +kernel)) h10
    · exact vk_R.of (ht (Cond.stringRef "FlashFolio" 311 "no such number of the row") (by decide +kernel)) h11
  · exact va_Zof (hts _ (by decide +kernel)) (hts _ (by decide +kernel)) (va_eqi (hg _ (by decide +kernel))) hA
  · exact hsio
  · exact vx_Zqof (hts _ (by decide +kernel)) (hts _ (by decide +kernel)) (hg _ (by decide +kernel)) hA
  · exact vx_Zqof (hts _ (by decide +kernel)) (hts _ (by decide +kernel)) (hg _ (by decide +kernel)) hA
/-- the classes and the classes of arrays -/
theorem lx_K (C0 : lw_At p s m meth c b L xs) : ∃ (cls : Nat → ClassId) (D : va_G), ∀ f : Nat → Nat, va_K D vwCl (ax_tys (f, cls, D)) s := by
  obtain ⟨_, _, _, _, _, hts, _⟩ := C0
  have hT : ∀ w ∈ ax_T, w.before #[Value.ref b] s = true := fun w hw => hts w (List.mem_filter.mp hw).1
  obtain ⟨c0, i0, h0⟩ := u_known (C := RX0) (T := TX0) (N := 18) hT ax_cls0.2.1 (hts _ (List.mem_append_right _ lw_p9.2.1))
  obtain ⟨c1, i1, h1⟩ := u_known (C := RX1) (T := TX1) (N := 8) hT ax_cls1.2.1 (hts _ (List.mem_append_right _ lw_p1.2.1))
  obtain ⟨c2, i2, h2⟩ := u_known (C := RX2) (T := TX2) (N := 17) hT ax_cls2.2.1 (hts _ (List.mem_append_right _ lw_p0.2.1))
  obtain ⟨c3, i3, h3⟩ := u_known (C := RX3) (T := TX3) (N := 39) hT ax_cls3.2.1 (hts _ (List.mem_append_right _ lw_p84.2.1))
  have arr : ∀ ty : FieldType, Cond.arrayClass ty ∈ lw_tbl → ∃ cA : ClassId, ArrOfT s cA ty ∧ s.vm.findClass ("[" ++ ty.toString) = some cA := fun ty hty => by
    obtain ⟨cA, k, comp, q1, q2, q3⟩ := Cond.arrayClass_spec (args := #[Value.ref b]) (first := s) (o := none) (s := s) (idx := []) (hts _ hty)
    exact ⟨cA, fun n z => ⟨(fun k h => by cases h), k, q2, comp, q3⟩, q1⟩
  obtain ⟨a3, x3, y3⟩ := arr .int (by decide +kernel)
  obtain ⟨a4, x4, y4⟩ := arr .long (by decide +kernel)
  obtain ⟨a5, x5, y5⟩ := arr .char (by decide +kernel)
  obtain ⟨a6, x6, y6⟩ := arr .boolean (by decide +kernel)
  refine ⟨fun k => match k with | 3 => a3 | 4 => a4 | 5 => a5 | _ => a6, (fun k => match k with | 0 => c0 | 1 => c1 | 2 => c2 | _ => c3, fun k => match k with | 0 => i0 | 1 => i1 | 2 => i2 | _ => i3), fun f => ⟨fun k q hq => ?_, fun k q hq => ?_⟩⟩
  · match k, hq with
    | 0, hq => cases hq; exact h0
    | 1, hq => cases hq; exact h1
    | 2, hq => cases hq; exact h2
    | 3, hq => cases hq; exact h3
    | (k + 4), hq => cases hq
  · match k, hq with
    | 0, hq => cases hq; exact ⟨x3, y3⟩
    | 1, hq => cases hq; exact ⟨x4, y4⟩
    | 2, hq => cases hq; exact ⟨x5, y5⟩
    | 3, hq => cases hq; exact ⟨x6, y6⟩
    | (k + 4), hq => cases hq
end LXS
