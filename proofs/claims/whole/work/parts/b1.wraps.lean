/-! ===== the law's wrappers of block, leaf, row ===== -/
section MXL
variable {p : Program} {l : Launch} {e : Env} {R : Room} {s : State} {m : MethodId} {args : Array Value} {below : List Frame} {meth : Method} {c : Code} {H H0 : Heap} {locs : List Loc} {cells slots : Nat} {Q : State → Prop}
variable {cc : ByteArray} {pc : Nat} {ls : Array Slot} {rest : List Value} {D : va_G} {cl : List vw_C} {A : Nat → Prop} {tys : List (ClassId × FieldType)} {a : Nat}
/-- a long is laid into a row of longs; all other cells stay -/
theorem mx_last (hexec : p.tables.exec = Jvm.exec) (hb : c.code = cc) (hK : va_K D cl tys s) (t0 : Nat) {cA : ClassId} {n : Nat} {f : Nat → Int64} (hP : va_P D cl [(a, .inl (cA, n, .inr (.inl f)))] H) (hS : va_S A H0 H locs) (hAa : A a) (ht : tys[t0]? = some (cA, .long)) {i : Int32} {x : Int64} (hin : vp_in i n) (hdg : decode cc pc = .ok (.lastore, 1))
    (kk : ∀ (H1 : Heap) (locs1 : List Loc), va_P D cl [(a, .inl (cA, n, .inr (.inl (vp_updL f i.toNatClampNeg x))))] H1 → (∀ q : Nat, q ≠ a → H1[q]? = H[q]?) → va_S A H0 H1 locs1 → W p l e R s m args below meth c H1 locs1 cells slots Q (F0 m (pc + 1) ls rest)) : W p l e R s m args below meth c H locs cells slots Q (F0 m pc ls (.long x :: .int i :: .ref a :: rest)) := by
  refine W.last hexec hb (hP 0 _ rfl) ((hK.2 t0 _ ht).1 n (fun j => .long (f j))) (fun q => by cases q) (by show ¬ (i < 0 ∨ (arrV _ _ _).slots.size ≤ _); rw [arrV_size]; exact hin) rfl rfl hdg fun H1 e z oq => ?_
  refine kk H1 _ (fun k q hq => ?_) oq (hS.put z oq hAa)
  have hm := List.mem_of_getElem? hq
  simp only [List.mem_cons, List.not_mem_nil, or_false] at hm
  subst hm
  show H1[a]? = some (vp_cell _ _)
  rw [e, vp_cell_l, vp_cell_l, arrV_store]
  have hf : updV (fun j => Value.long (f j)) i.toNatClampNeg (.long x) = fun j => .long (vp_updL f i.toNatClampNeg x j) := by
    funext q
    by_cases hq : q = i.toNatClampNeg <;> simp [updV, vp_updL, hq]
  rw [hf]
end MXL
section WRJ
variable {n0 qo : Nat} {cls : Nat → ClassId} {D : va_G} {ad u v : Nat → Nat} {Mc Mm : ax_M} {g : Nat → Int64}
theorem lw_J.warm {s U : State} {H : Heap} (hJ : lw_J n0 cls D ad u v qo Mc Mm g s H) (hW : s.WarmedH U.vm) : lw_J n0 cls D ad u v qo Mc Mm g U H :=
  ⟨hJ.1.moved hW.alike, hJ.2.1.moved hW.alike, hJ.2.2.1, hJ.2.2.2.1.warm hW (fun _ _ _ => rfl), hJ.2.2.2.2⟩
theorem lw_J.o {s : State} {H H1 : Heap} {g' : Nat → Int64} (hJ : lw_J n0 cls D ad u v qo Mc Mm g s H) (hP : va_P D vwCl [(qo, .inl (cls 4, 1, .inr (.inl g')))] H1) (hk : ∀ q : Nat, q ≠ qo → H1[q]? = H[q]?) : lw_J n0 cls D ad u v qo Mc Mm g' s H1 :=
  ⟨hJ.1.kept (A1 := fun q => q = qo) (fun q _ h => hk q h) (fun q h => (hJ.2.2.2.2.1 q h).2.2), hJ.2.1.kept (A1 := fun q => q = qo) (fun q _ h => hk q h) (fun q h => (hJ.2.2.2.2.2.1 q h).2), hP,
    hJ.2.2.2.1.warm (State.WarmedH.refl s) (fun q _ h2 => hk q (fun e => h2 (e ▸ hJ.2.2.2.2.2.2.1))), hJ.2.2.2.2⟩
/-- what a wrapper finds -/
def lw_P1 (n0 : Nat) (cls : Nat → ClassId) (D : va_G) (ad u v : Nat → Nat) (qo : Nat) (Mc Mm : ax_M) (g : Nat → Int64) (av : List Value) : Array Value → State → Prop := va_Pc (.ref (u 0) :: (av ++ [.ref qo])) (fun U => lw_J n0 cls D ad u v qo Mc Mm g U U.heap ∧ ex_K U ∧ n0 ≤ U.heap.size)
theorem lw_blind {av : List Value} : FrameBlind (lw_P1 n0 cls D ad u v qo Mc Mm g av) := by
  intro a U gg mk h
  obtain ⟨h1, hJ, hK, hn⟩ := h
  exact ⟨h1, hJ.warm (s := U) (U := U.calling gg mk a) (State.WarmedH.refl U), ex_K.warm (s := U) (U := U.calling gg mk a) hK (State.WarmedH.refl U), hn⟩
/-- it answers 0, the answer laid down -/
def lw_M0 (l : Launch) (y : MethodName) (ws : List Cond) (n0 : Nat) (cls : Nat → ClassId) (D : va_G) (ad u v : Nat → Nat) (qo : Nat) (Mc Mm : ax_M) (g : Nat → Int64) (av : List Value) (x : Int64) : Prop :=
  Met l y ws ({ frames := 20, cells := 0, slots := 0, locals := 2000 }) (lw_P1 n0 cls D ad u v qo Mc Mm g av) (va_Qi (fun (r : Int32) (g' : Nat → Int64) => r = 0 ∧ g' 0 = x) (fun g' t => lw_J n0 cls D ad u v qo Mc Mm g' t t.heap) (fun q => n0 ≤ q)) 0 0 (fun q => n0 ≤ q)
/-- it answers 1 -/
def lw_M1 (l : Launch) (y : MethodName) (ws : List Cond) (n0 : Nat) (cls : Nat → ClassId) (D : va_G) (ad u v : Nat → Nat) (qo : Nat) (Mc Mm : ax_M) (g : Nat → Int64) (av : List Value) : Prop :=
  Met l y ws ({ frames := 20, cells := 1, slots := 6, locals := 2000 }) (lw_P1 n0 cls D ad u v qo Mc Mm g av) (va_Qi (fun (r : Int32) (g' : Nat → Int64) => r = 1 ∧ g' = g) (fun g' t => lw_J n0 cls D ad u v qo Mc Mm g' t t.heap) (fun q => n0 ≤ q)) 1 6 (fun q => n0 ≤ q)
end WRJ
section EXG
variable {p : Program} {l : Launch} {e : Env} {R : Room} {s : State} {m : MethodId} {args : Array Value} {below : List Frame} {meth : Method} {c : Code} {H H0 : Heap} {locs : List Loc} {cells slots : Nat} {Q : State → Prop}
variable {pc : Nat} {ls : Array Slot} {rest st0 : List Value} {A : Nat → Prop} {X : ax_X} {M : ax_M}
/-- behind a call that throws -/
theorem ex_go (hr : vx_Run p l e R s m args below meth c H locs cells slots 1 6 (F0 m pc ls st0) rest (fun _ _ _ => False) (ex_X X M) (ax_A ax_LC X)) (hS : va_S A H0 H locs) (hA : ∀ q, ax_A ax_LC X q → A q)
    (kx : ∀ (ce : Cell) (q9 : Addr) (H1 : Heap) (locs1 : List Loc), ax_R ax_LC X M s H1 → H.size ≤ H1.size → (∀ q : Nat, q < H.size → ¬ ax_A ax_LC X q → H1[q]? = H[q]?) → va_S A H0 H1 locs1 → H1[q9]? = some ce → ce.vm = .none → s.vm.findClass ex_n = some ce.cls → vx_W p l e R s m args below meth c H1 locs1 (cells + 1) (slots + 6) Q (F0 m pc ls rest) q9) : W p l e R s m args below meth c H locs cells slots Q (F0 m pc ls st0) := by
  intro T hT X'
  rcases hr T hT X' with ⟨v, st₀, t, T', L, h0, X'', hL, e1, e2, hF, st⟩ | ⟨q, st₀, t, T', L, E, ce, h0, X'', hL, e1, e2, ⟨hE, hR, hF⟩, hce, hcv, hcl, st⟩
  · exact hF.elim
  · subst hE
    obtain ⟨k1, k2, k3⟩ := vx_keep h0 e1 hS (fun q _ h => hA q h) hA hL hF
    have hvm : t.vm.Alike s.vm := by rw [← e2]; exact X''.warmed.alike.symm
    obtain ⟨t2, a1, b1⟩ := kx ce q T'.heap (locs ++ L) (by rw [e1]; exact hR.moved hvm) k1 k2 k3 (by rw [e1]; exact hce) hcv hcl T' rfl X''
    exact ⟨t2, st.trans a1, b1⟩
end EXG

theorem xt_774 : (Jvm.Cond.methodLink "FlashFolioLaw" (7 : Nat) ({ cls := "FlashFolio", name := "block", desc := "(II)I" } : Jvm.MethodName)) ∈ ax_T := ax_T_mem (lw_in 774 (by decide +kernel)) (by decide +kernel)
theorem xt_775 : (Jvm.Cond.instanceMethod ({ cls := "FlashFolio", name := "block", desc := "(II)I" } : Jvm.MethodName)) ∈ ax_T := ax_T_mem (lw_in 775 (by decide +kernel)) (by decide +kernel)
theorem xt_776 : (Jvm.Cond.selects "FlashFolio" ({ cls := "FlashFolio", name := "block", desc := "(II)I" } : Jvm.MethodName) ({ cls := "FlashFolio", name := "block", desc := "(II)I" } : Jvm.MethodName)) ∈ ax_T := ax_T_mem (lw_in 776 (by decide +kernel)) (by decide +kernel)
theorem xt_847 : (Jvm.Cond.methodLink "FlashFolioLaw" (15 : Nat) ({ cls := "FlashFolio", name := "leaf", desc := "(III)I" } : Jvm.MethodName)) ∈ ax_T := ax_T_mem (lw_in 847 (by decide +kernel)) (by decide +kernel)
theorem xt_848 : (Jvm.Cond.instanceMethod ({ cls := "FlashFolio", name := "leaf", desc := "(III)I" } : Jvm.MethodName)) ∈ ax_T := ax_T_mem (lw_in 848 (by decide +kernel)) (by decide +kernel)
theorem xt_849 : (Jvm.Cond.selects "FlashFolio" ({ cls := "FlashFolio", name := "leaf", desc := "(III)I" } : Jvm.MethodName) ({ cls := "FlashFolio", name := "leaf", desc := "(III)I" } : Jvm.MethodName)) ∈ ax_T := ax_T_mem (lw_in 849 (by decide +kernel)) (by decide +kernel)
theorem xt_858 : (Jvm.Cond.methodLink "FlashFolioLaw" (19 : Nat) ({ cls := "FlashFolio", name := "row", desc := "(I)J" } : Jvm.MethodName)) ∈ ax_T := ax_T_mem (lw_in 858 (by decide +kernel)) (by decide +kernel)
theorem xt_859 : (Jvm.Cond.instanceMethod ({ cls := "FlashFolio", name := "row", desc := "(I)J" } : Jvm.MethodName)) ∈ ax_T := ax_T_mem (lw_in 859 (by decide +kernel)) (by decide +kernel)
theorem xt_860 : (Jvm.Cond.selects "FlashFolio" ({ cls := "FlashFolio", name := "row", desc := "(I)J" } : Jvm.MethodName) ({ cls := "FlashFolio", name := "row", desc := "(I)J" } : Jvm.MethodName)) ∈ ax_T := ax_T_mem (lw_in 860 (by decide +kernel)) (by decide +kernel)
theorem xt_863 : (Jvm.Cond.methodLink "FlashFolioLaw" (48 : Nat) ({ cls := "FlashFolioModel", name := "thrown", desc := "()I" } : Jvm.MethodName)) ∈ ax_T := ax_T_mem (lw_in 863 (by decide +kernel)) (by decide +kernel)
theorem xt_864 : (Jvm.Cond.instanceMethod ({ cls := "FlashFolioModel", name := "thrown", desc := "()I" } : Jvm.MethodName)) ∈ ax_T := ax_T_mem (lw_in 864 (by decide +kernel)) (by decide +kernel)
theorem xt_865 : (Jvm.Cond.selects "FlashFolioModel" ({ cls := "FlashFolioModel", name := "thrown", desc := "()I" } : Jvm.MethodName) ({ cls := "FlashFolioModel", name := "thrown", desc := "()I" } : Jvm.MethodName)) ∈ ax_T := ax_T_mem (lw_in 865 (by decide +kernel)) (by decide +kernel)
theorem xt_770 : (Jvm.Cond.methodLink "FlashFolioLaw" (42 : Nat) ({ cls := "FlashFolioLaw", name := "block", desc := "(LFlashFolio;II[J)I" } : Jvm.MethodName)) ∈ ax_T := ax_T_mem (lw_in 770 (by decide +kernel)) (by decide +kernel)
theorem xt_771 : (Jvm.Cond.static ({ cls := "FlashFolioLaw", name := "block", desc := "(LFlashFolio;II[J)I" } : Jvm.MethodName)) ∈ ax_T := ax_T_mem (lw_in 771 (by decide +kernel)) (by decide +kernel)
theorem xt_844 : (Jvm.Cond.methodLink "FlashFolioLaw" (51 : Nat) ({ cls := "FlashFolioLaw", name := "leaf", desc := "(LFlashFolio;III[J)I" } : Jvm.MethodName)) ∈ ax_T := ax_T_mem (lw_in 844 (by decide +kernel)) (by decide +kernel)
theorem xt_845 : (Jvm.Cond.static ({ cls := "FlashFolioLaw", name := "leaf", desc := "(LFlashFolio;III[J)I" } : Jvm.MethodName)) ∈ ax_T := ax_T_mem (lw_in 845 (by decide +kernel)) (by decide +kernel)
theorem xt_855 : (Jvm.Cond.methodLink "FlashFolioLaw" (196 : Nat) ({ cls := "FlashFolioLaw", name := "row", desc := "(LFlashFolio;I[J)I" } : Jvm.MethodName)) ∈ ax_T := ax_T_mem (lw_in 855 (by decide +kernel)) (by decide +kernel)
theorem xt_856 : (Jvm.Cond.static ({ cls := "FlashFolioLaw", name := "row", desc := "(LFlashFolio;I[J)I" } : Jvm.MethodName)) ∈ ax_T := ax_T_mem (lw_in 856 (by decide +kernel)) (by decide +kernel)
theorem xt_773 : (Jvm.Cond.classLink "FlashFolioLaw" (13 : Nat) "java/util/NoSuchElementException") ∈ ax_T := ax_T_mem (lw_in 773 (by decide +kernel)) (by decide +kernel)
theorem xt_1085 : (Jvm.Cond.methodLink "FlashFolioLaw" (47 : Nat) ({ cls := "FlashFolioModel", name := "block", desc := "(II)I" } : Jvm.MethodName)) ∈ ax_T := ax_T_mem (lw_in 1085 (by decide +kernel)) (by decide +kernel)
theorem xt_1086 : (Jvm.Cond.instanceMethod ({ cls := "FlashFolioModel", name := "block", desc := "(II)I" } : Jvm.MethodName)) ∈ ax_T := ax_T_mem (lw_in 1086 (by decide +kernel)) (by decide +kernel)
theorem xt_1087 : (Jvm.Cond.selects "FlashFolioModel" ({ cls := "FlashFolioModel", name := "block", desc := "(II)I" } : Jvm.MethodName) ({ cls := "FlashFolioModel", name := "block", desc := "(II)I" } : Jvm.MethodName)) ∈ ax_T := ax_T_mem (lw_in 1087 (by decide +kernel)) (by decide +kernel)
theorem xt_1113 : (Jvm.Cond.methodLink "FlashFolioLaw" (54 : Nat) ({ cls := "FlashFolioModel", name := "leaf", desc := "(III)I" } : Jvm.MethodName)) ∈ ax_T := ax_T_mem (lw_in 1113 (by decide +kernel)) (by decide +kernel)
theorem xt_1114 : (Jvm.Cond.instanceMethod ({ cls := "FlashFolioModel", name := "leaf", desc := "(III)I" } : Jvm.MethodName)) ∈ ax_T := ax_T_mem (lw_in 1114 (by decide +kernel)) (by decide +kernel)
theorem xt_1115 : (Jvm.Cond.selects "FlashFolioModel" ({ cls := "FlashFolioModel", name := "leaf", desc := "(III)I" } : Jvm.MethodName) ({ cls := "FlashFolioModel", name := "leaf", desc := "(III)I" } : Jvm.MethodName)) ∈ ax_T := ax_T_mem (lw_in 1115 (by decide +kernel)) (by decide +kernel)
theorem xt_1497 : (Jvm.Cond.methodLink "FlashFolioLaw" (199 : Nat) ({ cls := "FlashFolioModel", name := "row", desc := "(I)J" } : Jvm.MethodName)) ∈ ax_T := ax_T_mem (lw_in 1497 (by decide +kernel)) (by decide +kernel)
theorem xt_1498 : (Jvm.Cond.instanceMethod ({ cls := "FlashFolioModel", name := "row", desc := "(I)J" } : Jvm.MethodName)) ∈ ax_T := ax_T_mem (lw_in 1498 (by decide +kernel)) (by decide +kernel)
theorem xt_1499 : (Jvm.Cond.selects "FlashFolioModel" ({ cls := "FlashFolioModel", name := "row", desc := "(I)J" } : Jvm.MethodName) ({ cls := "FlashFolioModel", name := "row", desc := "(I)J" } : Jvm.MethodName)) ∈ ax_T := ax_T_mem (lw_in 1499 (by decide +kernel)) (by decide +kernel)
theorem xt_0 : (Jvm.Cond.initialized "FlashFolioLaw") ∈ ax_T := ax_T_mem (lw_in 0 (by decide +kernel)) (by decide +kernel)
section WRP
variable {l : Launch} {n0 qo : Nat} {cls : Nat → ClassId} {D : va_G} {ad u v : Nat → Nat} {Mc Mm : ax_M} {g : Nat → Int64}
def wL_block : List Cond := Cond.codeWith yL_block method_3_code 5 (some .int) [(0, 10, 13, 13)] :: ax_T
theorem c_L_block {x1 x2 : Int} (h1 : ax_r32 x1) (h2 : ax_r32 x2) (hok : (f_X2_block x1 x2 Mc).1) : lw_M0 l yL_block wL_block n0 cls D ad u v qo Mc Mm g [.int (Int32.ofInt x1), .int (Int32.ofInt x2)] ((Int32.ofInt (f_X2_block x1 x2 Mc).2).toInt64) := by
  refine va_MetW (cc := method_3_code) (maxL := 5) (ret := some .int) (by decide) rfl ?_
  intro p e s m args below meth c s₁ B hml hv
  obtain ⟨rfl, hJ, hKK, hn⟩ := hv
  have hx := B.exec
  have hb := B.bytes
  have hr := B.returns
  have hts := atoms_spec (ws := wL_block) B.pre
  have hown : s.vm.findClass RL = some m.cls := findClass_of_methodNamed B.named
  have hlocks := B.notSynchronized
  have hv := lv_entry ([.ref (u 0), .int (Int32.ofInt x1), .int (Int32.ofInt x2), .ref qo]) (n := 5) (Nat.le_of_ble_eq_true rfl)
  show W _ _ _ _ _ _ _ _ _ _ _ _ _ _ _ (entryFrame m ([.ref (u 0), .int (Int32.ofInt x1), .int (Int32.ofInt x2), .ref qo] : List Value).toArray 5)
  rw [lg_entry_eq]
  generalize (lg_sl ([.ref (u 0), .int (Int32.ofInt x1), .int (Int32.ofInt x2), .ref qo]) ++ List.replicate (5 - (lg_sl ([.ref (u 0), .int (Int32.ofInt x1), .int (Int32.ofInt x2), .ref qo])).length) Slot.unset).toArray = ls at hv ⊢
  have hv : lv_has ls 5 [(0, .ref (u 0)), (1, .int (Int32.ofInt x1)), (2, .int (Int32.ofInt x2)), (3, .ref qo)] := hv
  refine lv_aload_n hx hb (show decode method_3_code 0 = .ok (.aload_n 3, 1) by decide +kernel) rfl (lv_at hv 3 rfl) ?_
  refine lv_iconst (v := Int32.ofInt 0) hx hb (show decode method_3_code 1 = .ok (.iconst 0, 1) by decide +kernel) (by decide) ?_
  refine lv_aload_n hx hb (show decode method_3_code 2 = .ok (.aload_n 0, 1) by decide +kernel) rfl (lv_at hv 0 rfl) ?_
  refine lv_iload_n hx hb (show decode method_3_code 3 = .ok (.iload_n 1, 1) by decide +kernel) rfl (lv_at hv 1 rfl) ?_
  refine lv_iload_n hx hb (show decode method_3_code 4 = .ok (.iload_n 2, 1) by decide +kernel) rfl (lv_at hv 2 rfl) ?_
  refine mx_callV (L := ax_LC) (X := (u, cls, D)) (M := Mc) (as := [(0, 0, x1), (0, 0, x2)]) (rest := [.int (Int32.ofInt 0), .ref qo]) (A := fun q => n0 ≤ q) rfl ⟨hx, hb, hml, hown, hts⟩ (show decode method_3_code 5 = .ok (.invokevirtual 7, 3) by decide +kernel) ax_cls2 calX2_block (Nat.le_of_ble_eq_true rfl) (Nat.le_of_ble_eq_true rfl) rfl xt_774 xt_775 xt_776 (show (2 : Nat) ≤ 8 by decide) (c_X2_block 2 x1 x2 Mc hok) rfl (fun w hw => by rcases List.mem_cons.mp hw with e | hw; exact e ▸ h1; rcases List.mem_cons.mp hw with e | hw; exact e ▸ h2; cases hw) hJ.1 hJ.2.2.2.1 (fun q h => (hJ.2.2.2.2.1 q h).1) hJ.2.2.2.2.2.2.2.1 va_S.rf (fun q h => (hJ.2.2.2.2.1 q h).1) hv.1 ⟨Nat.le_of_ble_eq_true rfl, Nat.le_of_ble_eq_true rfl⟩ (fun r M1 H1 locs1 hq _ hR1 _ hk1 hS1 => ?_)
  obtain ⟨rfl, rfl, _, _⟩ := hq
  have hJ1 := hJ.c hR1 hk1
  refine lv_i2l (v := (Int32.ofInt (f_X2_block x1 x2 M1).2).toInt64) hx hb (show decode method_3_code 8 = .ok (.i2l, 1) by decide +kernel) rfl ?_
  refine mx_last hx hb hJ1.1.2.1 1 hJ1.2.2.1 hS1 hJ1.2.2.2.2.2.2.1 rfl (show ¬ (Int32.ofInt 0 < 0 ∨ 1 ≤ (Int32.ofInt 0).toNatClampNeg) by decide) (show decode method_3_code 9 = .ok (.lastore, 1) by decide +kernel) (fun H2 locs2 hP2 hk2 hS2 => ?_)
  have hJ2 := hJ1.o hP2 hk2
  have hg : vp_updL g (Int32.ofInt 0).toNatClampNeg ((Int32.ofInt (f_X2_block x1 x2 M1).2).toInt64) 0 = (Int32.ofInt (f_X2_block x1 x2 M1).2).toInt64 := if_pos (by decide)
  generalize vp_updL g (Int32.ofInt 0).toNatClampNeg ((Int32.ofInt (f_X2_block x1 x2 M1).2).toInt64) = g2 at hJ2 hg
  refine lv_goto hx hb (off := 7) (tgt := 17) (show decode method_3_code 10 = .ok (.goto 7, 3) by decide +kernel) rfl ?_
  refine lv_iconst (v := Int32.ofInt 0) hx hb (show decode method_3_code 17 = .ok (.iconst 0, 1) by decide +kernel) (by decide) ?_
  exact W.iret (v := Int32.ofInt 0) hx hb hr (fun t ht hW => ⟨⟨Int32.ofInt 0, g2, rfl, ⟨by decide, hg⟩, show lw_J n0 cls D ad u v qo M1 Mm g2 t t.heap by rw [ht]; exact hJ2.warm hW⟩, hS2.F ht⟩) hS2.2.2 (show decode method_3_code 18 = .ok (.ireturn, 1) by decide +kernel)
theorem c_L_block_x (hfl : l.stackTraces = false) {x1 x2 : Int} (h1 : ax_r32 x1) (h2 : ax_r32 x2) (hno : ¬ (f_X2_block x1 x2 Mc).1) : lw_M1 l yL_block wL_block n0 cls D ad u v qo Mc Mm g [.int (Int32.ofInt x1), .int (Int32.ofInt x2)] := by
  refine va_MetW (cc := method_3_code) (maxL := 5) (ret := some .int) (by decide) rfl ?_
  intro p e s m args below meth c s₁ B hml hv
  obtain ⟨rfl, hJ, hKK, hn⟩ := hv
  have hx := B.exec
  have hb := B.bytes
  have hr := B.returns
  have hts := atoms_spec (ws := wL_block) B.pre
  have hown : s.vm.findClass RL = some m.cls := findClass_of_methodNamed B.named
  have hlocks := B.notSynchronized
  have hv := lv_entry ([.ref (u 0), .int (Int32.ofInt x1), .int (Int32.ofInt x2), .ref qo]) (n := 5) (Nat.le_of_ble_eq_true rfl)
  show W _ _ _ _ _ _ _ _ _ _ _ _ _ _ _ (entryFrame m ([.ref (u 0), .int (Int32.ofInt x1), .int (Int32.ofInt x2), .ref qo] : List Value).toArray 5)
  rw [lg_entry_eq]
  generalize (lg_sl ([.ref (u 0), .int (Int32.ofInt x1), .int (Int32.ofInt x2), .ref qo]) ++ List.replicate (5 - (lg_sl ([.ref (u 0), .int (Int32.ofInt x1), .int (Int32.ofInt x2), .ref qo])).length) Slot.unset).toArray = ls at hv ⊢
  have hv : lv_has ls 5 [(0, .ref (u 0)), (1, .int (Int32.ofInt x1)), (2, .int (Int32.ofInt x2)), (3, .ref qo)] := hv
  refine lv_aload_n hx hb (show decode method_3_code 0 = .ok (.aload_n 3, 1) by decide +kernel) rfl (lv_at hv 3 rfl) ?_
  refine lv_iconst (v := Int32.ofInt 0) hx hb (show decode method_3_code 1 = .ok (.iconst 0, 1) by decide +kernel) (by decide) ?_
  refine lv_aload_n hx hb (show decode method_3_code 2 = .ok (.aload_n 0, 1) by decide +kernel) rfl (lv_at hv 0 rfl) ?_
  refine lv_iload_n hx hb (show decode method_3_code 3 = .ok (.iload_n 1, 1) by decide +kernel) rfl (lv_at hv 1 rfl) ?_
  refine lv_iload_n hx hb (show decode method_3_code 4 = .ok (.iload_n 2, 1) by decide +kernel) rfl (lv_at hv 2 rfl) ?_
  have htb : c.exceptionTable.toList = tableOf [(0, 10, 13, 13)] := vx_table (x := yL_block) B (hts _ List.mem_cons_self)
  have hcw : CallW ({ frames := 20, cells := 1, slots := 6, locals := 2000 }) s _ RL RX2 7 gX2_block.1 (ax_cc gX2_block) (ax_nL gX2_block) (ax_ret gX2_block) (ax_word gX2_block :: ax_T) ({ frames := 8, cells := 1, slots := 6, locals := 512 }) 1 6 2 :=
    ⟨callB_of 2 hts (ax_good calX2_block.1) rfl rfl rfl (hts _ (List.mem_cons_of_mem _ calX2_block.2.1)) (hts _ (List.mem_cons_of_mem _ xt_774)) calX2_block.2.2.1 ⟨Nat.le_of_ble_eq_true rfl, Nat.le_of_ble_eq_true rfl⟩, hts _ (List.mem_cons_of_mem _ xt_775), hts _ (List.mem_cons_of_mem _ xt_776)⟩
  have hpre : PreV s s.heap RX2 (u 0) (ex_P (u, cls, D) Mc [.int (Int32.ofInt x1), .int (Int32.ofInt x2)]) [.int (Int32.ofInt x1), .int (Int32.ofInt x2)] :=
    ⟨ex_blind, ax_recv (X := (u, cls, D)) (a := 0) ax_cls2 hJ.1 rfl, fun U hU hW => ⟨rfl, by rw [hU]; exact hJ.1.moved hW.alike, by rw [hU]; exact (hJ.2.2.2.1.warm hW (fun _ _ _ => rfl)).of (fun q h => (hJ.2.2.2.2.1 q h).1) hJ.2.2.2.2.2.2.2.1, hKK.warm hW⟩⟩
  have hrun := vx_runV (p := p) (e := e) (below := below) (meth := meth) (H := s.heap) (locs := []) (cells := 0) (slots := 0) (g := F0 m 5 ls [.int (Int32.ofInt x2), .int (Int32.ofInt x1), .ref (u 0), .int (Int32.ofInt 0), .ref qo]) (As := [.int (Int32.ofInt x1), .int (Int32.ofInt x2)]) (rest := [.int (Int32.ofInt 0), .ref qo]) (b := u 0) (n := 2) ⟨hx, hb, hml, hown, hts⟩ (c_X2_block_x (X := (u, cls, D)) (M := Mc) hfl h1 h2 hno) hcw hpre rfl rfl hv.1 rfl (lv_room (show (2 : Nat) ≤ 8 by decide)) (show decode method_3_code 5 = .ok (.invokevirtual 7, 3) by decide +kernel) ⟨Nat.le_of_ble_eq_true rfl, Nat.le_of_ble_eq_true rfl⟩
  refine ex_go (A := fun q => n0 ≤ q) hrun va_S.rf (fun q h => (hJ.2.2.2.2.1 q h).1) (fun ce q9 H1 locs1 hR1 _ hk1 hS1 hce hcv hcl => ?_)
  have hJ1 := hJ.c hR1 hk1
  refine vx_catch hown [] ⟨0, 10, 13, 13⟩ [] htb (fun z hz => nomatch hz) (by decide) (by decide) (hts _ (List.mem_cons_of_mem _ xt_773)) (va_Nw.use rfl (hKK (.castable ex_n ex_n) (by decide +kernel))) hce hcv hcl ?_
  refine lv_astore (lv' := (4, Value.ref q9) :: [(0, .ref (u 0)), (1, .int (Int32.ofInt x1)), (2, .int (Int32.ofInt x2)), (3, .ref qo)]) hx hb (show decode method_3_code 13 = .ok (.astore 4, 2) by decide +kernel) hv (by decide) rfl (fun ls2 hv2 => ?_)
  refine lv_iconst (v := Int32.ofInt 1) hx hb (show decode method_3_code 15 = .ok (.iconst 1, 1) by decide +kernel) (by decide) ?_
  exact W.iret (v := Int32.ofInt 1) hx hb hr (fun t ht hW => ⟨⟨Int32.ofInt 1, g, rfl, ⟨by decide, rfl⟩, show lw_J n0 cls D ad u v qo Mc Mm g t t.heap by rw [ht]; exact hJ1.warm hW⟩, hS1.F ht⟩) hS1.2.2 (show decode method_3_code 16 = .ok (.ireturn, 1) by decide +kernel)
def wL_leaf : List Cond := Cond.codeWith yL_leaf method_4_code 6 (some .int) [(0, 12, 15, 13)] :: ax_T
theorem c_L_leaf {x1 x2 x3 : Int} (h1 : ax_r32 x1) (h2 : ax_r32 x2) (h3 : ax_r32 x3) (hok : (f_X2_leaf x1 x2 x3 Mc).1) : lw_M0 l yL_leaf wL_leaf n0 cls D ad u v qo Mc Mm g [.int (Int32.ofInt x1), .int (Int32.ofInt x2), .int (Int32.ofInt x3)] ((Int32.ofInt (f_X2_leaf x1 x2 x3 Mc).2).toInt64) := by
  refine va_MetW (cc := method_4_code) (maxL := 6) (ret := some .int) (by decide) rfl ?_
  intro p e s m args below meth c s₁ B hml hv
  obtain ⟨rfl, hJ, hKK, hn⟩ := hv
  have hx := B.exec
  have hb := B.bytes
  have hr := B.returns
  have hts := atoms_spec (ws := wL_leaf) B.pre
  have hown : s.vm.findClass RL = some m.cls := findClass_of_methodNamed B.named
  have hlocks := B.notSynchronized
  have hv := lv_entry ([.ref (u 0), .int (Int32.ofInt x1), .int (Int32.ofInt x2), .int (Int32.ofInt x3), .ref qo]) (n := 6) (Nat.le_of_ble_eq_true rfl)
  show W _ _ _ _ _ _ _ _ _ _ _ _ _ _ _ (entryFrame m ([.ref (u 0), .int (Int32.ofInt x1), .int (Int32.ofInt x2), .int (Int32.ofInt x3), .ref qo] : List Value).toArray 6)
  rw [lg_entry_eq]
  generalize (lg_sl ([.ref (u 0), .int (Int32.ofInt x1), .int (Int32.ofInt x2), .int (Int32.ofInt x3), .ref qo]) ++ List.replicate (6 - (lg_sl ([.ref (u 0), .int (Int32.ofInt x1), .int (Int32.ofInt x2), .int (Int32.ofInt x3), .ref qo])).length) Slot.unset).toArray = ls at hv ⊢
  have hv : lv_has ls 6 [(0, .ref (u 0)), (1, .int (Int32.ofInt x1)), (2, .int (Int32.ofInt x2)), (3, .int (Int32.ofInt x3)), (4, .ref qo)] := hv
  refine lv_aload hx hb (show decode method_4_code 0 = .ok (.aload 4, 2) by decide +kernel) (lv_at hv 4 rfl) ?_
  refine lv_iconst (v := Int32.ofInt 0) hx hb (show decode method_4_code 2 = .ok (.iconst 0, 1) by decide +kernel) (by decide) ?_
  refine lv_aload_n hx hb (show decode method_4_code 3 = .ok (.aload_n 0, 1) by decide +kernel) rfl (lv_at hv 0 rfl) ?_
  refine lv_iload_n hx hb (show decode method_4_code 4 = .ok (.iload_n 1, 1) by decide +kernel) rfl (lv_at hv 1 rfl) ?_
  refine lv_iload_n hx hb (show decode method_4_code 5 = .ok (.iload_n 2, 1) by decide +kernel) rfl (lv_at hv 2 rfl) ?_
  refine lv_iload_n hx hb (show decode method_4_code 6 = .ok (.iload_n 3, 1) by decide +kernel) rfl (lv_at hv 3 rfl) ?_
  refine mx_callV (L := ax_LC) (X := (u, cls, D)) (M := Mc) (as := [(0, 0, x1), (0, 0, x2), (0, 0, x3)]) (rest := [.int (Int32.ofInt 0), .ref qo]) (A := fun q => n0 ≤ q) rfl ⟨hx, hb, hml, hown, hts⟩ (show decode method_4_code 7 = .ok (.invokevirtual 15, 3) by decide +kernel) ax_cls2 calX2_leaf (Nat.le_of_ble_eq_true rfl) (Nat.le_of_ble_eq_true rfl) rfl xt_847 xt_848 xt_849 (show (2 : Nat) ≤ 8 by decide) (c_X2_leaf 2 x1 x2 x3 Mc hok) rfl (fun w hw => by rcases List.mem_cons.mp hw with e | hw; exact e ▸ h1; rcases List.mem_cons.mp hw with e | hw; exact e ▸ h2; rcases List.mem_cons.mp hw with e | hw; exact e ▸ h3; cases hw) hJ.1 hJ.2.2.2.1 (fun q h => (hJ.2.2.2.2.1 q h).1) hJ.2.2.2.2.2.2.2.1 va_S.rf (fun q h => (hJ.2.2.2.2.1 q h).1) hv.1 ⟨Nat.le_of_ble_eq_true rfl, Nat.le_of_ble_eq_true rfl⟩ (fun r M1 H1 locs1 hq _ hR1 _ hk1 hS1 => ?_)
  obtain ⟨rfl, rfl, _, _⟩ := hq
  have hJ1 := hJ.c hR1 hk1
  refine lv_i2l (v := (Int32.ofInt (f_X2_leaf x1 x2 x3 M1).2).toInt64) hx hb (show decode method_4_code 10 = .ok (.i2l, 1) by decide +kernel) rfl ?_
  refine mx_last hx hb hJ1.1.2.1 1 hJ1.2.2.1 hS1 hJ1.2.2.2.2.2.2.1 rfl (show ¬ (Int32.ofInt 0 < 0 ∨ 1 ≤ (Int32.ofInt 0).toNatClampNeg) by decide) (show decode method_4_code 11 = .ok (.lastore, 1) by decide +kernel) (fun H2 locs2 hP2 hk2 hS2 => ?_)
  have hJ2 := hJ1.o hP2 hk2
  have hg : vp_updL g (Int32.ofInt 0).toNatClampNeg ((Int32.ofInt (f_X2_leaf x1 x2 x3 M1).2).toInt64) 0 = (Int32.ofInt (f_X2_leaf x1 x2 x3 M1).2).toInt64 := if_pos (by decide)
  generalize vp_updL g (Int32.ofInt 0).toNatClampNeg ((Int32.ofInt (f_X2_leaf x1 x2 x3 M1).2).toInt64) = g2 at hJ2 hg
  refine lv_goto hx hb (off := 7) (tgt := 19) (show decode method_4_code 12 = .ok (.goto 7, 3) by decide +kernel) rfl ?_
  refine lv_iconst (v := Int32.ofInt 0) hx hb (show decode method_4_code 19 = .ok (.iconst 0, 1) by decide +kernel) (by decide) ?_
  exact W.iret (v := Int32.ofInt 0) hx hb hr (fun t ht hW => ⟨⟨Int32.ofInt 0, g2, rfl, ⟨by decide, hg⟩, show lw_J n0 cls D ad u v qo M1 Mm g2 t t.heap by rw [ht]; exact hJ2.warm hW⟩, hS2.F ht⟩) hS2.2.2 (show decode method_4_code 20 = .ok (.ireturn, 1) by decide +kernel)
theorem c_L_leaf_x (hfl : l.stackTraces = false) {x1 x2 x3 : Int} (h1 : ax_r32 x1) (h2 : ax_r32 x2) (h3 : ax_r32 x3) (hno : ¬ (f_X2_leaf x1 x2 x3 Mc).1) : lw_M1 l yL_leaf wL_leaf n0 cls D ad u v qo Mc Mm g [.int (Int32.ofInt x1), .int (Int32.ofInt x2), .int (Int32.ofInt x3)] := by
  refine va_MetW (cc := method_4_code) (maxL := 6) (ret := some .int) (by decide) rfl ?_
  intro p e s m args below meth c s₁ B hml hv
  obtain ⟨rfl, hJ, hKK, hn⟩ := hv
  have hx := B.exec
  have hb := B.bytes
  have hr := B.returns
  have hts := atoms_spec (ws := wL_leaf) B.pre
  have hown : s.vm.findClass RL = some m.cls := findClass_of_methodNamed B.named
  have hlocks := B.notSynchronized
  have hv := lv_entry ([.ref (u 0), .int (Int32.ofInt x1), .int (Int32.ofInt x2), .int (Int32.ofInt x3), .ref qo]) (n := 6) (Nat.le_of_ble_eq_true rfl)
  show W _ _ _ _ _ _ _ _ _ _ _ _ _ _ _ (entryFrame m ([.ref (u 0), .int (Int32.ofInt x1), .int (Int32.ofInt x2), .int (Int32.ofInt x3), .ref qo] : List Value).toArray 6)
  rw [lg_entry_eq]
  generalize (lg_sl ([.ref (u 0), .int (Int32.ofInt x1), .int (Int32.ofInt x2), .int (Int32.ofInt x3), .ref qo]) ++ List.replicate (6 - (lg_sl ([.ref (u 0), .int (Int32.ofInt x1), .int (Int32.ofInt x2), .int (Int32.ofInt x3), .ref qo])).length) Slot.unset).toArray = ls at hv ⊢
  have hv : lv_has ls 6 [(0, .ref (u 0)), (1, .int (Int32.ofInt x1)), (2, .int (Int32.ofInt x2)), (3, .int (Int32.ofInt x3)), (4, .ref qo)] := hv
  refine lv_aload hx hb (show decode method_4_code 0 = .ok (.aload 4, 2) by decide +kernel) (lv_at hv 4 rfl) ?_
  refine lv_iconst (v := Int32.ofInt 0) hx hb (show decode method_4_code 2 = .ok (.iconst 0, 1) by decide +kernel) (by decide) ?_
  refine lv_aload_n hx hb (show decode method_4_code 3 = .ok (.aload_n 0, 1) by decide +kernel) rfl (lv_at hv 0 rfl) ?_
  refine lv_iload_n hx hb (show decode method_4_code 4 = .ok (.iload_n 1, 1) by decide +kernel) rfl (lv_at hv 1 rfl) ?_
  refine lv_iload_n hx hb (show decode method_4_code 5 = .ok (.iload_n 2, 1) by decide +kernel) rfl (lv_at hv 2 rfl) ?_
  refine lv_iload_n hx hb (show decode method_4_code 6 = .ok (.iload_n 3, 1) by decide +kernel) rfl (lv_at hv 3 rfl) ?_
  have htb : c.exceptionTable.toList = tableOf [(0, 12, 15, 13)] := vx_table (x := yL_leaf) B (hts _ List.mem_cons_self)
  have hcw : CallW ({ frames := 20, cells := 1, slots := 6, locals := 2000 }) s _ RL RX2 15 gX2_leaf.1 (ax_cc gX2_leaf) (ax_nL gX2_leaf) (ax_ret gX2_leaf) (ax_word gX2_leaf :: ax_T) ({ frames := 8, cells := 1, slots := 6, locals := 512 }) 1 6 3 :=
    ⟨callB_of 3 hts (ax_good calX2_leaf.1) rfl rfl rfl (hts _ (List.mem_cons_of_mem _ calX2_leaf.2.1)) (hts _ (List.mem_cons_of_mem _ xt_847)) calX2_leaf.2.2.1 ⟨Nat.le_of_ble_eq_true rfl, Nat.le_of_ble_eq_true rfl⟩, hts _ (List.mem_cons_of_mem _ xt_848), hts _ (List.mem_cons_of_mem _ xt_849)⟩
  have hpre : PreV s s.heap RX2 (u 0) (ex_P (u, cls, D) Mc [.int (Int32.ofInt x1), .int (Int32.ofInt x2), .int (Int32.ofInt x3)]) [.int (Int32.ofInt x1), .int (Int32.ofInt x2), .int (Int32.ofInt x3)] :=
    ⟨ex_blind, ax_recv (X := (u, cls, D)) (a := 0) ax_cls2 hJ.1 rfl, fun U hU hW => ⟨rfl, by rw [hU]; exact hJ.1.moved hW.alike, by rw [hU]; exact (hJ.2.2.2.1.warm hW (fun _ _ _ => rfl)).of (fun q h => (hJ.2.2.2.2.1 q h).1) hJ.2.2.2.2.2.2.2.1, hKK.warm hW⟩⟩
  have hrun := vx_runV (p := p) (e := e) (below := below) (meth := meth) (H := s.heap) (locs := []) (cells := 0) (slots := 0) (g := F0 m 7 ls [.int (Int32.ofInt x3), .int (Int32.ofInt x2), .int (Int32.ofInt x1), .ref (u 0), .int (Int32.ofInt 0), .ref qo]) (As := [.int (Int32.ofInt x1), .int (Int32.ofInt x2), .int (Int32.ofInt x3)]) (rest := [.int (Int32.ofInt 0), .ref qo]) (b := u 0) (n := 3) ⟨hx, hb, hml, hown, hts⟩ (c_X2_leaf_x (X := (u, cls, D)) (M := Mc) hfl h1 h2 h3 hno) hcw hpre rfl rfl hv.1 rfl (lv_room (show (2 : Nat) ≤ 8 by decide)) (show decode method_4_code 7 = .ok (.invokevirtual 15, 3) by decide +kernel) ⟨Nat.le_of_ble_eq_true rfl, Nat.le_of_ble_eq_true rfl⟩
  refine ex_go (A := fun q => n0 ≤ q) hrun va_S.rf (fun q h => (hJ.2.2.2.2.1 q h).1) (fun ce q9 H1 locs1 hR1 _ hk1 hS1 hce hcv hcl => ?_)
  have hJ1 := hJ.c hR1 hk1
  refine vx_catch hown [] ⟨0, 12, 15, 13⟩ [] htb (fun z hz => nomatch hz) (by decide) (by decide) (hts _ (List.mem_cons_of_mem _ xt_773)) (va_Nw.use rfl (hKK (.castable ex_n ex_n) (by decide +kernel))) hce hcv hcl ?_
  refine lv_astore (lv' := (5, Value.ref q9) :: [(0, .ref (u 0)), (1, .int (Int32.ofInt x1)), (2, .int (Int32.ofInt x2)), (3, .int (Int32.ofInt x3)), (4, .ref qo)]) hx hb (show decode method_4_code 15 = .ok (.astore 5, 2) by decide +kernel) hv (by decide) rfl (fun ls2 hv2 => ?_)
  refine lv_iconst (v := Int32.ofInt 1) hx hb (show decode method_4_code 17 = .ok (.iconst 1, 1) by decide +kernel) (by decide) ?_
  exact W.iret (v := Int32.ofInt 1) hx hb hr (fun t ht hW => ⟨⟨Int32.ofInt 1, g, rfl, ⟨by decide, rfl⟩, show lw_J n0 cls D ad u v qo Mc Mm g t t.heap by rw [ht]; exact hJ1.warm hW⟩, hS1.F ht⟩) hS1.2.2 (show decode method_4_code 18 = .ok (.ireturn, 1) by decide +kernel)
def wL_row : List Cond := Cond.codeWith yL_row method_5_code 4 (some .int) [(0, 8, 11, 13)] :: ax_T
theorem c_L_row {x1 : Int} (h1 : ax_r32 x1) (hok : (f_X2_row x1 Mc).1) : lw_M0 l yL_row wL_row n0 cls D ad u v qo Mc Mm g [.int (Int32.ofInt x1)] (Int64.ofInt (f_X2_row x1 Mc).2) := by
  refine va_MetW (cc := method_5_code) (maxL := 4) (ret := some .int) (by decide) rfl ?_
  intro p e s m args below meth c s₁ B hml hv
  obtain ⟨rfl, hJ, hKK, hn⟩ := hv
  have hx := B.exec
  have hb := B.bytes
  have hr := B.returns
  have hts := atoms_spec (ws := wL_row) B.pre
  have hown : s.vm.findClass RL = some m.cls := findClass_of_methodNamed B.named
  have hlocks := B.notSynchronized
  have hv := lv_entry ([.ref (u 0), .int (Int32.ofInt x1), .ref qo]) (n := 4) (Nat.le_of_ble_eq_true rfl)
  show W _ _ _ _ _ _ _ _ _ _ _ _ _ _ _ (entryFrame m ([.ref (u 0), .int (Int32.ofInt x1), .ref qo] : List Value).toArray 4)
  rw [lg_entry_eq]
  generalize (lg_sl ([.ref (u 0), .int (Int32.ofInt x1), .ref qo]) ++ List.replicate (4 - (lg_sl ([.ref (u 0), .int (Int32.ofInt x1), .ref qo])).length) Slot.unset).toArray = ls at hv ⊢
  have hv : lv_has ls 4 [(0, .ref (u 0)), (1, .int (Int32.ofInt x1)), (2, .ref qo)] := hv
  refine lv_aload_n hx hb (show decode method_5_code 0 = .ok (.aload_n 2, 1) by decide +kernel) rfl (lv_at hv 2 rfl) ?_
  refine lv_iconst (v := Int32.ofInt 0) hx hb (show decode method_5_code 1 = .ok (.iconst 0, 1) by decide +kernel) (by decide) ?_
  refine lv_aload_n hx hb (show decode method_5_code 2 = .ok (.aload_n 0, 1) by decide +kernel) rfl (lv_at hv 0 rfl) ?_
  refine lv_iload_n hx hb (show decode method_5_code 3 = .ok (.iload_n 1, 1) by decide +kernel) rfl (lv_at hv 1 rfl) ?_
  refine mx_callV (L := ax_LC) (X := (u, cls, D)) (M := Mc) (as := [(0, 0, x1)]) (rest := [.int (Int32.ofInt 0), .ref qo]) (A := fun q => n0 ≤ q) rfl ⟨hx, hb, hml, hown, hts⟩ (show decode method_5_code 4 = .ok (.invokevirtual 19, 3) by decide +kernel) ax_cls2 calX2_row (Nat.le_of_ble_eq_true rfl) (Nat.le_of_ble_eq_true rfl) rfl xt_858 xt_859 xt_860 (show (2 : Nat) ≤ 8 by decide) (c_X2_row 2 x1 Mc hok) rfl (fun w hw => by rcases List.mem_cons.mp hw with e | hw; exact e ▸ h1; cases hw) hJ.1 hJ.2.2.2.1 (fun q h => (hJ.2.2.2.2.1 q h).1) hJ.2.2.2.2.2.2.2.1 va_S.rf (fun q h => (hJ.2.2.2.2.1 q h).1) hv.1 ⟨Nat.le_of_ble_eq_true rfl, Nat.le_of_ble_eq_true rfl⟩ (fun r M1 H1 locs1 hq _ hR1 _ hk1 hS1 => ?_)
  obtain ⟨rfl, rfl⟩ := hq
  have hJ1 := hJ.c hR1 hk1
  refine mx_last hx hb hJ1.1.2.1 1 hJ1.2.2.1 hS1 hJ1.2.2.2.2.2.2.1 rfl (show ¬ (Int32.ofInt 0 < 0 ∨ 1 ≤ (Int32.ofInt 0).toNatClampNeg) by decide) (show decode method_5_code 7 = .ok (.lastore, 1) by decide +kernel) (fun H2 locs2 hP2 hk2 hS2 => ?_)
  have hJ2 := hJ1.o hP2 hk2
  have hg : vp_updL g (Int32.ofInt 0).toNatClampNeg (Int64.ofInt (f_X2_row x1 M1).2) 0 = Int64.ofInt (f_X2_row x1 M1).2 := if_pos (by decide)
  generalize vp_updL g (Int32.ofInt 0).toNatClampNeg (Int64.ofInt (f_X2_row x1 M1).2) = g2 at hJ2 hg
  refine lv_goto hx hb (off := 6) (tgt := 14) (show decode method_5_code 8 = .ok (.goto 6, 3) by decide +kernel) rfl ?_
  refine lv_iconst (v := Int32.ofInt 0) hx hb (show decode method_5_code 14 = .ok (.iconst 0, 1) by decide +kernel) (by decide) ?_
  exact W.iret (v := Int32.ofInt 0) hx hb hr (fun t ht hW => ⟨⟨Int32.ofInt 0, g2, rfl, ⟨by decide, hg⟩, show lw_J n0 cls D ad u v qo M1 Mm g2 t t.heap by rw [ht]; exact hJ2.warm hW⟩, hS2.F ht⟩) hS2.2.2 (show decode method_5_code 15 = .ok (.ireturn, 1) by decide +kernel)
theorem c_L_row_x (hfl : l.stackTraces = false) {x1 : Int} (h1 : ax_r32 x1) (hno : ¬ (f_X2_row x1 Mc).1) : lw_M1 l yL_row wL_row n0 cls D ad u v qo Mc Mm g [.int (Int32.ofInt x1)] := by
  refine va_MetW (cc := method_5_code) (maxL := 4) (ret := some .int) (by decide) rfl ?_
  intro p e s m args below meth c s₁ B hml hv
  obtain ⟨rfl, hJ, hKK, hn⟩ := hv
  have hx := B.exec
  have hb := B.bytes
  have hr := B.returns
  have hts := atoms_spec (ws := wL_row) B.pre
  have hown : s.vm.findClass RL = some m.cls := findClass_of_methodNamed B.named
  have hlocks := B.notSynchronized
  have hv := lv_entry ([.ref (u 0), .int (Int32.ofInt x1), .ref qo]) (n := 4) (Nat.le_of_ble_eq_true rfl)
  show W _ _ _ _ _ _ _ _ _ _ _ _ _ _ _ (entryFrame m ([.ref (u 0), .int (Int32.ofInt x1), .ref qo] : List Value).toArray 4)
  rw [lg_entry_eq]
  generalize (lg_sl ([.ref (u 0), .int (Int32.ofInt x1), .ref qo]) ++ List.replicate (4 - (lg_sl ([.ref (u 0), .int (Int32.ofInt x1), .ref qo])).length) Slot.unset).toArray = ls at hv ⊢
  have hv : lv_has ls 4 [(0, .ref (u 0)), (1, .int (Int32.ofInt x1)), (2, .ref qo)] := hv
  refine lv_aload_n hx hb (show decode method_5_code 0 = .ok (.aload_n 2, 1) by decide +kernel) rfl (lv_at hv 2 rfl) ?_
  refine lv_iconst (v := Int32.ofInt 0) hx hb (show decode method_5_code 1 = .ok (.iconst 0, 1) by decide +kernel) (by decide) ?_
  refine lv_aload_n hx hb (show decode method_5_code 2 = .ok (.aload_n 0, 1) by decide +kernel) rfl (lv_at hv 0 rfl) ?_
  refine lv_iload_n hx hb (show decode method_5_code 3 = .ok (.iload_n 1, 1) by decide +kernel) rfl (lv_at hv 1 rfl) ?_
  have htb : c.exceptionTable.toList = tableOf [(0, 8, 11, 13)] := vx_table (x := yL_row) B (hts _ List.mem_cons_self)
  have hcw : CallW ({ frames := 20, cells := 1, slots := 6, locals := 2000 }) s _ RL RX2 19 gX2_row.1 (ax_cc gX2_row) (ax_nL gX2_row) (ax_ret gX2_row) (ax_word gX2_row :: ax_T) ({ frames := 8, cells := 1, slots := 6, locals := 512 }) 1 6 1 :=
    ⟨callB_of 1 hts (ax_good calX2_row.1) rfl rfl rfl (hts _ (List.mem_cons_of_mem _ calX2_row.2.1)) (hts _ (List.mem_cons_of_mem _ xt_858)) calX2_row.2.2.1 ⟨Nat.le_of_ble_eq_true rfl, Nat.le_of_ble_eq_true rfl⟩, hts _ (List.mem_cons_of_mem _ xt_859), hts _ (List.mem_cons_of_mem _ xt_860)⟩
  have hpre : PreV s s.heap RX2 (u 0) (ex_P (u, cls, D) Mc [.int (Int32.ofInt x1)]) [.int (Int32.ofInt x1)] :=
    ⟨ex_blind, ax_recv (X := (u, cls, D)) (a := 0) ax_cls2 hJ.1 rfl, fun U hU hW => ⟨rfl, by rw [hU]; exact hJ.1.moved hW.alike, by rw [hU]; exact (hJ.2.2.2.1.warm hW (fun _ _ _ => rfl)).of (fun q h => (hJ.2.2.2.2.1 q h).1) hJ.2.2.2.2.2.2.2.1, hKK.warm hW⟩⟩
  have hrun := vx_runV (p := p) (e := e) (below := below) (meth := meth) (H := s.heap) (locs := []) (cells := 0) (slots := 0) (g := F0 m 4 ls [.int (Int32.ofInt x1), .ref (u 0), .int (Int32.ofInt 0), .ref qo]) (As := [.int (Int32.ofInt x1)]) (rest := [.int (Int32.ofInt 0), .ref qo]) (b := u 0) (n := 1) ⟨hx, hb, hml, hown, hts⟩ (c_X2_row_x (X := (u, cls, D)) (M := Mc) hfl h1 hno) hcw hpre rfl rfl hv.1 rfl (lv_room (show (2 : Nat) ≤ 8 by decide)) (show decode method_5_code 4 = .ok (.invokevirtual 19, 3) by decide +kernel) ⟨Nat.le_of_ble_eq_true rfl, Nat.le_of_ble_eq_true rfl⟩
  refine ex_go (A := fun q => n0 ≤ q) hrun va_S.rf (fun q h => (hJ.2.2.2.2.1 q h).1) (fun ce q9 H1 locs1 hR1 _ hk1 hS1 hce hcv hcl => ?_)
  have hJ1 := hJ.c hR1 hk1
  refine vx_catch hown [] ⟨0, 8, 11, 13⟩ [] htb (fun z hz => nomatch hz) (by decide) (by decide) (hts _ (List.mem_cons_of_mem _ xt_773)) (va_Nw.use rfl (hKK (.castable ex_n ex_n) (by decide +kernel))) hce hcv hcl ?_
  refine lv_astore_n (lv' := (3, Value.ref q9) :: [(0, .ref (u 0)), (1, .int (Int32.ofInt x1)), (2, .ref qo)]) hx hb (show decode method_5_code 11 = .ok (.astore_n 3, 1) by decide +kernel) rfl hv (by decide) rfl (fun ls2 hv2 => ?_)
  refine lv_iconst (v := Int32.ofInt 1) hx hb (show decode method_5_code 12 = .ok (.iconst 1, 1) by decide +kernel) (by decide) ?_
  exact W.iret (v := Int32.ofInt 1) hx hb hr (fun t ht hW => ⟨⟨Int32.ofInt 1, g, rfl, ⟨by decide, rfl⟩, show lw_J n0 cls D ad u v qo Mc Mm g t t.heap by rw [ht]; exact hJ1.warm hW⟩, hS1.F ht⟩) hS1.2.2 (show decode method_5_code 13 = .ok (.ireturn, 1) by decide +kernel)
end WRP
