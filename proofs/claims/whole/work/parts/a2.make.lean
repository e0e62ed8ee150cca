/-! ===== making: arrays, Arrays.fill, what a constructor is to do ===== -/
theorem lw_in {w : Cond} (i : Nat) (h : tables_1[i]? = some w) : w ∈ lw_tbl := List.mem_append_right _ (List.mem_of_getElem? h)
/-- what a constructor finds -/
def lx_B (ci : Nat) (z : List Value) (cls : Nat → ClassId) (D : va_G) (ad : Nat → Nat) (n0 h0 sz : Nat) (U : State) : Prop := U.heap.size = sz ∧ va_P D vwCl [(h0, .inr (ci, z))] U.heap ∧ va_K D vwCl (ax_tys ((fun _ => 0), cls, D)) U ∧ va_D (fun _ => True) [(h0, .inr (ci, z))] ∧ n0 ≤ h0 ∧ n0 ≤ sz ∧ lx_N (fun q => n0 ≤ q) ad U U.heap
/-- a constructor's contract: the world behind it is the layout LF with the memory MF -/
def lx_new (G : ax_G) (ci : Nat) (z : List Value) (LF : ax_L) (MF : ax_M) (fr mc ms : Nat) : Prop := ∀ (l : Launch) (cls : Nat → ClassId) (D : va_G) (ad : Nat → Nat) (n0 h0 sz : Nat), Met l G.1 (ax_word G :: ax_T) ({ frames := fr, cells := mc, slots := ms, locals := 64 * fr }) (va_Pc [.ref h0] (lx_B ci z cls D ad n0 h0 sz)) (va_Qv (fun u : Nat → Nat => u 0 = h0 ∧ ∀ k, 1000 ≤ k → u k = ad k) (fun u t => va_P D vwCl (ax_ws LF (u, cls, D) MF) t.heap ∧ va_D (va_A [(h0, .inr (ci, z))] sz) (ax_ws LF (u, cls, D) MF)) (va_A [(h0, .inr (ci, z))] sz)) mc ms (va_A [(h0, .inr (ci, z))] sz)
theorem lx_blind {h0 ci n0 sz : Nat} {z : List Value} {cls : Nat → ClassId} {D : va_G} {ad : Nat → Nat} : FrameBlind (va_Pc [.ref h0] (lx_B ci z cls D ad n0 h0 sz)) := by
  intro a U g mk q
  obtain ⟨q0, q1, qP, qK, qD, q2, q3, qN⟩ := q
  exact ⟨q0, q1, qP, va_K.moved (u := U) (U := U.calling g mk a) (Vm.Alike.refl U.vm) qK, qD, q2, q3, qN.warm (s := U) (U := U.calling g mk a) (H := U.heap) (State.WarmedH.refl U) (fun _ _ _ => rfl)⟩
theorem lx_A1 {h0 n0 sz : Nat} {e : va_E} (h1 : n0 ≤ h0) (h2 : n0 ≤ sz) {q : Nat} (h : va_A [(h0, e)] sz q) : n0 ≤ q := by
  rcases h with ⟨k, e', h⟩ | h
  · have hm := List.mem_of_getElem? h
    simp only [List.mem_cons, List.not_mem_nil, or_false, Prod.mk.injEq] at hm
    omega
  · omega
section LXM
variable {p : Program} {l : Launch} {e : Env} {R : Room} {s : State} {m : MethodId} {args : Array Value} {below : List Frame} {meth : Method} {c : Code} {H H0 : Heap} {locs : List Loc} {cells slots : Nat} {Q : State → Prop}
variable {cc : ByteArray} {pc : Nat} {ls : Array Slot} {rest : List Value} {D : va_G} {cl : List vw_C} {A : Nat → Prop} {tys : List (ClassId × FieldType)} {ws : va_W}
/-- a new array, of a class that is known -/
theorem nx_newa (hexec : p.tables.exec = Jvm.exec) (hb : c.code = cc) {atype : ArrayType} (harr : (Cond.arrayClass (newarray.typeOf atype)).before args s = true) {ty : FieldType} (hty : newarray.typeOf atype = ty) {t0 : Nat} {cI : ClassId} (hK : va_K D cl tys s) (ht : tys[t0]? = some (cI, ty)) (hprim : ∀ (U : State) (cA : ClassId), va_RA U cA ty ↔ U.vm.findClass ("[" ++ ty.toString) = some cA) (hP : va_P D cl ws H) (hD : va_D A ws) (hS : va_S A H0 H locs) (hA : ∀ q, H0.size ≤ q → A q)
    {n : Int32} {N' : Nat} {a0 : vp_A} (ha : ∀ cA : ClassId, vp_cell cA a0 = arrV cA N' (fun _ => defaultValue ty)) (hn : ¬ n < 0) (hN : n.toNatClampNeg = N') (hbytes : N' * componentBytes ty ≤ 536870912) (hcells : cells + 1 ≤ R.cells) (hslots : slots + N' ≤ R.slots) (hdg : decode cc pc = .ok (.newarray atype, 2))
    (kk : ∀ (q : Nat) (H1 : Heap), va_P D cl (ws ++ [(q, .inl (cI, a0))]) H1 → va_D A (ws ++ [(q, .inl (cI, a0))]) → va_S A H0 H1 locs →
      W p l e R s m args below meth c H1 locs (cells + 1) (slots + N') Q (F0 m (pc + 2) ls (.ref q :: rest))) : W p l e R s m args below meth c H locs cells slots Q (F0 m pc ls (.int n :: rest)) := by
  refine va_newa hexec hb harr hty hK hP hD hS hA ha hn hN hbytes hcells hslots hdg (fun q cA H1 hK1 hP1 hD1 hS1 => ?_)
  have h1 := (hprim s cA).mp ((hK1.2 tys.length (cA, ty) (by rw [List.getElem?_append_right (Nat.le_refl _), Nat.sub_self]; rfl)).2)
  have h2 := (hprim s cI).mp ((hK.2 t0 _ ht).2)
  have e : cA = cI := Option.some.inj (h1.symm.trans h2)
  subst e
  exact kk q H1 hP1 hD1 hS1
/-- one cell is another; the rest stays -/
theorem lx_put {a : Nat} {e0 e1 : va_E} {H1 : Heap} (hP : va_P D cl ws H) (hD : va_D A ws) (q : Nat) (hq : ws[q]? = some (a, e0)) (hk : ∀ k : Nat, k < H.size → k ≠ a → H1[k]? = H[k]?) (hP1 : va_P D cl [(a, e1)] H1) : va_P D cl (ws.set q (a, e1)) H1 ∧ va_D A (ws.set q (a, e1)) := by
  have hl := (List.getElem?_eq_some_iff.mp hq).1
  refine ⟨fun k x hx => ?_, hD.set hq⟩
  by_cases e : k = q
  · subst e
    rw [List.getElem?_set_self hl] at hx
    cases hx
    exact hP1 0 _ rfl
  · rw [List.getElem?_set_ne (Ne.symm e)] at hx
    exact (hP k x hx).kept (hk _ ((hP k x hx).lt) (fun e2 => e (hD.1 k q x _ hx hq e2)))
/-- behind a call of a method told by its memory -/
theorem mx_go {L : ax_L} {st0 : List Value} {a : Array Value} {X : ax_X} {Q1 : Option ax_V → ax_M → Prop} (hr : va_Run p l e R s m args below meth c H locs cells slots 0 0 (F0 m pc ls st0) rest (ax_Q L X Q1 a) (ax_A L X)) (hS : va_S A H0 H locs) (hA : ∀ q, ax_A L X q → A q)
    (kk : ∀ (r : Option ax_V) (M1 : ax_M) (H1 : Heap) (locs1 : List Loc), Q1 r M1 → ax_okr L r → ax_R L X M1 s H1 → H.size ≤ H1.size → (∀ q : Nat, q < H.size → ¬ ax_A L X q → H1[q]? = H[q]?) → va_S A H0 H1 locs1 → W p l e R s m args below meth c H1 locs1 cells slots Q (F0 m (pc + 3) ls ((r.map (ax_vl X)).toList ++ rest))) : W p l e R s m args below meth c H locs cells slots Q (F0 m pc ls st0) := by
  intro T hT X'
  obtain ⟨v, st₀, t, T', L', h0, X', hL, e1, e2, ⟨⟨r, M1, hv, hq, hok, hRt⟩, hz, hk⟩, st⟩ := hr T hT X'
  cases hv
  rw [h0] at hz hk
  have hvm : t.vm.Alike s.vm := by rw [← e2]; exact X'.warmed.alike.symm
  obtain ⟨t2, a1, b1⟩ := kk r M1 T'.heap (locs ++ L') hq hok (by rw [e1]; exact hRt.moved hvm) (by rw [e1]; exact hz) (fun q h1 h2 => by rw [e1]; exact hk q h1 h2)
    ⟨Nat.le_trans hS.1 (by rw [e1]; exact hz), fun q h1 h2 => by rw [e1, hk q (Nat.lt_of_lt_of_le h1 hS.1) (fun h => h2 (hA q h))]; exact hS.2.1 q h1 h2, fun q hq => by
      rcases List.mem_append.mp hq with h | h
      · exact hS.2.2 q h
      · exact hA _ (hL q h)⟩ T' rfl X'
  exact ⟨t2, st t2 a1, b1⟩
def m0_fill : ax_M := f_J_fill 64 0 (-1) (fun _ _ => 0)
/-- Arrays.fill over a new row of 64 -/
theorem lx_fill {cls : Nat → ClassId} {ad : Nat → Nat} {n0 q : Nat} {Ts : List Cond} {own : String} {i : Nat} {c0 : Cond} (hTs : Ts = c0 :: ax_T) (hx : p.tables.exec = Jvm.exec) (hb : c.code = cc) {nL : Nat} (hml : c.maxLocals = nL) (hown : s.vm.findClass own = some m.cls) (hts : ∀ w ∈ Ts, w.before args s = true) (hsz : ls.size = nL) (hR : 1 ≤ R.frames ∧ 23 ≤ R.locals) (hc : cells ≤ R.cells ∧ slots ≤ R.slots)
    (hP : va_P D vwCl [(q, .inl (cls 3, 64, .inl (fun _ => Int32.ofInt 0)))] H) (hK : va_K D vwCl (ax_tys ((fun _ => 0), cls, D)) s) (hN : lx_N (fun q => n0 ≤ q) ad s H) (hnq : n0 ≤ q) (hS : va_S A H0 H locs) (hAq : A q) (hw : Cond.methodLink own i yJ_fill ∈ ax_T) (hw2 : Cond.static yJ_fill ∈ ax_T) (hd : decode cc pc = .ok (.invokestatic i, 3)) (hrs : (rest.map fun v => v.category).sum ≤ 8)
    (kk : ∀ (H1 : Heap) (locs1 : List Loc), va_P D vwCl [(q, .inl (cls 3, 64, .inl (fun i => Int32.ofInt (m0_fill 0 i))))] H1 → H.size ≤ H1.size → (∀ k : Nat, k < H.size → k ≠ q → H1[k]? = H[k]?) → va_S A H0 H1 locs1 → W p l e R s m args below meth c H1 locs1 cells slots Q (F0 m (pc + 3) ls rest)) :
    W p l e R s m args below meth c H locs cells slots Q (F0 m pc ls (.int (Int32.ofInt (-1)) :: .ref q :: rest)) := by
  subst hTs
  have hA1 : ∀ k, ax_A [(3, 64)] ((fun k => if k < 1000 then q else ad k), cls, D) k → k = q := by
    intro k ⟨j, hj, e⟩
    have : j = 0 := by simp at hj; omega
    subst this
    exact e
  have hR1 : ax_R [(3, 64)] ((fun k => if k < 1000 then q else ad k), cls, D) (fun _ _ => 0) s H := by
    refine ⟨hP, hK, ⟨fun i j x y hi hj _ => ?_, fun k x hx => ?_⟩, fun k d hk => ?_⟩
    · have h1 := (List.getElem?_eq_some_iff.mp hi).1
      have h2 := (List.getElem?_eq_some_iff.mp hj).1
      simp [ax_ws] at h1 h2
      omega
    · have h1 := (List.getElem?_eq_some_iff.mp hx).1
      simp [ax_ws] at h1
      subst h1
      cases hx
      exact ⟨0, by decide, rfl⟩
    · have h1 := (List.getElem?_eq_some_iff.mp hk).1
      have : k = 0 := by simp at h1; omega
      subst this
      cases hk
      intro i
      exact ⟨show (-2147483648 : Int) ≤ 0 by decide, show (0 : Int) ≤ 2147483647 by decide⟩
  have hN1 : ∀ (U : State), U.heap = H → s.WarmedH U.vm → ax_N [(3, 64)] ((fun k => if k < 1000 then q else ad k), cls, D) U U.heap := fun U hU hW => by
    rw [hU]
    exact (hN.warm hW (fun _ _ _ => rfl)).of (fun k hk => by rw [hA1 k hk]; exact hnq) (fun k hk => if_neg (Nat.not_lt.mpr hk))
  have hcw : CallB R s args own i gJ_fill.1 (ax_cc gJ_fill) (ax_nL gJ_fill) (ax_ret gJ_fill) (ax_word gJ_fill :: ax_T) (ax_rm 0) 0 0 2 ∧ (Cond.static gJ_fill.1).before args s = true :=
    ⟨callB_of 2 hts (ax_good calJ_fill.1) rfl rfl rfl (hts _ (List.mem_cons_of_mem _ calJ_fill.2.1)) (hts _ (List.mem_cons_of_mem _ hw)) calJ_fill.2.2.1 ⟨hR.1, by show 8 + (4 + 11) + 64 * 0 ≤ R.locals; omega⟩, hts _ (List.mem_cons_of_mem _ hw2)⟩
  have hpre : PreS s H (va_Pc ([(3, 64, ((0 : Nat) : Int)), (0, 0, -1)].map (ax_vl ((fun k => if k < 1000 then q else ad k), cls, D))) (fun U => ax_R [(3, 64)] ((fun k => if k < 1000 then q else ad k), cls, D) (fun _ _ => 0) U U.heap ∧ ax_N [(3, 64)] ((fun k => if k < 1000 then q else ad k), cls, D) U U.heap)) [.ref q, .int (Int32.ofInt (-1))] :=
    ⟨ax_blind, fun U hU hW => ⟨rfl, by rw [hU]; exact hR1.moved hW.alike, hN1 U hU hW⟩⟩
  have hm := c_J_fill [(3, 64)] (ax_lay_of (by decide)) 0 64 0 (-1) (fun _ _ => 0) (by decide) l ((fun k => if k < 1000 then q else ad k), cls, D) (fun v hv => by
    rcases List.mem_cons.mp hv with e | h
    · subst e; exact ⟨by decide, rfl⟩
    · rcases List.mem_cons.mp h with e | h
      · subst e; exact ⟨by decide, by decide⟩
      · cases h)
  have hrun := va_runS (g := F0 m pc ls (.int (Int32.ofInt (-1)) :: .ref q :: rest)) (As := [.ref q, .int (Int32.ofInt (-1))]) (rest := rest) (H := H) (locs := locs) (cells := cells) (slots := slots) (below := below) (meth := meth) (e := e) (n := 2) ⟨hx, hb, hml, hown, hts⟩ hm hcw hpre rfl rfl hsz rfl (lv_room hrs) hd ⟨hc.1, hc.2⟩
  refine mx_go hrun hS (fun k hk => by rw [hA1 k hk]; exact hAq) (fun r M1 H1 locs1 hq _ hR2 hz hk hS1 => ?_)
  obtain ⟨rfl, rfl⟩ := hq
  exact kk H1 locs1 hR2.1 hz (fun k h1 h2 => hk k h1 (fun h => h2 (hA1 k h))) hS1
end LXM
