/-! ===== the law: calls, what it holds between calls ===== -/
theorem ax_R.kept {L : ax_L} {X : ax_X} {M : ax_M} {s : State} {H H1 : Heap} {A1 : Nat → Prop} (h : ax_R L X M s H) (hk : ∀ q : Nat, q < H.size → ¬ A1 q → H1[q]? = H[q]?) (hd : ∀ q, ax_A L X q → ¬ A1 q) : ax_R L X M s H1 :=
  ⟨h.1.kept (fun k q hq => hk _ ((h.1 k q hq).lt) (hd _ (h.2.2.1.2 k q hq))), h.2.1, h.2.2.1, h.2.2.2⟩
section MXC
variable {p : Program} {l : Launch} {e : Env} {R : Room} {s : State} {m : MethodId} {args : Array Value} {below : List Frame} {meth : Method} {c' : Code} {H H0 : Heap} {locs : List Loc} {cells slots : Nat} {Q : State → Prop}
variable {cc : ByteArray} {pc : Nat} {ls : Array Slot} {rest : List Value} {A : Nat → Prop}
/-- a call of a method told by its memory, its object at the layout's first place -/
theorem mx_callV {L : ax_L} {X : ax_X} {M : ax_M} {G1 : ax_G} {d1 i c N n nL n0 : Nat} {as : List ax_V} {C own : String} {T : u_T} {ty : Nat → FieldType} {c0 : Cond} {Ts : List Cond} {ad : Nat → Nat} {Q1 : Option ax_V → ax_M → Prop} (hTs : Ts = c0 :: ax_T) (hfix : CallFix p m c' cc nL s args Ts own) (hd : decode cc pc = .ok (.invokevirtual i, 3)) (hcl : ax_cls c C T N ty) (hcal : ax_cal G1 n) (hdd : d1 + 1 ≤ R.frames) (hdl : 64 + 64 * d1 ≤ R.locals) (hn : as.length = n)
    (hw1 : Cond.methodLink own i G1.1 ∈ ax_T) (hw2 : Cond.instanceMethod G1.1 ∈ ax_T) (hw3 : Cond.selects C G1.1 G1.1 ∈ ax_T) (hwd : (rest.map fun v => v.category).sum ≤ 8) (hM : ax_Met L G1 d1 ((2, c, 0) :: as) M Q1) (h0 : L[0]? = some (2, c)) (hok : ∀ v ∈ as, ax_ok L v) (hR : ax_R L X M s H) (hN : lx_N (fun q => n0 ≤ q) ad s H) (hAn : ∀ q, ax_A L X q → n0 ≤ q) (hX : ∀ k, 1000 ≤ k → X.1 k = ad k)
    (hS : va_S A H0 H locs) (hAA : ∀ q, ax_A L X q → A q) (hsz : ls.size = nL) (hc : cells ≤ R.cells ∧ slots ≤ R.slots)
    (kk : ∀ (r : Option ax_V) (M1 : ax_M) (H1 : Heap) (locs1 : List Loc), Q1 r M1 → ax_okr L r → ax_R L X M1 s H1 → H.size ≤ H1.size → (∀ q : Nat, q < H.size → ¬ ax_A L X q → H1[q]? = H[q]?) → va_S A H0 H1 locs1 → W p l e R s m args below meth c' H1 locs1 cells slots Q (F0 m (pc + 3) ls ((r.map (ax_vl X)).toList ++ rest))) :
    W p l e R s m args below meth c' H locs cells slots Q (F0 m pc ls ((as.map (ax_vl X)).reverse ++ .ref (X.1 0) :: rest)) := by
  subst hTs
  have hts := hfix.2.2.2.2
  have hm := hM l X (fun v hv => by
    rcases List.mem_cons.mp hv with e | h
    · subst e; exact ⟨Int.le_refl _, h0⟩
    · exact hok v h)
  have hcw : CallW R s args own C i G1.1 (ax_cc G1) (ax_nL G1) (ax_ret G1) (ax_word G1 :: ax_T) (ax_rm d1) 0 0 n :=
    ⟨callB_of n hts (ax_good hcal.1) rfl rfl rfl (hts _ (List.mem_cons_of_mem _ hcal.2.1)) (hts _ (List.mem_cons_of_mem _ hw1)) hcal.2.2.1 ⟨hdd, by have := hcal.2.2.2; show 8 + (ax_nL G1 + 11) + 64 * d1 ≤ R.locals; omega⟩, hts _ (List.mem_cons_of_mem _ hw2), hts _ (List.mem_cons_of_mem _ hw3)⟩
  have hpre : PreV s H C (X.1 0) (va_Pc (((2, c, 0) :: as).map (ax_vl X)) (fun U => ax_R L X M U U.heap ∧ ax_N L X U U.heap)) (as.map (ax_vl X)) :=
    ⟨ax_blind, ax_recv (a := 0) hcl hR h0, fun U hU hW => ⟨rfl, by rw [hU]; exact hR.moved hW.alike, by rw [hU]; exact (hN.warm hW (fun _ _ _ => rfl)).of hAn hX⟩⟩
  have hrun := va_runV (g := F0 m pc ls ((as.map (ax_vl X)).reverse ++ .ref (X.1 0) :: rest)) (As := as.map (ax_vl X)) (rest := rest) (H := H) (locs := locs) (cells := cells) (slots := slots) (below := below) (meth := meth) (e := e) (n := n) hfix hm hcw hpre rfl (by rw [List.length_map]; exact hn) hsz rfl (lv_room hwd) hd ⟨hc.1, hc.2⟩
  exact mx_go hrun hS hAA kk
end MXC
/-- what the law holds: both objects, the row of one long, what is there from the start -/
def lw_J (n0 : Nat) (cls : Nat → ClassId) (D : va_G) (ad u v : Nat → Nat) (qo : Nat) (Mc Mm : ax_M) (g : Nat → Int64) (s : State) (H : Heap) : Prop :=
  ax_R ax_LC (u, cls, D) Mc s H ∧ ax_R ax_LM (v, cls, D) Mm s H ∧ va_P D vwCl [(qo, .inl (cls 4, 1, .inr (.inl g)))] H ∧ lx_N (fun q => n0 ≤ q) ad s H ∧
  (∀ q, ax_A ax_LC (u, cls, D) q → n0 ≤ q ∧ ¬ ax_A ax_LM (v, cls, D) q ∧ q ≠ qo) ∧ (∀ q, ax_A ax_LM (v, cls, D) q → n0 ≤ q ∧ q ≠ qo) ∧ n0 ≤ qo ∧ (∀ k, 1000 ≤ k → u k = ad k) ∧ ∀ k, 1000 ≤ k → v k = ad k
section LWJ
variable {n0 qo : Nat} {cls : Nat → ClassId} {D : va_G} {ad u v : Nat → Nat} {Mc Mm M1 : ax_M} {g : Nat → Int64} {s : State} {H H1 : Heap}
theorem lw_J.outK (hJ : lw_J n0 cls D ad u v qo Mc Mm g s H) {A1 : Nat → Prop} (hk : ∀ q : Nat, q < H.size → ¬ A1 q → H1[q]? = H[q]?) (hq : ¬ A1 qo) : va_P D vwCl [(qo, .inl (cls 4, 1, .inr (.inl g)))] H1 :=
  hJ.2.2.1.kept (fun k x hx => by
    have h1 := List.mem_of_getElem? hx
    have h2 := (hJ.2.2.1 k x hx).lt
    simp only [List.mem_cons, List.not_mem_nil, or_false] at h1
    subst h1
    exact hk _ h2 hq)
theorem lw_J.nK (hJ : lw_J n0 cls D ad u v qo Mc Mm g s H) {A1 : Nat → Prop} (hk : ∀ q : Nat, q < H.size → ¬ A1 q → H1[q]? = H[q]?) (hA : ∀ q, A1 q → n0 ≤ q) : lx_N (fun q => n0 ≤ q) ad s H1 :=
  hJ.2.2.2.1.warm (State.WarmedH.refl s) (fun q h1 h2 => hk q h1 (fun h => h2 (hA q h)))
theorem lw_J.c (hJ : lw_J n0 cls D ad u v qo Mc Mm g s H) (hR : ax_R ax_LC (u, cls, D) M1 s H1) (hk : ∀ q : Nat, q < H.size → ¬ ax_A ax_LC (u, cls, D) q → H1[q]? = H[q]?) : lw_J n0 cls D ad u v qo M1 Mm g s H1 :=
  ⟨hR, hJ.2.1.kept hk (fun q h1 h2 => (hJ.2.2.2.2.1 q h2).2.1 h1), hJ.outK hk (fun h => (hJ.2.2.2.2.1 _ h).2.2 rfl), hJ.nK hk (fun q h => (hJ.2.2.2.2.1 q h).1), hJ.2.2.2.2⟩
theorem lw_J.m (hJ : lw_J n0 cls D ad u v qo Mc Mm g s H) (hR : ax_R ax_LM (v, cls, D) M1 s H1) (hk : ∀ q : Nat, q < H.size → ¬ ax_A ax_LM (v, cls, D) q → H1[q]? = H[q]?) : lw_J n0 cls D ad u v qo Mc M1 g s H1 :=
  ⟨hJ.1.kept hk (fun q h1 h2 => (hJ.2.2.2.2.1 q h1).2.1 h2), hR, hJ.outK hk (fun h => (hJ.2.2.2.2.2.1 _ h).2 rfl), hJ.nK hk (fun q h => (hJ.2.2.2.2.2.1 q h).1), hJ.2.2.2.2⟩
end LWJ
/-- a public method of both, told by answers: the same answer, the pair again -/
def lw_ok (n : Nat) (C D : Int) (G1 G2 : ax_G) (xs : List Int) : Prop := ax_cal G1 n ∧ ax_cal G2 n ∧ xs.length = n ∧ ∀ Mc Mm : ax_M, ax_can ax_LC Mc → ax_can ax_LM Mm → pr_G C Mc Mm → ∃ (v : Int) (Nc Nm : ax_M) (d1 d2 : Nat) (Q1 Q2 : Option ax_V → ax_M → Prop), d1 ≤ 1000 ∧ d2 ≤ 1000 ∧ ax_Met ax_LC G1 d1 ((2, 2, 0) :: xs.map (fun x => (0, 0, x))) Mc Q1 ∧ ax_Met ax_LM G2 d2 ((2, 3, 0) :: xs.map (fun x => (0, 0, x))) Mm Q2 ∧ (∀ r M1, Q1 r M1 → r = some (0, 0, v) ∧ M1 = Nc) ∧ (∀ r M1, Q2 r M1 → r = some (0, 0, v) ∧ M1 = Nm) ∧ pr_G D Nc Nm
def lw_c0 : Cond := Cond.initialized "FlashFolio"
theorem lw_i0 {x : Int32} : Int32.ofInt x.toInt = x := Int32.ofInt_toInt x
/-- decoded: script[i + j] for each j -/
def lw_dj (pc : Nat) : List Nat → Bool
  | [] => true
  | j :: js => decide (decode code pc = .ok (.aload_n 0, 1)) && decide (decode code (pc + 1) = .ok (.iload 4, 2)) && decide (decode code (pc + 3) = .ok (.iconst (j : Int), 1)) && decide (decode code (pc + 4) = .ok (.iadd, 1)) && decide (decode code (pc + 5) = .ok (.iaload, 1)) && lw_dj (pc + 6) js
section LWL
variable {p : Program} {l : Launch} {e : Env} {s : State} {m : MethodId} {below : List Frame} {meth : Method} {c : Code} {b L : Nat} {xs : Nat → Int32} {H : Heap} {locs : List Loc} {cells slots : Nat} {Q : State → Prop} {ls : Array Slot} {rest : List Value}
theorem lw_ix {i j : Nat} (hi : i + 5 ≤ L) (hL : L ≤ 2560) (hj : j ≤ 4) : vp_in (Int32.ofNat i + Int32.ofInt (j : Int)) L ∧ (Int32.ofNat i + Int32.ofInt (j : Int)).toNatClampNeg = i + j := by
  have e : Int32.ofNat i + Int32.ofInt (j : Int) = Int32.ofNat (i + j) := by
    rw [show Int32.ofInt (j : Int) = Int32.ofNat j from rfl, ← Int32.ofNat_add]
  have e2 : (Int32.ofNat (i + j)).toNatClampNeg = i + j := Int32.toNatClampNeg_ofNat_of_lt (by omega)
  rw [e]
  refine ⟨?_, e2⟩
  rintro (h | h)
  · have h0 : (0 : Int32) ≤ Int32.ofNat (i + j) := by
      have : Int32.ofNat 0 ≤ Int32.ofNat (i + j) := (Int32.ofNat_le_ofNat (by decide) (by omega)).mpr (Nat.zero_le _)
      exact this
    exact absurd h (Int32.not_lt.mpr h0)
  · rw [e2] at h
    omega
theorem lw_load (C0 : lw_At p s m meth c b L xs) (hL : L ≤ 2560) {i : Nat} (hi : i + 5 ≤ L) {lv : List (Nat × Value)} (hl : lv_has ls 8 ((4, .int (Int32.ofNat i)) :: (0, .ref b) :: lv)) (hS : va_S (fun q => s.heap.size ≤ q) s.heap H locs) : ∀ (js : List Nat) (pc : Nat) (rest : List Value), (∀ j ∈ js, j ≤ 4) → lw_dj pc js = true →
    W p l e room_1 s m #[Value.ref b] below meth c H locs cells slots Q (F0 m (pc + 6 * js.length) ls ((js.map (fun j => Value.int (xs (i + j)))).reverse ++ rest)) →
    W p l e room_1 s m #[Value.ref b] below meth c H locs cells slots Q (F0 m pc ls rest) := by
  obtain ⟨hx, hb, _, _, _, _, hX, hbl, _, _⟩ := C0
  have hbA : ¬ (s.heap.size ≤ b) := Nat.not_le.mpr hbl
  intro js
  induction js with
  | nil => intro pc rest _ _ k; exact k
  | cons j js ih =>
    intro pc rest hjs hd k
    unfold lw_dj at hd
    simp only [Bool.and_eq_true, decide_eq_true_eq] at hd
    obtain ⟨⟨⟨⟨⟨d1, d2⟩, d3⟩, d4⟩, d5⟩, d6⟩ := hd
    have hj : j ≤ 4 := hjs j List.mem_cons_self
    obtain ⟨hin, hix⟩ := lw_ix hi hL hj
    refine lv_aload_n hx hb d1 rfl (lv_at hl 1 rfl) ?_
    refine lv_iload hx hb d2 (lv_at hl 0 rfl) ?_
    refine lv_iconst (v := Int32.ofInt (j : Int)) hx hb d3 rfl ?_
    refine lv_iadd hx hb d4 ?_
    refine va_sld hx hb hX hbl hbA hS hin d5 ?_
    rw [hix]
    refine ih (pc + 6) (.int (xs (i + j)) :: rest) (fun j' h => hjs j' (List.mem_cons_of_mem _ h)) d6 ?_
    have e1 : pc + 6 + 6 * js.length = pc + 6 * (j :: js).length := by rw [List.length_cons]; omega
    have e2 : (js.map (fun j => Value.int (xs (i + j)))).reverse ++ Value.int (xs (i + j)) :: rest = ((j :: js).map (fun j => Value.int (xs (i + j)))).reverse ++ rest := by simp
    rw [e1, e2]
    exact k
end LWL
