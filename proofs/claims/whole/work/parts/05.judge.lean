/-! ===== the judgement: a frame of a method, told by its numbers, comes to its end ===== -/
def ax_T : List Cond := lw_tbl.filter goodWord
theorem ax_T_mem {w : Cond} (h : w ∈ lw_tbl) (hg : goodWord w = true) : w ∈ ax_T := List.mem_filter.mpr ⟨h, hg⟩
theorem ax_T_good {w : Cond} (h : w ∈ ax_T) : (w.onTables && w.keeps) = true ∨ ∃ ty, w = .arrayClass ty := good_of_word (List.mem_filter.mp h).2
theorem ax_good {c0 c : Cond} (h : c ∈ ax_T) : GoodIn (c0 :: ax_T) (c :: ax_T) := by
  intro w hw
  rcases List.mem_cons.mp hw with e | h1
  · subst e
    exact ⟨List.mem_cons_of_mem _ h, ax_T_good h⟩
  · exact ⟨List.mem_cons_of_mem _ h1, ax_T_good h1⟩
def ax_isN : Cond → Bool
  | .fieldLinkNest .. => true
  | .methodLinkNest .. => true
  | _ => false
/-- constant rows of numbers -/
def ax_cs : List (String × List Int) := [("LEAST_LIMIT", [1, 0, 1]), ("MOST_LIMIT", [3, 2, 9]), ("MOST_HEARD_V", [4, 9, 4, 5])]
/-- constant texts: their signs -/
def ax_tx : List (List Int) := [[100, 102, 119, 99, 108, 115], [60, 62, 61], [43, 45], [42, 47], [113, 108, 104, 109, 99, 119], [48, 49]]
/-- where they stand in pools -/
def ax_tr : List (String × Nat × Nat × String) := [("FlashFolio$Rule", 62, 0, "dfwcls"), ("FlashFolioModel", 87, 0, "dfwcls"), ("FlashFolioModel", 96, 1, "<>="), ("FlashFolioModel", 98, 2, "+-"), ("FlashFolioModel", 100, 3, "*/"), ("FlashFolioModel", 400, 4, "qlhmcw"), ("FlashFolioModel", 402, 5, "01"), ("FlashFolio", 79, 6, "no such block"), ("FlashFolio", 100, 7, "no such thing of a block"), ("FlashFolio", 102, 8, "no such leaf"), ("FlashFolio", 108, 9, "an empty leaf"), ("FlashFolio", 119, 10, "no such thing of a leaf"), ("FlashFolio", 311, 11, "no such number of the row")]
/-- what is there from the start, and stays: nest words, constant rows, constant texts -/
def ax_N (L : ax_L) (X : ax_X) (U : State) (H : Heap) : Prop :=
  (∀ w ∈ lw_tbl, ax_isN w = true → va_Nw w U) ∧
  (∀ j q, ax_cs[j]? = some q → va_Z "FlashFolio" q.1 "[I" (.ref (X.1 (1000 + j))) (ax_A L X) U H ∧ va_T .int (X.1 (1000 + j)) q.2.length (fun i => .int (Int32.ofInt (q.2.getD i 0))) (ax_A L X) U H) ∧
  vk_S 6 (ax_tx.map List.length) (ax_tx.map (fun r => r.map Int32.ofInt)) (fun i => X.1 (2000 + i)) (fun i => X.1 (3000 + i)) (ax_A L X) U H ∧
  (∀ q ∈ ax_tr, vk_R q.1 q.2.1 q.2.2.2 (X.1 (2000 + q.2.2.1)) U) ∧
  va_Z "java/lang/String" "COMPACT_STRINGS" "Z" (.int 1) (ax_A L X) U H ∧
  (va_Z "jdk/internal/util/Preconditions" "SIOOBE_FORMATTER" "Ljava/util/function/BiFunction;" .null (ax_A L X) U H ∨ va_Z "jdk/internal/util/Preconditions" "SIOOBE_FORMATTER" "Ljava/util/function/BiFunction;" (.ref (X.1 6000)) (ax_A L X) U H) ∧
  vx_Zq Bundle.tN "UNASSIGNED_STACK" Bundle.steD (ax_A L X) U H ∧
  vx_Zq Bundle.tN "SUPPRESSED_SENTINEL" Bundle.listD (ax_A L X) U H
theorem ax_N.warm {L : ax_L} {X : ax_X} {s U : State} {H : Heap} {H1 : Heap} (h : ax_N L X s H) (hW : s.WarmedH U.vm) (hq : ∀ a : Nat, a < H.size → ¬ ax_A L X a → H1[a]? = H[a]?) (hz : H.size ≤ H1.size) : ax_N L X U H1 := by
  obtain ⟨h1, h2, h3, h4, h5, h6, h7, h8⟩ := h
  have hvm := hW.alike
  refine ⟨fun w hw hn => ?_, fun j q hj => ?_, (h3.moved hvm).kept hq, fun q hq' => (h4 q hq').warm hW, (h5.moved hvm).kept hq, h6.imp (fun h => (h.moved hvm).kept hq) (fun h => (h.moved hvm).kept hq), (h7.moved hvm).kept hq, (h8.moved hvm).kept hq⟩
  · have h := h1 w hw hn
    cases w <;> first | exact va_Nw.warmF hW h | exact va_Nw.warmM hW h | cases hn
  · obtain ⟨a1, a2⟩ := h2 j q hj
    exact ⟨(a1.moved hvm).kept hq, (va_T.moved hvm a2).kept hq⟩
abbrev ax_rm (d : Nat) : Room := { frames := d, cells := 0, slots := 0, locals := 64 * d }
abbrev ax_own (G : ax_G) : String := G.1.cls
abbrev ax_cc (G : ax_G) : ByteArray := G.2.1
abbrev ax_nL (G : ax_G) : Nat := G.2.2.1
abbrev ax_ret (G : ax_G) : Option FieldType := G.2.2.2.1
abbrev ax_kk (G : ax_G) : ax_K := G.2.2.2.2
abbrev ax_word (G : ax_G) : Cond := .code G.1 (ax_cc G) (ax_nL G) (ax_ret G)
def ax_C (L : ax_L) (G : ax_G) (X : ax_X) (p : Program) (s : State) (m : MethodId) (args : Array Value) (meth : Method) (c : Code) : Prop :=
  p.tables.exec = Jvm.exec ∧ c.code = ax_cc G ∧ meth.sig.returnType = ax_ret G ∧ c.maxLocals = ax_nL G ∧ s.vm.findClass (ax_own G) = some m.cls ∧ (∀ w ∈ ax_word G :: ax_T, w.before args s = true) ∧ meth.locks = false ∧ ax_N L X s s.heap
def ax_lv (X : ax_X) (lc : List (Nat × ax_V)) : List (Nat × Value) := lc.map (fun q => (q.1, ax_vl X q.2))
def ax_oks (L : ax_L) (lc : List (Nat × ax_V)) (st : List ax_V) : Prop := (∀ q ∈ lc, ax_ok L q.2) ∧ ∀ v ∈ st, ax_ok L v
def ax_okr (L : ax_L) (r : Option ax_V) : Prop := ∀ v, r = some v → ax_ok L v
def ax_Q (L : ax_L) (X : ax_X) (Q : Option ax_V → ax_M → Prop) : Array Value → State → Outcome → State → Prop := fun _ st oc t =>
  (∃ r M, oc = .returned (r.map (ax_vl X)) ∧ Q r M ∧ ax_okr L r ∧ ax_R L X M t t.heap) ∧ va_F (ax_A L X) st t
def ax_W (L : ax_L) (G : ax_G) (d : Nat) (pc : Nat) (lc : List (Nat × ax_V)) (st : List ax_V) (M : ax_M) (Q : Option ax_V → ax_M → Prop) : Prop :=
  ∀ (p : Program) (l : Launch) (e : Env) (s : State) (m : MethodId) (args : Array Value) (below : List Frame) (meth : Method) (c : Code) (X : ax_X) (H : Heap) (locs : List Loc) (ls : Array Slot),
    ax_C L G X p s m args meth c → lv_has ls (ax_nL G) (ax_lv X lc) → ax_oks L lc st → ax_R L X M s H → va_S (ax_A L X) s.heap H locs →
    W p l e (ax_rm d) s m args below meth c H locs 0 0 (MQ below (ax_Q L X Q) args s 0 0 (ax_A L X)) (F0 m pc ls (st.map (ax_vl X)))
/-- a method by its contract: with these arguments, over this memory, it comes back with Q -/
def ax_Met (L : ax_L) (G : ax_G) (d : Nat) (av : List ax_V) (M : ax_M) (Q : Option ax_V → ax_M → Prop) : Prop :=
  ∀ (l : Launch) (X : ax_X), (∀ v ∈ av, ax_ok L v) → Met l G.1 (ax_word G :: ax_T) (ax_rm d) (va_Pc (av.map (ax_vl X)) (fun U => ax_R L X M U U.heap ∧ ax_N L X U U.heap)) (ax_Q L X Q) 0 0 (ax_A L X)
def ax_args : Nat → List ax_V → List (Nat × ax_V)
  | _, [] => []
  | i, v :: vs => (i, v) :: ax_args (if v.1 = 1 then i + 2 else i + 1) vs
theorem ax_cat (X : ax_X) (v : ax_V) : (ax_vl X v).category = if v.1 = 1 then 2 else 1 := by
  obtain ⟨k, a, n⟩ := v
  unfold ax_vl
  split <;> simp_all [Value.category]
theorem ax_args_eq (X : ax_X) : ∀ (av : List ax_V) (i : Nat), lv_args i (av.map (ax_vl X)) = ax_lv X (ax_args i av) := by
  intro av
  induction av with
  | nil => intro i; rfl
  | cons v vs ih =>
    intro i
    simp only [List.map_cons, lv_args, ax_args, ax_lv, ax_cat]
    by_cases h : v.1 = 1
    · simp [h, ih, ax_lv]
    · simp [h, ih, ax_lv]
theorem ax_R.moved {L : ax_L} {X : ax_X} {M : ax_M} {u U : State} {H : Heap} (hvm : u.vm.Alike U.vm) (h : ax_R L X M u H) : ax_R L X M U H := ⟨h.1, va_K.moved hvm h.2.1, h.2.2⟩
theorem ax_args_ok {L : ax_L} : ∀ (av : List ax_V) (i : Nat), (∀ v ∈ av, ax_ok L v) → ∀ q ∈ ax_args i av, ax_ok L q.2 := by
  intro av
  induction av with
  | nil => intro i _ q hq; cases hq
  | cons v vs ih =>
    intro i h q hq
    rcases List.mem_cons.mp hq with e | h1
    · subst e; exact h v List.mem_cons_self
    · exact ih _ (fun w hw => h w (List.mem_cons_of_mem _ hw)) q h1
/-- a method's contract out of the walk of its body -/
theorem ax_body {L : ax_L} {G : ax_G} {d : Nat} {av : List ax_V} {M : ax_M} {Q : Option ax_V → ax_M → Prop} (hy : plainName G.1.cls = true) (hn : ∀ X, (lg_sl (av.map (ax_vl X))).length ≤ ax_nL G)
    (k : (∀ v ∈ av, ax_ok L v) → ax_W L G d 0 (ax_args 0 av) [] M Q) : ax_Met L G d av M Q := by
  intro l X hok
  refine Met.ofW (cc := ax_cc G) (maxL := ax_nL G) (ret := ax_ret G) hy rfl ?_
  intro p e s m args below meth c s₁ B hml hv
  obtain ⟨rfl, hR, hN⟩ := hv
  have hl := lv_entry (av.map (ax_vl X)) (n := ax_nL G) (hn X)
  rw [lg_entry_eq]
  generalize (lg_sl (av.map (ax_vl X)) ++ List.replicate (ax_nL G - (lg_sl (av.map (ax_vl X))).length) Slot.unset).toArray = ls at hl ⊢
  rw [ax_args_eq] at hl
  exact k hok p l e s m _ below meth c X s.heap [] ls ⟨B.exec, B.bytes, B.returns, hml, findClass_of_methodNamed B.named, atoms_spec (ws := ax_word G :: ax_T) B.pre, B.notSynchronized, hN⟩ hl ⟨ax_args_ok av 0 hok, fun v hv => by cases hv⟩ hR va_S.rf
