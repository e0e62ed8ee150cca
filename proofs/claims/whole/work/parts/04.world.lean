/-! ===== the world: all cells of a system, one memory ===== -/
def ax_fs3 : List (Nat × Nat × Nat) := [(0,2,0),(0,25,0),(4,24,1),(3,80,2),(0,81,0),(0,81,0),(0,81,0),(0,5,0),(3,80,3),(3,80,4),(0,81,0),(0,81,0),(3,80,5),(3,6,6),(3,274,7),(3,274,8),(3,400,9),(3,400,10),(3,400,11),(3,400,12),(0,401,0),(0,16,0),(0,6,0),(8,0,0),(0,10,0),(3,2466,13),(0,0,0),(0,0,0),(3,80,14),(3,80,15),(3,80,16),(0,81,0),(0,13,0),(3,12,17),(3,12,18),(0,0,0),(3,80,19),(6,2,20),(3,548,21)]
def ax_LM : ax_L := [(2,3),(4,24),(3,80),(3,80),(3,80),(3,80),(3,6),(3,274),(3,274),(3,400),(3,400),(3,400),(3,400),(3,2466),(3,80),(3,80),(3,80),(3,12),(3,12),(3,80),(6,2),(3,548)]
/-- the fields of a class: kind (0 int, 8 boolean, 2 object, 3 int[], 4 long[], 5 char[], 6 boolean[], 9 an object of class aux at a slot that the memory names), aux (class, length), how far its slot lies behind the object's -/
def ax_fs : Nat → List (Nat × Nat × Nat)
  | 0 => [(3,64,1),(3,64,2),(3,64,3),(3,16,4),(3,16,5),(3,16,6),(3,24,7),(3,3,8),(3,7,9),(3,7,10),(3,6,11),(0,0,0),(0,0,0),(8,0,0),(0,64,0),(0,6,0),(0,2,0),(0,16,0)]
  | 1 => [(3,40,1),(0,41,0),(3,40,2),(0,41,0),(8,0,0),(0,5,0),(0,0,0),(0,4,0)]
  | 2 => [(2,0,1),(2,0,13),(3,2466,25),(0,9,0),(0,9,0),(3,548,26),(6,2,27),(9,1,0),(9,1,0),(5,80,34),(0,81,0),(4,12,35),(0,13,0),(3,12,36),(3,12,37),(0,13,0),(0,0,0)]
  | 3 => ax_fs3
  | _ => []
def ax_LC : ax_L := [(2,2),(2,0),(3,64),(3,64),(3,64),(3,16),(3,16),(3,16),(3,24),(3,3),(3,7),(3,7),(3,6),(2,0),(3,64),(3,64),(3,64),(3,16),(3,16),(3,16),(3,24),(3,3),(3,7),(3,7),(3,6),(3,2466),(3,548),(6,2),(2,1),(3,40),(3,40),(2,1),(3,40),(3,40),(5,80),(4,12),(3,12),(3,12)]
def ax_fv (X : ax_X) (k : Nat) (q : Nat × Nat × Nat) (n : Int) : Value :=
  if q.1 = 0 ∨ q.1 = 8 then .int (Int32.ofInt n) else if q.1 = 9 then .ref (X.1 n.toNat) else .ref (X.1 (k + q.2.2))
def ax_fl (X : ax_X) (k : Nat) (fs : List (Nat × Nat × Nat)) (g : Nat → Int) : List Value := (List.range fs.length).map (fun f => ax_fv X k (fs.getD f (0,0,0)) (g f))
def ax_cell (X : ax_X) (k : Nat) (d : Nat × Nat) (g : Nat → Int) : va_E :=
  if d.1 = 2 then .inr (d.2, ax_fl X k (ax_fs d.2) g)
  else if d.1 = 4 then .inl (X.2.1 4, d.2, .inr (.inl (fun i => Int64.ofInt (g i))))
  else .inl (X.2.1 d.1, d.2, .inl (fun i => Int32.ofInt (g i)))
def ax_ws (L : ax_L) (X : ax_X) (M : ax_M) : va_W := (List.range L.length).map (fun k => (X.1 k, ax_cell X k (L.getD k (0,0)) (M k)))
def ax_tys (X : ax_X) : List (ClassId × FieldType) := [(X.2.1 3, .int), (X.2.1 4, .long), (X.2.1 5, .char), (X.2.1 6, .boolean)]
def ax_fok (L : ax_L) (q : Nat × Nat × Nat) (n : Int) : Prop :=
  if q.1 = 0 then ax_r32 n ∧ (q.2.1 ≠ 0 → 0 ≤ n ∧ n < q.2.1) else if q.1 = 8 then 0 ≤ n ∧ n ≤ 1 else if q.1 = 9 then 0 ≤ n ∧ L[n.toNat]? = some (2, q.2.1) else True
def ax_cok (L : ax_L) (d : Nat × Nat) (g : Nat → Int) : Prop :=
  if d.1 = 2 then ∀ f q, (ax_fs d.2)[f]? = some q → ax_fok L q (g f)
  else if d.1 = 4 then ∀ i, ax_r64 (g i)
  else if d.1 = 5 then ∀ i, 0 ≤ g i ∧ g i ≤ 65535
  else if d.1 = 6 then ∀ i, 0 ≤ g i ∧ g i ≤ 1
  else ∀ i, ax_r32 (g i)
def ax_can (L : ax_L) (M : ax_M) : Prop := ∀ k d, L[k]? = some d → ax_cok L d (M k)
def ax_A (L : ax_L) (X : ax_X) : Nat → Prop := fun q => ∃ k, k < L.length ∧ q = X.1 k
def ax_R (L : ax_L) (X : ax_X) (M : ax_M) (U : State) (H : Heap) : Prop :=
  va_P X.2.2 vwCl (ax_ws L X M) H ∧ va_K X.2.2 vwCl (ax_tys X) U ∧ va_D (ax_A L X) (ax_ws L X M) ∧ ax_can L M
/-- object fields that are rows or objects lie where the layout says -/
def ax_lay (L : ax_L) : Prop := ∀ k c, L[k]? = some (2, c) → ∀ q ∈ ax_fs c, (q.1 = 2 ∨ q.1 = 3 ∨ q.1 = 4 ∨ q.1 = 5 ∨ q.1 = 6) → L[k + q.2.2]? = some (q.1, q.2.1)
def ax_layB (L : ax_L) : Bool := (List.range L.length).all fun k => match L[k]? with
  | some (2, c) => (ax_fs c).all fun q => !(q.1 == 2 || q.1 == 3 || q.1 == 4 || q.1 == 5 || q.1 == 6) || L[k + q.2.2]? == some (q.1, q.2.1)
  | _ => true
theorem ax_lay_of {L : ax_L} (h : ax_layB L = true) : ax_lay L := by
  intro k c hk q hq hr
  have hlt : k < L.length := by
    rcases Nat.lt_or_ge k L.length with h1 | h1
    · exact h1
    · rw [List.getElem?_eq_none h1] at hk; cases hk
  have h1 := List.all_eq_true.mp h k (List.mem_range.mpr hlt)
  rw [hk] at h1
  have h2 := List.all_eq_true.mp h1 q hq
  simp only [Bool.or_eq_true, Bool.not_eq_true', beq_iff_eq] at h2
  rcases h2 with h2 | h2
  · simp only [Bool.or_eq_false_iff, beq_eq_false_iff_ne] at h2
    rcases hr with h | h | h | h | h <;> simp [h] at h2
  · exact h2
theorem ax_layC : ax_lay ax_LC := ax_lay_of (by decide +kernel)
theorem ax_layM : ax_lay ax_LM := ax_lay_of (by decide +kernel)
def ax_up (M : ax_M) (s i : Nat) (v : Int) : ax_M := fun s' i' => if s' = s ∧ i' = i then v else M s' i'
theorem ax_up_ne {M : ax_M} {s i k : Nat} {v : Int} (h : k ≠ s) : ax_up M s i v k = M k := by
  funext j
  simp [ax_up, h]
theorem ax_up_at {M : ax_M} {s i : Nat} {v : Int} : ax_up M s i v s = fun j => if j = i then v else M s j := by
  funext j
  simp [ax_up]
theorem ax_getD {α : Type} {l : List α} {k : Nat} {a d : α} (h : l[k]? = some a) : l.getD k d = a := by
  rw [List.getD_eq_getElem?_getD, h]; rfl
theorem ax_ltL {α : Type} {l : List α} {k : Nat} {a : α} (h : l[k]? = some a) : k < l.length := by
  rcases Nat.lt_or_ge k l.length with h1 | h1
  · exact h1
  · rw [List.getElem?_eq_none h1] at h; cases h
theorem ax_ws_get {L : ax_L} {X : ax_X} {M : ax_M} {k : Nat} {d : Nat × Nat} (h : L[k]? = some d) : (ax_ws L X M)[k]? = some (X.1 k, ax_cell X k d (M k)) := by
  have hlt := ax_ltL h
  obtain ⟨_, e⟩ := List.getElem?_eq_some_iff.mp h
  simp [ax_ws, hlt, e]
theorem ax_ws_set {L : ax_L} {X : ax_X} {M : ax_M} {s i : Nat} {v : Int} {d : Nat × Nat} (h : L[s]? = some d) :
    (ax_ws L X M).set s (X.1 s, ax_cell X s d (ax_up M s i v s)) = ax_ws L X (ax_up M s i v) := by
  have hlt := ax_ltL h
  apply List.ext_getElem?
  intro j
  rw [List.getElem?_set]
  by_cases hj : s = j
  · subst hj
    have hlen : s < (ax_ws L X M).length := by simp [ax_ws, hlt]
    rw [if_pos rfl, if_pos hlen, ax_ws_get h]
  · rw [if_neg hj]
    by_cases hjl : j < L.length
    · have hq : L[j]? = some L[j] := List.getElem?_eq_getElem hjl
      rw [ax_ws_get hq, ax_ws_get hq, ax_up_ne (fun e => hj e.symm)]
    · have h1 : (ax_ws L X M)[j]? = none := List.getElem?_eq_none (by simp [ax_ws]; omega)
      have h2 : (ax_ws L X (ax_up M s i v))[j]? = none := List.getElem?_eq_none (by simp [ax_ws]; omega)
      rw [h1, h2]
theorem ax_fl_get {X : ax_X} {k f : Nat} {fs : List (Nat × Nat × Nat)} {g : Nat → Int} {q : Nat × Nat × Nat} (h : fs[f]? = some q) : (ax_fl X k fs g)[f]? = some (ax_fv X k q (g f)) := by
  have hlt := ax_ltL h
  obtain ⟨_, e⟩ := List.getElem?_eq_some_iff.mp h
  simp [ax_fl, hlt, e]
theorem ax_fl_len {X : ax_X} {k : Nat} {fs : List (Nat × Nat × Nat)} {g : Nat → Int} : (ax_fl X k fs g).length = fs.length := by simp [ax_fl]
theorem ax_fl_set {X : ax_X} {k f : Nat} {fs : List (Nat × Nat × Nat)} {g : Nat → Int} {q : Nat × Nat × Nat} {v : Int} (h : fs[f]? = some q) :
    (ax_fl X k fs g).set f (ax_fv X k q v) = ax_fl X k fs (fun j => if j = f then v else g j) := by
  have hlt := ax_ltL h
  apply List.ext_getElem?
  intro j
  rw [List.getElem?_set]
  by_cases hj : f = j
  · subst hj
    rw [if_pos rfl, if_pos (by rw [ax_fl_len]; exact hlt), ax_fl_get h]
    simp
  · rw [if_neg hj]
    by_cases hjl : j < fs.length
    · have hq : fs[j]? = some fs[j] := List.getElem?_eq_getElem hjl
      rw [ax_fl_get hq, ax_fl_get hq, if_neg (fun e => hj e.symm)]
    · have h1 : (ax_fl X k fs g)[j]? = none := List.getElem?_eq_none (by rw [ax_fl_len]; omega)
      have h2 : (ax_fl X k fs (fun j => if j = f then v else g j))[j]? = none := List.getElem?_eq_none (by rw [ax_fl_len]; omega)
      rw [h1, h2]
