/-! ===== copies, side by side: leaves of a page, by stamp and number ===== -/
def fo_ah (r : fo_R) (p : Int) (l o : Nat) : Bool := decide (r o = p + 1 ∧ (r (128 + l) < r (128 + o) ∨ (r (128 + o) = r (128 + l) ∧ o < l)))
/-- how many are ahead of one -/
def fo_rk (r : fo_R) (p : Int) (l : Nat) : Int := fo_sg (fo_id (fo_ah r p l)) 64
def fo_on (r : fo_R) (p : Int) (l : Nat) : Bool := decide (r l = p + 1)
section PRO
variable {C D : Int} {Mc Mm Nc Nm Zc Zm X Y M : ax_M} {r : fo_R} {p : Int}
theorem fo_sg_le {f g : Nat → Int} : ∀ n, (∀ i, i < n → f i ≤ g i) → fo_sg f n ≤ fo_sg g n := by
  intro n
  induction n with
  | zero => intro _; exact Int.le_refl _
  | succ n ih =>
    intro h
    have a := ih (fun i hi => h i (by omega))
    have b := h n (by omega)
    show fo_sg f n + f n ≤ fo_sg g n + g n
    omega
theorem fo_ah_iff {l o : Nat} : fo_ah r p l o = true ↔ (r o = p + 1 ∧ (r (128 + l) < r (128 + o) ∨ (r (128 + o) = r (128 + l) ∧ o < l))) := by
  unfold fo_ah
  rw [decide_eq_true_eq]
/-- one right behind another has one more ahead -/
theorem fo_rk_next {l m : Nat} (hl : l < 64) (h0 : r l = p + 1) (hlm : fo_ah r p m l = true) (hn : ∀ o, o < 64 → fo_ah r p m o = true → o ≠ l → fo_ah r p l o = true) : fo_rk r p m = fo_rk r p l + 1 := by
  unfold fo_rk
  have h1 := fo_sg_add (f := fo_id (fo_ah r p l)) (g := fun i => if i = l then (1 : Int) else 0) 64
  rw [fo_sg_one, if_pos hl] at h1
  rw [← h1]
  refine fo_sg_congr 64 (fun o ho => ?_)
  unfold fo_id
  have key : fo_ah r p m o = true ↔ (fo_ah r p l o = true ∨ o = l) := by
    constructor
    · intro h
      by_cases e : o = l
      · exact Or.inr e
      · exact Or.inl (hn o ho h e)
    · rintro (h | h)
      · rw [fo_ah_iff] at h hlm ⊢
        refine ⟨h.1, ?_⟩
        omega
      · rw [h]; exact hlm
  have hll : ¬ fo_ah r p l l = true := by
    rw [fo_ah_iff]
    omega
  by_cases e : o = l
  · subst e
    rw [if_pos hlm, if_neg hll, if_pos rfl]
    rfl
  · by_cases h : fo_ah r p m o = true
    · have h' := (key.mp h).resolve_right e
      rw [if_pos h, if_pos h', if_neg e]
      rfl
    · rw [if_neg h, if_neg (fun h' => h (key.mpr (Or.inl h'))), if_neg e]
      rfl
theorem fo_rk_lt {l m : Nat} (hl : l < 64) (hlm : fo_ah r p m l = true) : fo_rk r p l + 1 ≤ fo_rk r p m := by
  unfold fo_rk
  have h1 := fo_sg_add (f := fo_id (fo_ah r p l)) (g := fun i => if i = l then (1 : Int) else 0) 64
  rw [fo_sg_one, if_pos hl] at h1
  rw [← h1]
  refine fo_sg_le 64 (fun o ho => ?_)
  unfold fo_id
  have hll : ¬ fo_ah r p l l = true := by
    rw [fo_ah_iff]
    omega
  by_cases e : o = l
  · subst e
    rw [if_neg hll, if_pos rfl, if_pos hlm]
    decide
  · rw [if_neg e]
    by_cases h : fo_ah r p l o = true
    · rw [if_pos h, if_pos (by rw [fo_ah_iff] at h hlm ⊢; exact ⟨h.1, by omega⟩)]
      decide
    · rw [if_neg h]
      split <;> decide
theorem fo_rk_inj {l m : Nat} (hl : l < 64) (hm : m < 64) (h1 : r l = p + 1) (h2 : r m = p + 1) (h : fo_rk r p l = fo_rk r p m) : l = m := by
  by_cases e : l = m
  · exact e
  · have : fo_ah r p m l = true ∨ fo_ah r p l m = true := by
      rw [fo_ah_iff, fo_ah_iff]
      omega
    rcases this with h' | h'
    · have := fo_rk_lt hl h'; omega
    · have := fo_rk_lt hm h'; omega
/-- the leaf with so many ahead -/
theorem fm_copyOf {k : Int} {l : Nat} (h : M 7 = r) (hP : fo_Pg r) (hS : fo_St r) (hp : 0 ≤ p) (hl : l < 64) (h1 : r l = p + 1) (hk : fo_rk r p l = k) : f_X3_copyOf p k M = (l : Int) := by
  have f0 : f_X3_flag 0 M = 0 := rfl
  have f1 : f_X3_flag 1 M = 1 := rfl
  have inner : ∀ (c : Nat) (w3 : Int) (kx : Int → Int), c < 64 → ∀ (n i : Nat) (x : Int), i + n = 64 → f_X3_copyOf_L22 p k w3 (c : Int) M n i x kx = kx (fo_fold (fo_cs (fo_ah r p c)) n i x) := by
    intro c w3 kx hc n
    induction n with
    | zero => intro i x _; rw [fo_fold_z]; rfl
    | succ n ih =>
      intro i x hi
      have hpi := hP i (by omega)
      have si := hS i (by omega)
      have sc := hS c hc
      simp only [f_X3_copyOf_L22, f_X3_copyOf_B22, ax_bd_e]
      rw [fm_pageAt (by rw [fo_t0, h]; exact hpi), fo_t0, fo_t128, fo_t128, h, ax_wr_id (by omega) (by omega), f0, f1, fo_fold_s]
      have ep : fo_ah r p c i = true → fo_cs (fo_ah r p c) i x = x + 1 := fun h => if_pos h
      have en : ¬ fo_ah r p c i = true → fo_cs (fo_ah r p c) i x = x := fun h => if_neg h
      by_cases c1 : r i - 1 ≠ p
      · rw [if_pos c1, ih (i + 1) _ (by omega), en (by rw [fo_ah_iff]; omega), Int.add_zero]
      rw [if_neg c1]
      by_cases c2 : 0 < r (128 + i) - r (128 + c)
      · rw [if_pos c2, ih (i + 1) _ (by omega), ep (by rw [fo_ah_iff]; omega)]
      rw [if_neg c2]
      by_cases c3 : r (128 + i) - r (128 + c) ≠ 0
      · rw [if_pos c3, ih (i + 1) _ (by omega), en (by rw [fo_ah_iff]; omega), Int.add_zero]
      rw [if_neg c3]
      by_cases c4 : (c : Int) ≤ (i : Int)
      · rw [if_pos c4, ih (i + 1) _ (by omega), en (by rw [fo_ah_iff]; omega), Int.add_zero]
      rw [if_neg c4, ih (i + 1) _ (by omega), ep (by rw [fo_ah_iff]; omega)]
  have rk : ∀ c, fo_fold (fo_cs (fo_ah r p c)) 64 0 0 = fo_rk r p c := fun c => by
    have q := fo_cs_sg (c := fo_ah r p c) 64 0 0
    have h0 : ∀ f, fo_sg f 0 = 0 := fun _ => rfl
    rw [h0, Int.add_zero, Int.zero_add, Nat.zero_add] at q
    exact q
  have found : ∀ (n i : Nat), i + n = 64 → f_X3_copyOf_L5 p k M n i (l : Int) (fun z => z) = (l : Int) := by
    intro n
    induction n with
    | zero => intro i _; rfl
    | succ n ih =>
      intro i _
      simp only [f_X3_copyOf_L5, f_X3_copyOf_B5]
      rw [if_pos (show (0 : Int) ≤ (l : Int) by omega)]
  have outer : ∀ (n i : Nat), i + n = 64 → i ≤ l → f_X3_copyOf_L5 p k M n i (-1) (fun z => z) = (l : Int) := by
    intro n
    induction n with
    | zero => intro i _ _; omega
    | succ n ih =>
      intro i hi hil
      have hpi := hP i (by omega)
      simp only [f_X3_copyOf_L5, f_X3_copyOf_B5]
      rw [if_neg (show ¬ ((0 : Int) ≤ -1) by decide), inner i (-1) _ (by omega) 64 0 0 rfl, rk, fm_pageAt (by rw [fo_t0, h]; exact hpi), fo_t0, h]
      by_cases e : i = l
      · subst e
        rw [if_neg (show ¬ (r i - 1 ≠ p) by omega), if_neg (fun h => h hk)]
        exact found n (i + 1) (by omega)
      · by_cases c1 : r i - 1 ≠ p
        · rw [if_pos c1]
          exact ih (i + 1) (by omega) (by omega)
        · have hne : fo_rk r p i ≠ k := fun h' => e (fo_rk_inj (by omega) hl (by omega) h1 (by rw [h', hk]))
          rw [if_neg c1, if_pos hne]
          exact ih (i + 1) (by omega) (by omega)
  exact outer 64 0 rfl (Nat.zero_le _)
/-- the leaf behind another one, in the class -/
theorem fc_copyBehind {last : Int} {ok : Nat → Bool} (h : fo_cr 1 M = r) (hP : fo_Pg r) (hp : 0 ≤ p) (hok : ∀ i, i < 64 → (ok i = true ↔ (r i = p + 1 ∧ (last < 0 ∨ ∃ l : Nat, last = (l : Int) ∧ fo_ah r p i l = true)))) (hlast : last = -1 ∨ ∃ l : Nat, last = (l : Int) ∧ l < 64 ∧ r l = p + 1) :
    f_X0_copyBehind 1 p last M = fo_best ok (fun i v => decide (r (128 + v) < r (128 + i))) 64 := by
  have e1 : ∀ i, i < 64 → M (1 + 1) i = r i - 1 := fun i hi => fr_pg (b := 1) h hi
  have e3 : ∀ i, i < 64 → r i ≠ 0 → M (1 + 3) i = r (128 + i) := fun i hi h0 => fr_st (b := 1) h hi h0
  refine fo_loop (L := fun n i v => f_X0_copyBehind_L5 1 p last M n i v (fun z => z)) (out := fun z => z) (f := fo_bstep ok (fun i v => decide (r (128 + v) < r (128 + i)))) (N := 64) (fun _ v => v = -1 ∨ ∃ m : Nat, v = (m : Int) ∧ m < 64 ∧ r m = p + 1) (fun _ _ => rfl) (fun n i v hi hv => ?_) 64 0 (-1) rfl (Or.inl rfl)
  have hi64 : i < 64 := by omega
  have step : ∀ (x : Int), f_X0_copyBehind_B5 1 p last M i v (fun u => f_X0_copyBehind_L5 1 p last M n (i + 1) u (fun z => z)) (fun z => z) = f_X0_copyBehind_L5 1 p last M n (i + 1) x (fun z => z) → x = fo_bstep ok (fun i v => decide (r (128 + v) < r (128 + i))) i v → (f_X0_copyBehind_L5 1 p last M (n + 1) i v (fun z => z) = f_X0_copyBehind_L5 1 p last M n (i + 1) (fo_bstep ok (fun i v => decide (r (128 + v) < r (128 + i))) i v) (fun z => z) ∧ (fo_bstep ok (fun i v => decide (r (128 + v) < r (128 + i))) i v = -1 ∨ ∃ m : Nat, fo_bstep ok (fun i v => decide (r (128 + v) < r (128 + i))) i v = (m : Int) ∧ m < 64 ∧ r m = p + 1)) := by
    intro x q1 q2
    refine ⟨by rw [← q2]; exact q1, ?_⟩
    unfold fo_bstep
    split
    · rename_i hc
      exact Or.inr ⟨i, rfl, hi64, ((hok i hi64).mp hc.1).1⟩
    · exact hv
  have core : ∀ (B : Int) , (r i = p + 1 → ok i = true) → (if M (1 + 1) i ≠ p then f_X0_copyBehind_L5 1 p last M n (i + 1) v (fun z => z) else if v = -1 then f_X0_copyBehind_L5 1 p last M n (i + 1) (i : Int) (fun z => z) else if M (1 + 3) i ≤ M (1 + 3) v.toNat then f_X0_copyBehind_L5 1 p last M n (i + 1) v (fun z => z) else f_X0_copyBehind_L5 1 p last M n (i + 1) (i : Int) (fun z => z)) = f_X0_copyBehind_L5 1 p last M n (i + 1) (fo_bstep ok (fun i v => decide (r (128 + v) < r (128 + i))) i v) (fun z => z) := by
    intro _ ho
    unfold fo_bstep
    rw [e1 i hi64]
    by_cases c1 : r i - 1 ≠ p
    · rw [if_pos c1, if_neg (fun h' => c1 (by have := ((hok i hi64).mp h'.1).1; omega))]
    · have hri : r i = p + 1 := by omega
      rw [if_neg c1]
      rcases hv with e | ⟨m, e, hm, hrm⟩
      · rw [if_pos e, if_pos ⟨ho hri, Or.inl (by omega)⟩]
      · subst e
        rw [if_neg (show ¬ ((m : Int) = -1) by omega), fo_t0, e3 i hi64 (by omega), e3 m hm (by omega)]
        by_cases c2 : r (128 + i) ≤ r (128 + m)
        · rw [if_pos c2, if_neg]
          rintro ⟨_, h' | h'⟩
          · omega
          · rw [decide_eq_true_eq] at h'; omega
        · rw [if_neg c2, if_pos ⟨ho hri, Or.inr (by rw [decide_eq_true_eq]; omega)⟩]
  have cno : ¬ ok i = true → (if M (1 + 1) i ≠ p then f_X0_copyBehind_L5 1 p last M n (i + 1) v (fun z => z) else f_X0_copyBehind_L5 1 p last M n (i + 1) v (fun z => z)) = f_X0_copyBehind_L5 1 p last M n (i + 1) (fo_bstep ok (fun i v => decide (r (128 + v) < r (128 + i))) i v) (fun z => z) := by
    intro ho
    have eb : fo_bstep ok (fun i v => decide (r (128 + v) < r (128 + i))) i v = v := if_neg (fun h' => ho h'.1)
    rw [eb]
    split <;> rfl
  refine step _ ?_ rfl
  unfold f_X0_copyBehind_B5
  rcases hlast with e | ⟨l, e, hl, hrl⟩
  · rw [if_pos (show last < 0 by omega)]
    exact core 0 (fun hr => (hok i hi64).mpr ⟨hr, Or.inl (by omega)⟩)
  · subst e
    rw [if_neg (show ¬ ((l : Int) < 0) by omega), if_neg (show ¬ ((64 : Int) ≤ (l : Int)) by omega), fo_t0]
    have hoi : ok i = true ↔ (r i = p + 1 ∧ fo_ah r p i l = true) := by
      rw [hok i hi64]
      constructor
      · rintro ⟨a, b | ⟨l', b, c⟩⟩
        · omega
        · have : l' = l := by omega
          subst this
          exact ⟨a, c⟩
      · rintro ⟨a, b⟩
        exact ⟨a, Or.inr ⟨l, rfl, b⟩⟩
    by_cases hri : r i = p + 1
    · rw [e3 i hi64 (by omega), e3 l hl (by omega)]
      by_cases c1 : r (128 + i) < r (128 + l)
      · rw [if_pos c1, ← e3 i hi64 (by omega)]
        exact core 0 (fun _ => hoi.mpr ⟨hri, by rw [fo_ah_iff]; exact ⟨hrl, Or.inl c1⟩⟩)
      · rw [if_neg c1]
        by_cases c2 : r (128 + i) ≠ r (128 + l)
        · rw [if_pos c2]
          exact cno (fun h' => by have := (hoi.mp h').2; rw [fo_ah_iff] at this; omega)
        · rw [if_neg c2]
          by_cases c3 : (i : Int) ≤ (l : Int)
          · rw [if_pos c3]
            exact cno (fun h' => by have := (hoi.mp h').2; rw [fo_ah_iff] at this; omega)
          · rw [if_neg c3, ← e3 i hi64 (by omega)]
            exact core 0 (fun _ => hoi.mpr ⟨hri, by rw [fo_ah_iff]; exact ⟨hrl, Or.inr ⟨by omega, by omega⟩⟩⟩)
    · have ho : ¬ ok i = true := fun h' => hri (hoi.mp h').1
      have hn := cno ho
      have hne : M (1 + 1) i ≠ p := by rw [e1 i hi64]; omega
      rw [if_pos hne] at hn
      rw [if_pos hne, ← hn]
      repeat' split
      all_goals rfl
theorem fo_cs_all {c : Nat → Bool} {n : Nat} : fo_fold (fo_cs c) n 0 0 = fo_sg (fo_id c) n := by
  have q := fo_cs_sg (c := c) n 0 0
  have h0 : ∀ f, fo_sg f 0 = 0 := fun _ => rfl
  rw [h0, Int.add_zero, Int.zero_add, Nat.zero_add] at q
  exact q
/-- who comes behind is next -/
theorem fo_next {last : Int} {i : Nat} (hlast : (i = 0 ∧ last = -1) ∨ ∃ l : Nat, last = (l : Int) ∧ l < 64 ∧ r l = p + 1 ∧ fo_rk r p l + 1 = (i : Int)) (hi : (i : Int) < fo_sg (fo_id (fo_on r p)) 64) :
    ∃ m : Nat, fo_best (fun c => decide (r c = p + 1) && (decide (last < 0) || fo_ah r p c last.toNat)) (fun i v => decide (r (128 + v) < r (128 + i))) 64 = (m : Int) ∧ m < 64 ∧ r m = p + 1 ∧ fo_rk r p m = (i : Int) := by
  rcases fo_best_spec (ok := fun c => decide (r c = p + 1) && (decide (last < 0) || fo_ah r p c last.toNat)) (lt := fun i v => decide (r (128 + v) < r (128 + i))) (fun a b h => by
      rw [decide_eq_true_eq] at h
      rw [decide_eq_false_iff_not]
      omega) (fun a b c h1 h2 => by
      rw [decide_eq_false_iff_not] at h1 h2 ⊢
      omega) 64 with ⟨_, hn⟩ | ⟨m, e, hm, h1, h2, h3⟩
  · exfalso
    rcases hlast with ⟨e0, el⟩ | ⟨l, el, hl, hrl, hrk⟩
    · have hz : fo_sg (fo_id (fo_on r p)) 64 = fo_sg (fun _ => 0) 64 := fo_sg_congr 64 (fun c hc => by
        have := hn c hc
        rw [el] at this
        unfold fo_id fo_on
        by_cases h : r c = p + 1
        · simp [h] at this
        · rw [if_neg (by rw [decide_eq_true_eq]; exact h)])
      rw [hz, fo_sg_0] at hi
      omega
    · have h1 := fo_sg_add (f := fo_id (fo_ah r p l)) (g := fun i => if i = l then (1 : Int) else 0) 64
      rw [fo_sg_one, if_pos hl] at h1
      have hz : fo_sg (fo_id (fo_on r p)) 64 = fo_sg (fun i => fo_id (fo_ah r p l) i + (if i = l then (1 : Int) else 0)) 64 := fo_sg_congr 64 (fun c hc => by
        have h0 := hn c hc
        rw [el, fo_t0] at h0
        unfold fo_id fo_on
        have hll : ¬ fo_ah r p l l = true := by rw [fo_ah_iff]; omega
        by_cases e : c = l
        · subst e
          rw [if_pos (decide_eq_true hrl), if_neg hll, if_pos rfl]
          rfl
        · rw [if_neg e]
          by_cases h : r c = p + 1
          · have hnc : ¬ fo_ah r p c l = true := by
              intro h'
              have hl0 : decide ((l : Int) < 0) = false := by rw [decide_eq_false_iff_not]; omega
              rw [decide_eq_true h, hl0, h'] at h0
              cases h0
            have hlc : fo_ah r p l c = true := by
              rw [fo_ah_iff] at hnc ⊢
              refine ⟨h, ?_⟩
              have : ¬ (r (128 + c) < r (128 + l) ∨ r (128 + l) = r (128 + c) ∧ l < c) := fun z => hnc ⟨hrl, z⟩
              omega
            rw [if_pos (decide_eq_true h), if_pos hlc]
            rfl
          · rw [if_neg (by rw [decide_eq_true_eq]; exact h), if_neg (by rw [fo_ah_iff]; exact fun z => h z.1)]
            rfl)
      rw [hz, h1] at hi
      unfold fo_rk at hrk
      omega
  · rw [Bool.and_eq_true, decide_eq_true_eq] at h1
    refine ⟨m, e, hm, h1.1, ?_⟩
    rcases hlast with ⟨e0, el⟩ | ⟨l, el, hl, hrl, hrk⟩
    · subst e0
      have hz : fo_rk r p m = fo_sg (fun _ => 0) 64 := by
        unfold fo_rk
        refine fo_sg_congr 64 (fun o ho => ?_)
        unfold fo_id
        rw [if_neg]
        rw [fo_ah_iff]
        rintro ⟨a, b⟩
        have hok : (decide (r o = p + 1) && (decide (last < 0) || fo_ah r p o last.toNat)) = true := by
          rw [decide_eq_true a, el]
          rfl
        have k2 := h2 o ho hok
        rw [decide_eq_false_iff_not] at k2
        rcases b with b | ⟨b, c⟩
        · omega
        · have k3 := h3 o c hok
          rw [decide_eq_true_eq] at k3
          omega
      rw [hz, fo_sg_0]
      rfl
    · have hml : fo_ah r p m l = true := by
        have := h1.2
        rw [el, fo_t0] at this
        have hl0 : decide ((l : Int) < 0) = false := by rw [decide_eq_false_iff_not]; omega
        rw [hl0, Bool.false_or] at this
        exact this
      rw [fo_rk_next hl hrl hml (fun o ho ha hne => ?_), hrk]
      by_cases hlo : fo_ah r p l o = true
      · exact hlo
      · exfalso
        rw [fo_ah_iff] at ha
        have hol : fo_ah r p o l = true := by
          rw [fo_ah_iff] at hlo ⊢
          refine ⟨hrl, ?_⟩
          have : ¬ (r (128 + l) < r (128 + o) ∨ r (128 + o) = r (128 + l) ∧ o < l) := fun z => hlo ⟨ha.1, z⟩
          omega
        have hok : (decide (r o = p + 1) && (decide (last < 0) || fo_ah r p o last.toNat)) = true := by
          rw [decide_eq_true ha.1, el, fo_t0, hol, Bool.or_true]
          rfl
        have k2 := h2 o ho hok
        rw [decide_eq_false_iff_not] at k2
        rcases ha.2 with b | ⟨b, c⟩
        · omega
        · have k3 := h3 o c hok
          rw [decide_eq_true_eq] at k3
          omega
theorem pq_copiesL {z : Int} (hP : fo_Pg r) (hS : fo_St r) (hp : 0 ≤ p) (hz : z = fo_sg (fo_id (fo_on r p)) 64) : ∀ (n i : Nat) (last : Int) (Zc Zm : ax_M), (i : Int) + (n : Int) = z → i ≤ 12 → pr_S C i r Zc Zm → ((i = 0 ∧ last = -1) ∨ ∃ l : Nat, last = (l : Int) ∧ l < 64 ∧ r l = p + 1 ∧ fo_rk r p l + 1 = (i : Int)) →
    pq C (True, f_X2_copies_L55 p z n (i : Int) last Zc (fun M10 => (z, M10))) (f_X3_copies_L60 p z n (i : Int) Zm (fun M13 => (True, (z, M13)))) := by
  intro n
  induction n with
  | zero => intro i last Zc Zm _ _ s _; exact ⟨trivial, trivial, rfl, s.g⟩
  | succ n ih =>
    intro i last Zc Zm hi h12 s hlast
    simp only [f_X2_copies_L55, f_X2_copies_B55, f_X3_copies_L60, f_X3_copies_B60, ax_bd_e]
    by_cases h : 12 ≤ (i : Int)
    · rw [if_pos h, if_pos h]
      exact ⟨trivial, trivial, rfl, s.g⟩
    · rw [if_neg h, if_neg h]
      obtain ⟨m, m1, m2, m3, m4⟩ := fo_next hlast (by omega)
      have hl' : last = -1 ∨ ∃ l : Nat, last = (l : Int) ∧ l < 64 ∧ r l = p + 1 := hlast.elim (fun h => Or.inl h.2) (fun ⟨l, a, b, c, _⟩ => Or.inr ⟨l, a, b, c⟩)
      have e1 := fc_copyBehind (last := last) (ok := fun c => decide (r c = p + 1) && (decide (last < 0) || fo_ah r p c last.toNat)) s.c hP hp (fun c _ => by
        rw [Bool.and_eq_true, decide_eq_true_eq, Bool.or_eq_true, decide_eq_true_eq]
        constructor
        · rintro ⟨a, b | b⟩
          · exact ⟨a, Or.inl b⟩
          · refine ⟨a, ?_⟩
            rcases hl' with e | ⟨l, e, _⟩
            · exact Or.inl (by omega)
            · exact Or.inr ⟨l, e, by rw [e, fo_t0] at b; exact b⟩
        · rintro ⟨a, b | ⟨l, e, b⟩⟩
          · exact ⟨a, Or.inl b⟩
          · exact ⟨a, Or.inr (by rw [e, fo_t0]; exact b)⟩) hl'
      rw [e1, m1, fm_copyOf s.m hP hS hp m2 m3 m4, show (i : Int) + 1 = ((i + 1 : Nat) : Int) by omega]
      obtain ⟨q1, s1⟩ := ps_tell (x := (m : Int)) s (by omega)
      refine pq_rc q1 ?_
      exact ih (i + 1) (m : Int) _ _ (by omega) (by omega) s1 (Or.inr ⟨m, rfl, m2, m3, by omega⟩)
theorem pq_copies {x : Int} (hC : C ≤ 2147483647) (h : pr_G C Mc Mm) : pq C (True, f_X2_copies x Mc) (f_X3_copies x Mm) := by
  have e7 : ax_up Mm 0 0 0 7 = Mm 7 := ax_up_ne (by decide)
  have hI := h.I
  have hW := hI.2.1
  have h270 := h.1.1.2.1.2
  have hS : fo_St (Mm 7) := hW.st (by omega)
  have s0 := h.a
  unfold f_X2_copies f_X3_copies
  simp only [ax_bd_e]
  rcases fx_page x with ⟨p, hp, e, h1, h2⟩ | ⟨h1, h2⟩
  · subst e
    rw [h1, h2, if_pos (show (1 : Int) ≠ 0 by decide), if_pos (show (1 : Int) ≠ 0 by decide)]
    have lc : ∀ (kx : Int → Int × ax_M) (n i : Nat) (v : Int), i + n = 64 → f_X2_copies_L13 (p : Int) Mc n i v kx = kx (fo_fold (fo_cs (fo_on (Mm 7) (p : Int))) n i v) := by
      intro kx n
      induction n with
      | zero => intro i v _; rw [fo_fold_z]; rfl
      | succ n ih =>
        intro i v hi
        have e := fr_pg (b := 1) h.c (show i < 64 by omega)
        simp only [f_X2_copies_L13, f_X2_copies_B13]
        rw [show Mc 2 i = Mm 7 i - 1 from e, fo_fold_s]
        have ep : fo_on (Mm 7) (p : Int) i = true → fo_cs (fo_on (Mm 7) (p : Int)) i v = v + 1 := fun h => if_pos h
        have en : ¬ fo_on (Mm 7) (p : Int) i = true → fo_cs (fo_on (Mm 7) (p : Int)) i v = v := fun h => if_neg h
        by_cases c : Mm 7 i - 1 ≠ (p : Int)
        · rw [if_pos c, ih (i + 1) _ (by omega), en (by unfold fo_on; rw [decide_eq_true_eq]; omega), Int.add_zero]
        · rw [if_neg c, ih (i + 1) _ (by omega), ep (by unfold fo_on; rw [decide_eq_true_eq]; omega)]
    have lm : ∀ (kx : Int → Prop × Int × ax_M) (n i : Nat) (v : Int), i + n = 64 → f_X3_copies_L18 (p : Int) (ax_up Mm 0 0 0) n i v kx = kx (fo_fold (fo_cs (fo_on (Mm 7) (p : Int))) n i v) := by
      intro kx n
      induction n with
      | zero => intro i v _; rw [fo_fold_z]; rfl
      | succ n ih =>
        intro i v hi
        have hpi := hW.pg i (by omega)
        have f0 : f_X3_flag 0 (ax_up Mm 0 0 0) = 0 := rfl
        have f1 : f_X3_flag 1 (ax_up Mm 0 0 0) = 1 := rfl
        simp only [f_X3_copies_L18, f_X3_copies_B18]
        rw [fm_pageAt (by rw [fo_t0, e7]; exact hpi), fo_t0, e7, f0, f1, fo_fold_s]
        have ep : fo_on (Mm 7) (p : Int) i = true → fo_cs (fo_on (Mm 7) (p : Int)) i v = v + 1 := fun h => if_pos h
        have en : ¬ fo_on (Mm 7) (p : Int) i = true → fo_cs (fo_on (Mm 7) (p : Int)) i v = v := fun h => if_neg h
        by_cases c : Mm 7 i - 1 ≠ (p : Int)
        · rw [if_pos c, ih (i + 1) _ (by omega), en (by unfold fo_on; rw [decide_eq_true_eq]; omega), Int.add_zero]
        · rw [if_neg c, ih (i + 1) _ (by omega), ep (by unfold fo_on; rw [decide_eq_true_eq]; omega)]
    rw [lc _ 64 0 0 rfl, lm _ 64 0 0 rfl, fo_cs_all]
    have hz := fo_sg_r (f := fo_id (fo_on (Mm 7) (p : Int))) fo_id_r 64
    exact pq_copiesL hW.pg hS (by omega) rfl _ 0 (-1) _ _ (by omega) (by decide) s0 (Or.inl ⟨rfl, rfl⟩)
  · rw [h1, h2, if_neg (fun h => h rfl), if_neg (fun h => h rfl)]
    exact ⟨trivial, trivial, rfl, h.th⟩
end PRO
