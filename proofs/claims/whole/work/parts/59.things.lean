/-! ===== the things of a rule, as the class counts them ===== -/
def fo_sg (f : Nat → Int) : Nat → Int
  | 0 => 0
  | n + 1 => fo_sg f n + f n
def fo_id (c : Nat → Bool) (l : Nat) : Int := if c l = true then 1 else 0
theorem fo_cs_sg {c : Nat → Bool} : ∀ (n i : Nat) (v : Int), fo_fold (fo_cs c) n i v + fo_sg (fo_id c) i = v + fo_sg (fo_id c) (i + n) := by
  intro n
  induction n with
  | zero => intro i v; rw [fo_fold_z]; rfl
  | succ n ih =>
    intro i v
    have h := ih (i + 1) (fo_cs c i v)
    rw [fo_fold_s]
    have e1 : fo_sg (fo_id c) (i + 1) = fo_sg (fo_id c) i + fo_id c i := rfl
    have e2 : fo_cs c i v = v + fo_id c i := by
      unfold fo_cs fo_id
      split <;> simp
    rw [show i + (n + 1) = i + 1 + n by omega]
    omega
theorem fo_sm_sg {f : Nat → Int} : ∀ (n i : Nat) (v : Int), fo_fold (fo_sm f) n i v + fo_sg f i = v + fo_sg f (i + n) := by
  intro n
  induction n with
  | zero => intro i v; rw [fo_fold_z]; rfl
  | succ n ih =>
    intro i v
    have h := ih (i + 1) (fo_sm f i v)
    rw [fo_fold_s]
    have e1 : fo_sg f (i + 1) = fo_sg f i + f i := rfl
    have e2 : fo_sm f i v = v + f i := rfl
    rw [show i + (n + 1) = i + 1 + n by omega]
    omega
theorem fo_sg_congr {f g : Nat → Int} : ∀ n, (∀ i, i < n → f i = g i) → fo_sg f n = fo_sg g n := by
  intro n
  induction n with
  | zero => intro _; rfl
  | succ n ih =>
    intro h
    show fo_sg f n + f n = fo_sg g n + g n
    rw [ih (fun i hi => h i (by omega)), h n (by omega)]
theorem fo_sg_add {f g : Nat → Int} : ∀ n, fo_sg (fun i => f i + g i) n = fo_sg f n + fo_sg g n := by
  intro n
  induction n with
  | zero => rfl
  | succ n ih =>
    show fo_sg (fun i => f i + g i) n + (f n + g n) = fo_sg f n + f n + (fo_sg g n + g n)
    rw [ih]
    omega
theorem fo_sg_0 : ∀ n, fo_sg (fun _ => 0) n = 0 := by
  intro n
  induction n with
  | zero => rfl
  | succ n ih =>
    show fo_sg (fun _ => 0) n + 0 = 0
    rw [ih]
    rfl
theorem fo_sg_swap {h : Nat → Nat → Int} {m : Nat} : ∀ n, fo_sg (fun i => fo_sg (fun j => h i j) m) n = fo_sg (fun j => fo_sg (fun i => h i j) n) m := by
  intro n
  induction n with
  | zero => exact (fo_sg_0 m).symm
  | succ n ih =>
    show fo_sg (fun i => fo_sg (fun j => h i j) m) n + fo_sg (fun j => h n j) m = fo_sg (fun j => fo_sg (fun i => h i j) n + h n j) m
    rw [ih, ← fo_sg_add]
theorem fo_sg_one {q : Nat} {x : Int} : ∀ n, fo_sg (fun i => if i = q then x else 0) n = if q < n then x else 0 := by
  intro n
  induction n with
  | zero => rfl
  | succ n ih =>
    show fo_sg (fun i => if i = q then x else 0) n + (if n = q then x else 0) = _
    rw [ih]
    by_cases h1 : q < n
    · rw [if_pos h1, if_neg (by omega), if_pos (by omega)]
      omega
    · by_cases h2 : n = q
      · rw [if_neg h1, if_pos h2, if_pos (by omega)]
        omega
      · rw [if_neg h1, if_neg h2, if_neg (by omega)]
        rfl
theorem fo_sg_4 {g : Nat → Int} : ∀ n, fo_sg g (4 * n) = fo_sg (fun b => fo_sg (fun k => g (4 * b + k)) 4) n := by
  intro n
  induction n with
  | zero => rfl
  | succ n ih =>
    show fo_sg g (4 * n) + g (4 * n) + g (4 * n + 1) + g (4 * n + 2) + g (4 * n + 3) = fo_sg (fun b => fo_sg (fun k => g (4 * b + k)) 4) n + (0 + g (4 * n + 0) + g (4 * n + 1) + g (4 * n + 2) + g (4 * n + 3))
    rw [ih]
    have e0 : g (4 * n + 0) = g (4 * n) := rfl
    omega
/-- leaves that are the latest: one for each page written -/
theorem fo_isL_pages {r : fo_R} (hP : fo_Pg r) : fo_sg (fo_id (fo_isL r)) 64 = fo_sg (fo_id (fun p => decide (0 ≤ fo_lat r (p : Int)))) 24 := by
  have h1 : fo_sg (fo_id (fo_isL r)) 64 = fo_sg (fun l => fo_sg (fun p => if r l = (p : Int) + 1 ∧ fo_lat r (p : Int) = (l : Int) then 1 else 0) 24) 64 := by
    refine fo_sg_congr 64 (fun l hl => ?_)
    have hp := hP l hl
    by_cases h0 : r l = 0
    · rw [fo_sg_congr (g := fun _ => 0) 24 (fun p hp' => if_neg (by omega)), fo_sg_0]
      unfold fo_id fo_isL
      rw [if_neg]
      simp only [decide_eq_true_eq]
      omega
    · obtain ⟨q, hq⟩ : ∃ q : Nat, r l = (q : Int) + 1 := ⟨(r l - 1).toNat, by omega⟩
      rw [fo_sg_congr (g := fun p => if p = q then (if fo_lat r (q : Int) = (l : Int) then 1 else 0) else 0) 24 (fun p hp' => ?_), fo_sg_one, if_pos (by omega)]
      · unfold fo_id fo_isL
        simp only [decide_eq_true_eq]
        rw [hq, show (q : Int) + 1 - 1 = (q : Int) by omega]
        by_cases hx : fo_lat r (q : Int) = (l : Int)
        · rw [if_pos ⟨by omega, hx⟩, if_pos hx]
        · rw [if_neg (fun h => hx h.2), if_neg hx]
      · by_cases e : p = q
        · subst e
          rw [if_pos rfl]
          by_cases hx : fo_lat r (p : Int) = (l : Int)
          · rw [if_pos ⟨hq, hx⟩, if_pos hx]
          · rw [if_neg (fun h => hx h.2), if_neg hx]
        · rw [if_neg (fun h => e (by omega)), if_neg e]
  rw [h1, fo_sg_swap]
  refine fo_sg_congr 24 (fun p hp => ?_)
  unfold fo_id
  rcases fo_lat_spec r (p : Int) with ⟨e, _⟩ | ⟨m, e, hm, hq⟩
  · rw [fo_sg_congr (g := fun _ => 0) 64 (fun l hl => if_neg (by omega)), fo_sg_0, if_neg (by simp only [decide_eq_true_eq]; omega)]
  · rw [fo_sg_congr (g := fun l => if l = m then 1 else 0) 64 (fun l hl => ?_), fo_sg_one, if_pos hm, if_pos (by simp only [decide_eq_true_eq]; omega)]
    by_cases el : l = m
    · subst el
      rw [if_pos ⟨hq.1, e⟩, if_pos rfl]
    · rw [if_neg (fun h => el (by omega)), if_neg el]
/-- leaves written are those that are the latest, and the stale -/
theorem fo_stale_sum {r : fo_R} (hP : fo_Pg r) : fo_sg (fo_id (fun l => decide (r l ≠ 0))) 64 = fo_stale r + fo_sg (fo_id (fo_isL r)) 64 := by
  have e1 : fo_stale r = fo_sg (fo_id (fun l => decide (0 < r l) && !fo_isL r l)) 64 := by
    have h := fo_sm_sg (f := fo_staleIn r) 16 0 0
    rw [show fo_sg (fo_id (fun l => decide (0 < r l) && !fo_isL r l)) 64 = fo_sg (fo_id (fun l => decide (0 < r l) && !fo_isL r l)) (4 * 16) from rfl, fo_sg_4]
    unfold fo_stale
    have h0 : fo_sg (fo_staleIn r) 0 = 0 := rfl
    rw [h0, Int.add_zero, Int.zero_add] at h
    rw [h]
    refine fo_sg_congr 16 (fun b hb => ?_)
    have g := fo_cs_sg (c := fun k => decide (0 < r (4 * b + k)) && !fo_isL r (4 * b + k)) 4 0 0
    have g0 : fo_sg (fo_id (fun k => decide (0 < r (4 * b + k)) && !fo_isL r (4 * b + k))) 0 = 0 := rfl
    rw [g0, Int.add_zero, Int.zero_add] at g
    unfold fo_staleIn
    exact g
  rw [e1, ← fo_sg_add]
  refine fo_sg_congr 64 (fun l hl => ?_)
  have hp := hP l hl
  unfold fo_id
  by_cases h0 : r l = 0
  · have hn : fo_isL r l = false := by
      unfold fo_isL
      exact decide_eq_false (by omega)
    simp [h0, hn]
  · have hpos : 0 < r l := by omega
    by_cases hi : fo_isL r l = true
    · simp [h0, hi]
    · have hi' : fo_isL r l = false := Bool.eq_false_iff.mpr hi
      simp [h0, hi', hpos]
