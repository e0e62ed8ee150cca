/-! ===== the class's reading of a rule: signs in a row, and the end ===== -/
section RUW
variable {a : Nat} {M N K : ax_M} {T : Nat → Int} {o s : List Int} {wt dp dg cm : Int}
/-- k signs from p on, each of them can stand where it stands -/
def cl_run (a : Nat) (T : Nat → Int) : Nat → Nat → ax_M → ax_M → Prop
  | 0, _, M, N => N = M
  | k + 1, p, M, N => (f_X1_goesOnBy (a : Int) (T p) M).1 ∧ (f_X1_goesOnBy (a : Int) (T p) M).2.1 = 1 ∧ cl_G a M (f_X1_goesOnBy (a : Int) (T p) M).2.2 ∧ cl_run a T k (p + 1) (f_X1_goesOnBy (a : Int) (T p) M).2.2 N
theorem cl_run.tr : ∀ {k l p : Nat} {M N K : ax_M}, cl_run a T k p M N → cl_run a T l (p + k) N K → cl_run a T (k + l) p M K := by
  intro k
  induction k with
  | zero =>
    intro l p M N K h g
    have e : N = M := h
    subst e
    rw [Nat.zero_add]
    exact g
  | succ k ih =>
    intro l p M N K h g
    obtain ⟨h1, h2, h3, h4⟩ := h
    rw [show k + 1 + l = (k + l) + 1 by omega]
    exact ⟨h1, h2, h3, ih h4 (by rw [show p + 1 + k = p + (k + 1) by omega]; exact g)⟩
theorem cl_run.g : ∀ {k p : Nat} {M N : ax_M}, cl_run a T k p M N → cl_G a M N := by
  intro k
  induction k with
  | zero => intro p M N h; have e : N = M := h; subst e; exact cl_G.rf
  | succ k ih => intro p M N h; exact h.2.2.1.tr (ih h.2.2.2)
theorem cl_1.run {p : Nat} (h : cl_1 a (f_X1_goesOnBy (a : Int) (T p) M) M o s wt dp dg cm) : ∃ N, cl_run a T 1 p M N ∧ cl_T a o s wt dp dg cm N := ⟨_, ⟨h.1, h.2.1, h.2.2.2, rfl⟩, h.2.2.1⟩
/-- the reader's loop over signs that can stand -/
theorem rd_run {w : Int} (ha : a = 28 ∨ a = 31) (kx : ax_M → Prop × Int × ax_M) : ∀ (k f p : Nat) (M N : ax_M), cl_run a T k p M N → (∀ i, p ≤ i → i < p + k → M 34 i = T i) → p + k ≤ 40 →
    ((f_X1_read_L58 (a : Int) 80 34 w f ((p + k : Nat) : Int) N kx).1 → (f_X1_read_L58 (a : Int) 80 34 w (f + k) (p : Int) M kx).1) ∧ (f_X1_read_L58 (a : Int) 80 34 w (f + k) (p : Int) M kx).2 = (f_X1_read_L58 (a : Int) 80 34 w f ((p + k : Nat) : Int) N kx).2 := by
  intro k
  induction k with
  | zero =>
    intro f p M N h _ _
    have e : N = M := h
    subst e
    exact ⟨fun h => h, rfl⟩
  | succ k ih =>
    intro f p M N h hT hp
    obtain ⟨h1, h2, h3, h4⟩ := h
    have hk := ih f (p + 1) _ N h4 (fun i h5 h6 => by rw [h3.1 34 (by omega) (by omega) (by omega)]; exact hT i (by omega) (by omega)) (by omega)
    rw [show f + (k + 1) = (f + k) + 1 by omega, f_X1_read_L58, f_X1_read_B58, if_neg (by omega), if_neg (by omega), fo_t0, hT p (Nat.le_refl _) (by omega)]
    unfold ax_rq ax_rc
    dsimp only
    rw [h2, if_pos (by decide), show (p : Int) + 1 = ((p + 1 : Nat) : Int) by omega]
    rw [show p + 1 + k = p + (k + 1) by omega] at hk
    exact ⟨fun h => ⟨by omega, h1, hk.1 h⟩, hk.2⟩
/-- a sign that cannot stand -/
theorem rd_fail {w : Int} {f p : Nat} (kx : ax_M → Prop × Int × ax_M) (hp : p < 40) (hT : M 34 p = T p) (h : cl_0 a (f_X1_goesOnBy (a : Int) (T p) M) M) : (f_X1_read_L58 (a : Int) 80 34 w (f + 1) (p : Int) M kx).1 ∧ (f_X1_read_L58 (a : Int) 80 34 w (f + 1) (p : Int) M kx).2.1 = (p : Int) ∧ cl_G a M (f_X1_read_L58 (a : Int) 80 34 w (f + 1) (p : Int) M kx).2.2 := by
  obtain ⟨h1, h2, h3⟩ := h
  rw [f_X1_read_L58, f_X1_read_B58, if_neg (by omega), if_neg (by omega), fo_t0, hT]
  unfold ax_rq ax_rc
  dsimp only
  rw [h2, if_neg (by decide)]
  exact ⟨⟨by omega, h1, trivial⟩, rfl, h3⟩
theorem rd_stop {w : Int} {f p : Nat} (kx : ax_M → Prop × Int × ax_M) (h : f = 0 ∨ 40 ≤ p) : f_X1_read_L58 (a : Int) 80 34 w f (p : Int) M kx = kx M := by
  cases f with
  | zero => rfl
  | succ f =>
    rw [f_X1_read_L58, f_X1_read_B58, if_pos (by omega)]
/-- the reader as it begins -/
def rd_0 (a : Nat) (M : ax_M) : ax_M := ax_up (ax_up (ax_up (ax_up (ax_up (ax_up M a 1 0) a 3 0) a 5 0) a 6 0) a 7 0) a 4 1
theorem rd_0_T : cl_T a [] [] 1 0 0 0 (rd_0 a M) ∧ cl_G a M (rd_0 a M) := by
  have h1 : rd_0 a M a 1 = 0 := by unfold rd_0; simp [ax_up]
  have h3 : rd_0 a M a 3 = 0 := by unfold rd_0; simp [ax_up]
  have h4 : rd_0 a M a 4 = 1 := by unfold rd_0; simp [ax_up]
  have h5 : rd_0 a M a 5 = 0 := by unfold rd_0; simp [ax_up]
  have h6 : rd_0 a M a 6 = 0 := by unfold rd_0; simp [ax_up]
  have h7 : rd_0 a M a 7 = 0 := by unfold rd_0; simp [ax_up]
  refine ⟨⟨⟨h1, fun i hi => absurd hi (by simp), h3, fun i hi => absurd hi (by simp)⟩, h4, h5, h7, h6⟩, fun t t0 _ _ => ?_, fun f f1 f3 f4 f5 f6 f7 => ?_⟩
  · unfold rd_0
    rw [ax_up_ne t0, ax_up_ne t0, ax_up_ne t0, ax_up_ne t0, ax_up_ne t0, ax_up_ne t0]
  · unfold rd_0
    rw [fo_up_at, fo_u_o f4, fo_up_at, fo_u_o f7, fo_up_at, fo_u_o f6, fo_up_at, fo_u_o f5, fo_up_at, fo_u_o f3, fo_up_at, fo_u_o f1]
theorem rd_eq {n : Nat} (hn : 1 ≤ n) : f_X1_read (a : Int) 80 34 (n : Int) M = f_X1_read_L58 (a : Int) 80 34 (n : Int) n 0 (rd_0 a M) (fun M13 => (if (n : Int) ≤ 40 then (if (M13 a 4) ≠ 0 then (True, ((n : Int), M13)) else (if (M13 a 5) ≤ 0 then ax_rc (f_X1_unwind (a : Int) 0 M13) (fun M19 => (True, ((-1), M19))) else (True, ((n : Int), M13)))) else (True, (40, M13)))) := by
  unfold f_X1_read
  simp only [ax_bd]
  rw [if_pos (by omega), fo_t0, show ((n : Int) - 0).toNat = n by omega]
  rfl
/-- the text is wrong at l -/
theorem rd_wrong {n l : Nat} (ha : a = 28 ∨ a = 31) (hn : l < n) (hl : l < 40) (hT : ∀ i, i < n → M 34 i = T i) (hr : cl_run a T l 0 (rd_0 a M) N) (h0 : cl_0 a (f_X1_goesOnBy (a : Int) (T l) N) N) :
    (f_X1_read (a : Int) 80 34 (n : Int) M).1 ∧ (f_X1_read (a : Int) 80 34 (n : Int) M).2.1 = (l : Int) ∧ cl_G a M (f_X1_read (a : Int) 80 34 (n : Int) M).2.2 := by
  have hz := (rd_0_T (a := a) (M := M)).2
  rw [rd_eq (by omega)]
  obtain ⟨f, e⟩ : ∃ f, n = (f + 1) + l := ⟨n - l - 1, by omega⟩
  have h34 : ∀ i, i < n → rd_0 a M 34 i = T i := fun i hi => by rw [hz.1 34 (by omega) (by omega) (by omega)]; exact hT i hi
  generalize (fun M13 : ax_M => (if (n : Int) ≤ 40 then (if (M13 a 4) ≠ 0 then (True, ((n : Int), M13)) else (if (M13 a 5) ≤ 0 then ax_rc (f_X1_unwind (a : Int) 0 M13) (fun M19 => (True, ((-1), M19))) else (True, ((n : Int), M13)))) else (True, ((40 : Int), M13)))) = kx
  obtain ⟨r1, r2⟩ := rd_run (w := (n : Int)) ha kx l (f + 1) 0 (rd_0 a M) N hr (fun i _ hi => h34 i (by omega)) (by omega)
  rw [Nat.zero_add] at r1 r2
  rw [← e] at r1 r2
  obtain ⟨q1, q2, q3⟩ := rd_fail (w := (n : Int)) (f := f) (p := l) (a := a) (M := N) (T := T) kx hl (by rw [hr.g.1 34 (by omega) (by omega) (by omega)]; exact h34 l hn) h0
  refine ⟨r1 q1, ?_, ?_⟩
  · exact (congrArg Prod.fst r2).trans q2
  · have e2 := congrArg Prod.snd r2
    have g : ∀ W : ax_M, W = (f_X1_read_L58 (a : Int) 80 34 (n : Int) (f + 1) (l : Int) N kx).2.2 → cl_G a M W := fun W h => by rw [h]; exact (hz.tr hr.g).tr q3
    exact g _ e2
end RUW
