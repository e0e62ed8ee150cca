/-! ===== the rule: one function of its code and the things ===== -/
def fo_op (k x y : Int) : Int := if k = 0 then (if x < y then 1 else 0) else if k = 1 then (if y < x then 1 else 0) else if k = 2 then (if x = y then 1 else 0) else if k = 3 then ax_wr (x + y) else if k = 4 then ax_wr (x - y) else if k = 5 then ax_wr (x * y) else if y ≠ 0 then ax_div x y else 0
/-- h: how many lie on the stack S -/
def fo_rl (t : fo_R) : List Int → Nat → fo_R → Int
  | [], h, S => if h = 0 then 0 else S 0
  | c :: cs, h, S => if c = 3000 then fo_rl t cs h (fo_u S (h - 1) (ax_wr (-(S (h - 1))))) else if 2000 ≤ c then fo_rl t cs (h - 1) (fo_u S (h - 2) (fo_op (c - 2000) (S (h - 2)) (S (h - 1)))) else fo_rl t cs (h + 1) (fo_u S h (if 1000 ≤ c then t (c - 1000).toNat else c))
/-- a code that can be worked out -/
def fo_wf : List Int → Nat → Prop
  | [], h => h = 1
  | c :: cs, h => if c = 3000 then 1 ≤ h ∧ fo_wf cs h else if 2000 ≤ c then c ≤ 2006 ∧ 2 ≤ h ∧ fo_wf cs (h - 1) else (c < 1000 ∨ c ≤ 1005) ∧ fo_wf cs (h + 1)
theorem fo_rl_same {t t' : fo_R} (ht : ∀ i, i < 6 → t i = t' i) : ∀ (cs : List Int) (h : Nat) (S S' : fo_R), fo_wf cs h → (∀ j, j < h → S j = S' j) → fo_rl t cs h S = fo_rl t' cs h S' := by
  intro cs
  induction cs with
  | nil =>
    intro h S S' hw hs
    have : h = 1 := hw
    show (if h = 0 then 0 else S 0) = (if h = 0 then 0 else S' 0)
    rw [hs 0 (by omega)]
  | cons c cs ih =>
    intro h S S' hw hs
    unfold fo_wf at hw
    unfold fo_rl
    by_cases h1 : c = 3000
    · rw [if_pos h1] at hw
      rw [if_pos h1, if_pos h1]
      refine ih h _ _ hw.2 (fun j hj => ?_)
      rw [fo_u_eq, fo_u_eq, hs (h - 1) (by omega)]
      split
      · rfl
      · exact hs j hj
    · rw [if_neg h1] at hw
      rw [if_neg h1, if_neg h1]
      by_cases h2 : 2000 ≤ c
      · rw [if_pos h2] at hw
        rw [if_pos h2, if_pos h2]
        refine ih (h - 1) _ _ hw.2.2 (fun j hj => ?_)
        rw [fo_u_eq, fo_u_eq, hs (h - 1) (by omega), hs (h - 2) (by omega)]
        split
        · rfl
        · exact hs j (by omega)
      · rw [if_neg h2] at hw
        rw [if_neg h2, if_neg h2]
        refine ih (h + 1) _ _ hw.2 (fun j hj => ?_)
        rw [fo_u_eq, fo_u_eq]
        split
        · split
          · exact ht _ (by omega)
          · rfl
        · exact hs j (by omega)
/-- what a rule is worth -/
def fo_ev (cs : List Int) (t : fo_R) : Int := fo_rl t cs 0 (fun _ => 0)
/-- the class's sign for one of the model's -/
def fo_sgn (c : Int) : Int := if c = 3000 then 2256 else if c = 2000 then 2060 else if c = 2001 then 2062 else if c = 2002 then 2061 else if c = 2003 then 2043 else if c = 2004 then 2045 else if c = 2005 then 2042 else if c = 2006 then 2047 else c
theorem fc_joined {k x y : Int} {M : ax_M} (h : 2000 ≤ k ∧ k ≤ 2006) : f_X1_joined (fo_sgn k - 2000) x y M = fo_op (k - 2000) x y := by
  unfold fo_sgn
  rcases (by omega : k = 2000 ∨ k = 2001 ∨ k = 2002 ∨ k = 2003 ∨ k = 2004 ∨ k = 2005 ∨ k = 2006) with e | e | e | e | e | e | e <;> subst e
  · show (if y ≤ x then (0 : Int) else 1) = if x < y then 1 else 0
    split <;> split <;> omega
  · show (if x ≤ y then (0 : Int) else 1) = if y < x then 1 else 0
    split <;> split <;> omega
  · show (if x ≠ y then (0 : Int) else 1) = if x = y then 1 else 0
    by_cases hxy : x = y
    · rw [if_neg (fun h => h hxy), if_pos hxy]
    · rw [if_pos hxy, if_neg hxy]
  · rfl
  · rfl
  · rfl
  · rfl
section FOEV
variable {a b : Nat} {M : ax_M}
theorem fc_worthL {t : fo_R} {cs : List Int} (hab : b + 11 < a) (hlen : cs.length ≤ 40) (hc1 : M a 1 = (cs.length : Int)) (hcd : ∀ i, i < cs.length → ∃ c, cs[i]? = some c ∧ M (a + 1) i = fo_sgn c) (ht : ∀ i, i < 6 → M (b + 11) i = t i) :
    ∀ (rest : List Int) (i h fuel : Nat) (N : ax_M) (S : fo_R), cs.drop i = rest → rest.length < fuel → fo_wf rest h → h ≤ i → N a 3 = (h : Int) → N (a + 2) = S → (∀ s, s ≠ a → s ≠ a + 2 → N s = M s) → (∀ f, f ≠ 3 → N a f = M a f) →
      (f_X1_worth_L7 (a : Int) 6 (b + 11) fuel (i : Int) N (fun M36 => (if (M36 (a : Int).toNat 3) ≤ 0 then (True, (0, M36)) else (True, ((M36 ((a : Int) + 2).toNat 0), M36))))).1 ∧
      (f_X1_worth_L7 (a : Int) 6 (b + 11) fuel (i : Int) N (fun M36 => (if (M36 (a : Int).toNat 3) ≤ 0 then (True, (0, M36)) else (True, ((M36 ((a : Int) + 2).toNat 0), M36))))).2.1 = fo_rl t rest h S ∧
      (∀ s, s ≠ a → s ≠ a + 2 → (f_X1_worth_L7 (a : Int) 6 (b + 11) fuel (i : Int) N (fun M36 => (if (M36 (a : Int).toNat 3) ≤ 0 then (True, (0, M36)) else (True, ((M36 ((a : Int) + 2).toNat 0), M36))))).2.2 s = M s) ∧
      (∀ f, f ≠ 3 → (f_X1_worth_L7 (a : Int) 6 (b + 11) fuel (i : Int) N (fun M36 => (if (M36 (a : Int).toNat 3) ≤ 0 then (True, (0, M36)) else (True, ((M36 ((a : Int) + 2).toNat 0), M36))))).2.2 a f = M a f) := by
  have ta : (a : Int).toNat = a := by omega
  have ta1 : ((a : Int) + 1).toNat = a + 1 := by omega
  have ta2 : ((a : Int) + 2).toNat = a + 2 := by omega
  rw [ta, ta2]
  intro rest
  induction rest with
  | nil =>
    intro i h fuel N S hd hf hw hhi h3 hS hN hNf
    obtain ⟨f', rfl⟩ : ∃ f', fuel = f' + 1 := ⟨fuel - 1, by simp at hf; omega⟩
    have hil : cs.length ≤ i := List.drop_eq_nil_iff.mp hd
    have hw1 : h = 1 := hw
    simp only [f_X1_worth_L7, f_X1_worth_B7]
    rw [ta, hNf 1 (by decide), hc1, if_pos (by omega), if_neg (by omega)]
    exact ⟨trivial, by dsimp only; rw [hS, hw1]; rfl, fun s h1 h2 => hN s h1 h2, fun f hf' => hNf f hf'⟩
  | cons c rest ih =>
    intro i h fuel N S hd hf hw hhi h3 hS hN hNf
    obtain ⟨f', rfl⟩ : ∃ f', fuel = f' + 1 := ⟨fuel - 1, by simp at hf; omega⟩
    have hil : i < cs.length := by
      rcases Nat.lt_or_ge i cs.length with h' | h'
      · exact h'
      · rw [List.drop_eq_nil_iff.mpr h'] at hd; cases hd
    have hdn : cs.drop (i + 1) = rest := by
      have := List.drop_eq_getElem_cons hil
      rw [this] at hd
      exact (List.cons.inj hd).2
    have hci : cs[i]? = some c := by
      have := List.drop_eq_getElem_cons hil
      rw [this] at hd
      rw [List.getElem?_eq_getElem hil, (List.cons.inj hd).1]
    obtain ⟨c', hc', hM1⟩ := hcd i hil
    have ecc : c' = c := by rw [hci] at hc'; exact (Option.some.inj hc').symm
    subst ecc
    have hf' : rest.length < f' := by simp at hf; omega
    have ei : (i : Int) + 1 = ((i + 1 : Nat) : Int) := by omega
    have eN1 : N (a + 1) i = fo_sgn c' := by rw [hN (a + 1) (by omega) (by omega), hM1]
    have step : ∀ (h' : Nat) (N' : ax_M) (S' : fo_R), fo_wf rest h' → h' ≤ i + 1 → N' a 3 = (h' : Int) → N' (a + 2) = S' → (∀ s, s ≠ a → s ≠ a + 2 → N' s = M s) → (∀ f, f ≠ 3 → N' a f = M a f) → _ := fun h' N' S' q1 q2 q3 q4 q5 q6 => ih (i + 1) h' f' N' S' hdn hf' q1 q2 q3 q4 q5 q6
    have hu3 : ∀ (N' : ax_M) (x : Int), (∀ s, s ≠ a → s ≠ a + 2 → N' s = M s) → (∀ s, s ≠ a → s ≠ a + 2 → ax_up N' a 3 x s = M s) := fun N' x q s h1 h2 => by rw [ax_up_ne h1, q s h1 h2]
    have hu3f : ∀ (N' : ax_M) (x : Int), (∀ f, f ≠ 3 → N' a f = M a f) → (∀ f, f ≠ 3 → ax_up N' a 3 x a f = M a f) := fun N' x q f h1 => by rw [fo_up_at, fo_u_o h1, q f h1]
    have hu2 : ∀ (N' : ax_M) (k : Nat) (x : Int), (∀ s, s ≠ a → s ≠ a + 2 → N' s = M s) → (∀ s, s ≠ a → s ≠ a + 2 → ax_up N' (a + 2) k x s = M s) := fun N' k x q s h1 h2 => by rw [ax_up_ne h2, q s h1 h2]
    have hu2f : ∀ (N' : ax_M) (k : Nat) (x : Int), (∀ f, f ≠ 3 → N' a f = M a f) → (∀ f, f ≠ 3 → ax_up N' (a + 2) k x a f = M a f) := fun N' k x q f h1 => by rw [ax_up_ne (by omega), q f h1]
    simp only [f_X1_worth_L7, f_X1_worth_B7, ax_bd]
    rw [ta, ta1, ta2, hNf 1 (by decide), hc1, if_neg (by omega), fo_t0, eN1, h3, ei]
    unfold ax_rq
    dsimp only
    have hq : (0 : Int) ≤ (i : Int) ∧ (i : Int) < ((40 : Nat) : Int) := by omega
    unfold fo_wf at hw
    unfold fo_rl
    by_cases k1 : c' = 3000
    · rw [if_pos k1] at hw ⊢
      have es : fo_sgn c' = 2256 := by rw [k1]; rfl
      rw [es, if_pos (by decide), if_pos (by decide), if_neg (by decide), if_neg (by omega), show ((h : Int) - 1).toNat = h - 1 by omega, hS]
      obtain ⟨r1, r2, r3, r4⟩ := step h (ax_up N (a + 2) (h - 1) (ax_wr (-(S (h - 1))))) (fo_u S (h - 1) (ax_wr (-(S (h - 1))))) hw.2 (by omega) (by rw [ax_up_ne (by omega)]; exact h3) (by rw [fo_up_at, hS]) (hu2 _ _ _ hN) (hu2f _ _ _ hNf)
      exact ⟨⟨hq, r1⟩, r2, r3, r4⟩
    · rw [if_neg k1] at hw ⊢
      by_cases k2 : 2000 ≤ c'
      · rw [if_pos k2] at hw ⊢
        have es : 2000 ≤ fo_sgn c' ∧ fo_sgn c' ≠ 2256 := by
          unfold fo_sgn
          rcases (by omega : c' = 2000 ∨ c' = 2001 ∨ c' = 2002 ∨ c' = 2003 ∨ c' = 2004 ∨ c' = 2005 ∨ c' = 2006) with e | e | e | e | e | e | e <;> subst e <;> decide
        have e3 : ax_up N a 3 ((h : Int) - 1) a 3 = (h : Int) - 1 := by rw [fo_up_at, fo_u_s]
        have e2 : ax_up N a 3 ((h : Int) - 1) (a + 2) = S := by rw [ax_up_ne (by omega), hS]
        rw [if_pos (by omega), if_pos es.1, if_pos es.2, if_neg (by omega), e3, e2, show ((h : Int) - 1 - 1).toNat = h - 2 by omega, show ((h : Int) - 1).toNat = h - 1 by omega, fc_joined ⟨k2, hw.1⟩]
        obtain ⟨r1, r2, r3, r4⟩ := step (h - 1) (ax_up (ax_up N a 3 ((h : Int) - 1)) (a + 2) (h - 2) (fo_op (c' - 2000) (S (h - 2)) (S (h - 1)))) (fo_u S (h - 2) (fo_op (c' - 2000) (S (h - 2)) (S (h - 1)))) hw.2.2 (by omega) (by rw [ax_up_ne (by omega), e3]; omega) (by rw [fo_up_at, e2]) (hu2 _ _ _ (hu3 _ _ hN)) (hu2f _ _ _ (hu3f _ _ hNf))
        exact ⟨⟨hq, r1⟩, r2, r3, r4⟩
      · rw [if_neg k2] at hw ⊢
        have es : fo_sgn c' = c' := by
          unfold fo_sgn
          repeat rw [if_neg (by omega)]
        have epush : ∀ x : Int, f_X1_push (a : Int) x N = ax_up (ax_up N (a + 2) h x) a 3 ((h : Int) + 1) := fun x => by
          unfold f_X1_push
          simp only [ax_bd]
          rw [ta, ta2, h3, if_neg (by omega), fo_t0, ax_up_ne (by omega), h3]
        have pst : ∀ x : Int, _ := fun x => step (h + 1) (ax_up (ax_up N (a + 2) h x) a 3 ((h : Int) + 1)) (fo_u S h x) hw.2 (by omega) (by rw [fo_up_at, fo_u_s]; omega) (by rw [ax_up_ne (by omega), fo_up_at, hS]) (hu3 _ _ (hu2 _ _ _ hN)) (hu3f _ _ (hu2f _ _ _ hNf))
        rw [es]
        by_cases k3 : 1000 ≤ c'
        · rw [if_pos k3, if_neg k2, if_neg (show ¬ (((6 : Nat) : Int) ≤ c' - 1000) by omega), if_pos k3]
          have ev : N (b + 11) (c' - 1000).toNat = t (c' - 1000).toNat := by rw [hN (b + 11) (by omega) (by omega), ht _ (by omega)]
          rw [epush, ev]
          obtain ⟨r1, r2, r3, r4⟩ := pst (t (c' - 1000).toNat)
          exact ⟨⟨hq, ⟨by omega, by omega⟩, r1⟩, r2, r3, r4⟩
        · rw [if_neg k3, if_neg k3, epush]
          obtain ⟨r1, r2, r3, r4⟩ := pst c'
          exact ⟨⟨hq, r1⟩, r2, r3, r4⟩
/-- the class's rule, its code cs -/
theorem fc_Wv {cs : List Int} (hab : b + 11 < a) (hlen : cs.length ≤ 40) (hwf : fo_wf cs 0) (hc1 : M a 1 = (cs.length : Int)) (hcd : ∀ i, i < cs.length → ∃ c, cs[i]? = some c ∧ M (a + 1) i = fo_sgn c) : fo_Wv a b (fo_ev cs) M := by
  intro N h1 h2
  have ta : (a : Int).toNat = a := by omega
  have key := fun (t : fo_R) (ht : ∀ i, i < 6 → N (b + 11) i = t i) => fc_worthL (M := ax_up N a 3 0) (b := b) (t := t) hab hlen (by rw [fo_up_at, fo_u_o (by decide), h1, hc1]) (fun i hi => by
    obtain ⟨c, e1, e2⟩ := hcd i hi
    exact ⟨c, e1, by rw [ax_up_ne (by omega), h2, e2]⟩) (fun i hi => by rw [ax_up_ne (by omega)]; exact ht i hi) cs 0 0 100 (ax_up N a 3 0) (N (a + 2)) rfl (by omega) hwf (Nat.le_refl _) (by rw [fo_up_at, fo_u_s]; rfl) (by rw [ax_up_ne (by omega)]) (fun _ _ _ => rfl) (fun _ _ => rfl)
  unfold f_X1_worth
  simp only [ax_bd]
  have eup : ax_up N (a : Int).toNat 3 0 = ax_up N a 3 0 := by rw [ta]
  rw [eup]
  obtain ⟨k1, k2, k3, k4⟩ := key (N (b + 11)) (fun _ _ => rfl)
  refine ⟨k1, fun s s1 s2 => ?_, fun f hf => ?_, fun t ht => ?_⟩
  · have := k3 s s1 s2
    rw [ax_up_ne s1] at this
    exact this
  · have := k4 f hf
    rw [fo_up_at, fo_u_o hf] at this
    exact this
  · have e := (key t ht).2.1
    refine e.trans ?_
    exact fo_rl_same (fun _ _ => rfl) cs 0 _ _ hwf (fun j hj => absurd hj (Nat.not_lt_zero j))
end FOEV
