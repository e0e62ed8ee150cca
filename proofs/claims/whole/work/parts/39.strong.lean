/-! ===== copies, place by place; the strong invariant ===== -/
/-- a copy of page 4 f + i leaves the latest leaves of the folder's other pages -/
theorem fo_lat_stp {f b i k : Nat} {σ : fo_S} (hb : b < 16) (hi : i < 4) (hk : k < 4) (hik : k ≠ i) (he : σ.1 (4 * b + i) = 0) (hp : 0 ≤ fo_lat σ.1 (4 * (f : Int) + (i : Int)) → True) : fo_lat (fo_copyI (fo_lat σ.1 (4 * (f : Int) + (i : Int))) (4 * b + i) σ).1 (4 * (f : Int) + (k : Int)) = fo_lat σ.1 (4 * (f : Int) + (k : Int)) := by
  unfold fo_copyI
  rcases fo_lat_cases σ.1 (4 * (f : Int) + (i : Int)) with e | ⟨m, e, hm, hpm⟩
  · rw [if_pos (by omega)]
  · rw [if_neg (by omega), e, fo_t0]
    refine fo_lat_o (fun j hj => ?_) (fun j hj h1 => ?_) (fun j hj h1 => ?_)
    · rw [fo_copy_pg (by omega) hj]
      split
      · rename_i ej
        rw [ej]
        omega
      · exact Iff.rfl
    · rw [fo_copy_st (by omega) hj]
      split
      · rename_i ej
        rw [ej] at h1
        omega
      · rfl
    · refine fo_rank_o ?_ (fo_copy_hi (by omega) (by omega) (by omega)) (fo_copy_hi (by omega) (by omega) (by omega))
      rw [fo_copy_pg (by omega) hj]
      split
      · rename_i ej
        rw [ej] at h1
        omega
      · rfl
theorem fo_cl_pt {f b : Nat} : ∀ (n i : Nat) (σ : fo_S), i + n ≤ 4 → b < 16 → (∀ k, i ≤ k → k < 4 → σ.1 (4 * b + k) = 0) → ∀ j, j < 64 →
    ((fo_cl f b n i σ).1 j = if j / 4 = b ∧ i ≤ j % 4 ∧ j % 4 < i + n ∧ 0 ≤ fo_lat σ.1 (4 * (f : Int) + ((j % 4 : Nat) : Int)) then 4 * (f : Int) + ((j % 4 : Nat) : Int) + 1 else σ.1 j) ∧
    ((fo_cl f b n i σ).1 (64 + j) = if j / 4 = b ∧ i ≤ j % 4 ∧ j % 4 < i + n ∧ 0 ≤ fo_lat σ.1 (4 * (f : Int) + ((j % 4 : Nat) : Int)) then σ.1 (64 + (fo_lat σ.1 (4 * (f : Int) + ((j % 4 : Nat) : Int))).toNat) else σ.1 (64 + j)) ∧
    ((fo_cl f b n i σ).1 (128 + j) = if j / 4 = b ∧ i ≤ j % 4 ∧ j % 4 < i + n ∧ 0 ≤ fo_lat σ.1 (4 * (f : Int) + ((j % 4 : Nat) : Int)) then σ.1 (128 + (fo_lat σ.1 (4 * (f : Int) + ((j % 4 : Nat) : Int))).toNat) else σ.1 (128 + j)) := by
  intro n
  induction n with
  | zero =>
    intro i σ _ _ _ j _
    rw [if_neg (by omega), if_neg (by omega), if_neg (by omega)]
    exact ⟨rfl, rfl, rfl⟩
  | succ n ih =>
    intro i σ hi hb he j hj
    have hl : 4 * b + i < 64 := by omega
    have e0 : σ.1 (4 * b + i) = 0 := he i (by omega) (by omega)
    generalize hτ : fo_copyI (fo_lat σ.1 (4 * (f : Int) + (i : Int))) (4 * b + i) σ = τ
    have t1 : ∀ j, j < 64 → j ≠ 4 * b + i → τ.1 j = σ.1 j ∧ τ.1 (64 + j) = σ.1 (64 + j) ∧ τ.1 (128 + j) = σ.1 (128 + j) := by
      intro j hj hne
      rw [← hτ]
      unfold fo_copyI
      split
      · exact ⟨rfl, rfl, rfl⟩
      · rw [fo_copy_pg hl hj, fo_copy_vl hl hj, fo_copy_st hl hj, if_neg hne, if_neg hne, if_neg hne]
        exact ⟨rfl, rfl, rfl⟩
    have t2 : ∀ k, k < 4 → k ≠ i → fo_lat τ.1 (4 * (f : Int) + (k : Int)) = fo_lat σ.1 (4 * (f : Int) + (k : Int)) := by
      intro k hk hne
      rw [← hτ]
      exact fo_lat_stp hb (by omega) hk hne e0 (fun _ => trivial)
    have t3 : (0 ≤ fo_lat σ.1 (4 * (f : Int) + (i : Int)) → τ.1 (4 * b + i) = 4 * (f : Int) + (i : Int) + 1 ∧ τ.1 (64 + (4 * b + i)) = σ.1 (64 + (fo_lat σ.1 (4 * (f : Int) + (i : Int))).toNat) ∧ τ.1 (128 + (4 * b + i)) = σ.1 (128 + (fo_lat σ.1 (4 * (f : Int) + (i : Int))).toNat)) ∧ (¬ 0 ≤ fo_lat σ.1 (4 * (f : Int) + (i : Int)) → τ = σ) := by
      rw [← hτ]
      unfold fo_copyI
      rcases fo_lat_cases σ.1 (4 * (f : Int) + (i : Int)) with e | ⟨m, e, hm, hpm⟩
      · rw [if_pos (by omega)]
        exact ⟨fun h => absurd h (by omega), fun _ => rfl⟩
      · rw [if_neg (by omega), e, fo_t0]
        refine ⟨fun _ => ?_, fun h => absurd h (by omega)⟩
        rw [fo_copy_pg hl hl, fo_copy_vl hl hl, fo_copy_st hl hl, if_pos rfl, if_pos rfl, if_pos rfl]
        exact ⟨hpm, rfl, rfl⟩
    obtain ⟨a1, a2, a3⟩ := ih (i + 1) τ (by omega) hb (fun k h1 h2 => by rw [(t1 _ (by omega) (by omega)).1]; exact he k (by omega) h2) j hj
    show (fo_cl f b n (i + 1) (fo_copyI (fo_lat σ.1 (4 * (f : Int) + (i : Int))) (4 * b + i) σ)).1 j = _ ∧ (fo_cl f b n (i + 1) (fo_copyI (fo_lat σ.1 (4 * (f : Int) + (i : Int))) (4 * b + i) σ)).1 (64 + j) = _ ∧ (fo_cl f b n (i + 1) (fo_copyI (fo_lat σ.1 (4 * (f : Int) + (i : Int))) (4 * b + i) σ)).1 (128 + j) = _
    rw [hτ, a1, a2, a3]
    by_cases hjb : j = 4 * b + i
    · have h4 : j / 4 = b := by omega
      have h5 : j % 4 = i := by omega
      have hA : ¬ (j / 4 = b ∧ i + 1 ≤ j % 4 ∧ j % 4 < i + 1 + n ∧ 0 ≤ fo_lat τ.1 (4 * (f : Int) + ((j % 4 : Nat) : Int))) := fun h => by omega
      rw [if_neg hA, if_neg hA, if_neg hA]
      by_cases hL : 0 ≤ fo_lat σ.1 (4 * (f : Int) + (i : Int))
      · obtain ⟨c1, c2, c3⟩ := t3.1 hL
        have hB : (j / 4 = b ∧ i ≤ j % 4 ∧ j % 4 < i + (n + 1) ∧ 0 ≤ fo_lat σ.1 (4 * (f : Int) + ((j % 4 : Nat) : Int))) := ⟨h4, by omega, by omega, by rw [h5]; exact hL⟩
        rw [if_pos hB, if_pos hB, if_pos hB, h5, hjb]
        exact ⟨c1, c2, c3⟩
      · have hB : ¬ (j / 4 = b ∧ i ≤ j % 4 ∧ j % 4 < i + (n + 1) ∧ 0 ≤ fo_lat σ.1 (4 * (f : Int) + ((j % 4 : Nat) : Int))) := fun h => hL (by have := h.2.2.2; rw [h5] at this; exact this)
        rw [if_neg hB, if_neg hB, if_neg hB, t3.2 hL]
        exact ⟨rfl, rfl, rfl⟩
    · obtain ⟨b1, b2, b3⟩ := t1 j hj hjb
      by_cases hjm : j / 4 = b ∧ i + 1 ≤ j % 4 ∧ j % 4 < i + 1 + n
      · have hne : j % 4 ≠ i := by omega
        have e2 := t2 (j % 4) (by omega) hne
        by_cases hL : 0 ≤ fo_lat σ.1 (4 * (f : Int) + ((j % 4 : Nat) : Int))
        · obtain ⟨m, em, hm, hpm⟩ := (fo_lat_cases σ.1 (4 * (f : Int) + ((j % 4 : Nat) : Int))).resolve_left (by omega)
          have hmne : m ≠ 4 * b + i := by
            intro h
            rw [h, e0] at hpm
            omega
          obtain ⟨d1, d2, d3⟩ := t1 m hm hmne
          have hA : (j / 4 = b ∧ i + 1 ≤ j % 4 ∧ j % 4 < i + 1 + n ∧ 0 ≤ fo_lat τ.1 (4 * (f : Int) + ((j % 4 : Nat) : Int))) := ⟨hjm.1, hjm.2.1, hjm.2.2, by rw [e2]; exact hL⟩
          have hB : (j / 4 = b ∧ i ≤ j % 4 ∧ j % 4 < i + (n + 1) ∧ 0 ≤ fo_lat σ.1 (4 * (f : Int) + ((j % 4 : Nat) : Int))) := ⟨hjm.1, by omega, by omega, hL⟩
          rw [if_pos hA, if_pos hA, if_pos hA, if_pos hB, if_pos hB, if_pos hB, e2, em, fo_t0]
          exact ⟨rfl, d2, d3⟩
        · have hA : ¬ (j / 4 = b ∧ i + 1 ≤ j % 4 ∧ j % 4 < i + 1 + n ∧ 0 ≤ fo_lat τ.1 (4 * (f : Int) + ((j % 4 : Nat) : Int))) := fun h => hL (by have := h.2.2.2; rw [e2] at this; exact this)
          have hB : ¬ (j / 4 = b ∧ i ≤ j % 4 ∧ j % 4 < i + (n + 1) ∧ 0 ≤ fo_lat σ.1 (4 * (f : Int) + ((j % 4 : Nat) : Int))) := fun h => hL h.2.2.2
          rw [if_neg hA, if_neg hA, if_neg hA, if_neg hB, if_neg hB, if_neg hB]
          exact ⟨b1, b2, b3⟩
      · have hA : ¬ (j / 4 = b ∧ i + 1 ≤ j % 4 ∧ j % 4 < i + 1 + n ∧ 0 ≤ fo_lat τ.1 (4 * (f : Int) + ((j % 4 : Nat) : Int))) := fun h => hjm ⟨h.1, h.2.1, h.2.2.1⟩
        have hB : ¬ (j / 4 = b ∧ i ≤ j % 4 ∧ j % 4 < i + (n + 1) ∧ 0 ≤ fo_lat σ.1 (4 * (f : Int) + ((j % 4 : Nat) : Int))) := fun h => hjb (by have := h.1; have := h.2.1; have := h.2.2.1; omega)
        rw [if_neg hA, if_neg hA, if_neg hA, if_neg hB, if_neg hB, if_neg hB]
        exact ⟨b1, b2, b3⟩
/-! pigeons -/
theorem fo_pigeon : ∀ (m n : Nat) (g : Nat → Nat), (∀ i, i < n → g i < m) → (∀ i j, i < n → j < n → g i = g j → i = j) → n ≤ m := by
  intro m
  induction m with
  | zero =>
    intro n g h _
    rcases Nat.eq_zero_or_pos n with e | e
    · omega
    · have := h 0 e; omega
  | succ m ih =>
    intro n g h hinj
    by_cases hx : ∃ i, i < n ∧ g i = m
    · obtain ⟨i, hi, hgi⟩ := hx
      suffices n - 1 ≤ m by omega
      refine ih (n - 1) (fun j => if j = i then g (n - 1) else g j) (fun j hj => ?_) (fun j k hj hk e => ?_)
      · split
        · rename_i e
          have h1 := h (n - 1) (by omega)
          by_cases h2 : g (n - 1) = m
          · have := hinj (n - 1) i (by omega) hi (by omega)
            omega
          · omega
        · have h1 := h j (by omega)
          by_cases h2 : g j = m
          · have := hinj j i (by omega) hi (by omega)
            omega
          · omega
      · split at e
        · rename_i e1
          split at e
          · omega
          · have := hinj (n - 1) k (by omega) (by omega) e
            omega
        · split at e
          · have := hinj j (n - 1) (by omega) (by omega) e
            omega
          · exact hinj j k (by omega) (by omega) e
    · have := ih n g (fun i hi => by
        have h1 := h i hi
        by_cases h2 : g i = m
        · exact absurd ⟨i, hi, h2⟩ hx
        · omega) hinj
      omega
/-! the strong invariant -/
def fo_Hu (r : fo_R) : Prop := ∀ b c, b < 16 → c < 16 → r (192 + b) = 1 → r (192 + c) = 1 → r (208 + b) = r (208 + c) → b = c
def fo_Ru (r : fo_R) : Prop := ∀ b c, b < 16 → c < 16 → r (192 + b) = 2 → r (192 + c) = 2 → b = c
def fo_Lu (r : fo_R) : Prop := ∀ b c, b < 16 → c < 16 → 3 ≤ r (192 + b) → r (192 + b) = r (192 + c) → r (208 + b) = r (208 + c) → b = c
def fo_Or (r : fo_R) : Prop := ∀ b, b < 16 → (r (192 + b) = 1 ∨ r (192 + b) = 2) → 0 ≤ r (208 + b) ∧ r (208 + b) ≤ 5
def fo_Lo (r : fo_R) : Prop := ∀ b, b < 16 → 3 ≤ r (192 + b) → 0 ≤ r (208 + b) ∧ r (208 + b) < fo_many r (r (192 + b))
def fo_Lm (r : fo_R) : Prop := fo_many r 3 ≤ r 271 ∧ fo_many r 4 ≤ r 272 ∧ 1 ≤ r 271 ∧ r 271 ≤ 3 ∧ 0 ≤ r 272 ∧ r 272 ≤ 2 ∧ 1 ≤ r 273 ∧ r 273 ≤ 9
def fo_Cg (r : fo_R) : Prop := ∀ b, b < 16 → 2 ≤ r (192 + b) → ∀ k, k < 3 → r (4 * b + k) = 0 → r (4 * b + k + 1) = 0
def fo_R0 (r : fo_R) : Prop := ∀ b, b < 16 → r (192 + b) = 2 → r (4 * b) ≠ 0
def fo_Ha (r : fo_R) : Prop := ∀ l, l < 64 → r l ≠ 0 → ∃ b, b < 16 ∧ r (192 + b) = 1 ∧ r (208 + b) = (r l - 1) / 4
def fo_Hb (r : fo_R) : Prop := ∀ b, b < 16 → r (192 + b) = 1 → ∃ l, l < 64 ∧ r l ≠ 0 ∧ (r l - 1) / 4 = r (208 + b)
def fo_Ls (r : fo_R) : Prop := ∀ k o, 3 ≤ k → 0 ≤ o → o < fo_many r k → ∃ b, b < 16 ∧ r (192 + b) = k ∧ r (208 + b) = o
def fo_SI (r : fo_R) : Prop := fo_Hu r ∧ fo_Ru r ∧ fo_Lu r ∧ fo_Or r ∧ fo_Lo r ∧ fo_Lm r ∧ fo_Cg r ∧ fo_R0 r ∧ fo_Ha r ∧ fo_Hb r ∧ fo_Ls r
theorem fo_SI.hu {r : fo_R} (h : fo_SI r) : fo_Hu r := h.1
theorem fo_SI.ru {r : fo_R} (h : fo_SI r) : fo_Ru r := h.2.1
theorem fo_SI.lu {r : fo_R} (h : fo_SI r) : fo_Lu r := h.2.2.1
theorem fo_SI.or {r : fo_R} (h : fo_SI r) : fo_Or r := h.2.2.2.1
theorem fo_SI.lo {r : fo_R} (h : fo_SI r) : fo_Lo r := h.2.2.2.2.1
theorem fo_SI.lm {r : fo_R} (h : fo_SI r) : fo_Lm r := h.2.2.2.2.2.1
theorem fo_SI.cg {r : fo_R} (h : fo_SI r) : fo_Cg r := h.2.2.2.2.2.2.1
theorem fo_SI.r0 {r : fo_R} (h : fo_SI r) : fo_R0 r := h.2.2.2.2.2.2.2.1
theorem fo_SI.ha {r : fo_R} (h : fo_SI r) : fo_Ha r := h.2.2.2.2.2.2.2.2.1
theorem fo_SI.hb {r : fo_R} (h : fo_SI r) : fo_Hb r := h.2.2.2.2.2.2.2.2.2.1
theorem fo_SI.ls {r : fo_R} (h : fo_SI r) : fo_Ls r := h.2.2.2.2.2.2.2.2.2.2
def fo_key (r : fo_R) (c : Nat) : Nat := if r (192 + c) = 1 then (r (208 + c)).toNat else if r (192 + c) = 2 then 6 else if r (192 + c) = 3 then 7 + (r (208 + c)).toNat else 10 + (r (208 + c)).toNat
theorem fo_key_spec {r : fo_R} (hK : fo_Kd r) (h4 : fo_Or r) (h5 : fo_Lo r) (h6 : fo_Lm r) (c : Nat) (hc : c < 16) (hn : r (192 + c) ≠ 0) :
    (r (192 + c) = 1 ∧ fo_key r c = (r (208 + c)).toNat ∧ 0 ≤ r (208 + c) ∧ r (208 + c) ≤ 5) ∨ (r (192 + c) = 2 ∧ fo_key r c = 6) ∨ (r (192 + c) = 3 ∧ fo_key r c = 7 + (r (208 + c)).toNat ∧ 0 ≤ r (208 + c) ∧ r (208 + c) ≤ 2) ∨ (r (192 + c) = 4 ∧ fo_key r c = 10 + (r (208 + c)).toNat ∧ 0 ≤ r (208 + c) ∧ r (208 + c) ≤ 1) := by
  have k := hK c hc
  have o := h4 c hc
  have l := h5 c hc
  unfold fo_Lm at h6
  unfold fo_key
  by_cases e1 : r (192 + c) = 1
  · have := o (Or.inl e1)
    rw [if_pos e1]
    exact Or.inl ⟨e1, rfl, this.1, this.2⟩
  · by_cases e2 : r (192 + c) = 2
    · rw [if_neg e1, if_pos e2]
      exact Or.inr (Or.inl ⟨e2, rfl⟩)
    · have l' := l (by omega)
      by_cases e3 : r (192 + c) = 3
      · rw [if_neg e1, if_neg e2, if_pos e3]
        rw [e3] at l'
        generalize fo_many r 3 = m3 at h6 l'
        exact Or.inr (Or.inr (Or.inl ⟨e3, rfl, l'.1, by omega⟩))
      · have e4 : r (192 + c) = 4 := by omega
        rw [if_neg e1, if_neg e2, if_neg e3]
        rw [e4] at l'
        generalize fo_many r 4 = m4 at h6 l'
        exact Or.inr (Or.inr (Or.inr ⟨e4, rfl, l'.1, by omega⟩))
/-- there is a free block: homes, the run and logs have fewer names than there are blocks -/
theorem fo_free_of {r : fo_R} (hK : fo_Kd r) (h1 : fo_Hu r) (h2 : fo_Ru r) (h3 : fo_Lu r) (h4 : fo_Or r) (h5 : fo_Lo r) (h6 : fo_Lm r) : 0 ≤ fo_free r := by
  rcases fo_free_spec r with ⟨_, hn⟩ | ⟨b, h, _, _⟩
  · exfalso
    have h16 : 16 ≤ 12 := by
      refine fo_pigeon 12 16 (fo_key r) (fun c hc => ?_) (fun c d hc hd e => ?_)
      · have := fo_key_spec hK h4 h5 h6 c hc (hn c hc)
        omega
      · have s1 := fo_key_spec hK h4 h5 h6 c hc (hn c hc)
        have s2 := fo_key_spec hK h4 h5 h6 d hd (hn d hd)
        have u1 := h1 c d hc hd
        have u2 := h2 c d hc hd
        have u3 := h3 c d hc hd
        rw [← e] at s2
        generalize fo_key r c = kc at s1 s2
        generalize r (192 + c) = kindc at *
        generalize r (192 + d) = kindd at *
        generalize r (208 + c) = oc at *
        generalize r (208 + d) = od at *
        rcases s1 with s1 | s1 | s1 | s1 <;> rcases s2 with s2 | s2 | s2 | s2
        · exact u1 s1.1 s2.1 (by omega)
        · omega
        · omega
        · omega
        · omega
        · exact u2 s1.1 s2.1
        · omega
        · omega
        · omega
        · omega
        · exact u3 (by omega) (by omega) (by omega)
        · omega
        · omega
        · omega
        · omega
        · exact u3 (by omega) (by omega) (by omega)
    omega
  · omega
theorem fo_many_congr {r q : fo_R} {k : Int} (h : ∀ c, c < 16 → (q (192 + c) = k ↔ r (192 + c) = k)) : fo_many q k = fo_many r k := by
  refine fo_fold_congr 16 0 0 (fun c v _ hc => ?_)
  unfold fo_cs
  have := h c (by omega)
  by_cases e : r (192 + c) = k
  · simp [e, this.mpr e]
  · have e' : ¬ q (192 + c) = k := fun h' => e (this.mp h')
    simp [e, e']
theorem fo_cs_cnt {P : Nat → Bool} : ∀ n i v, fo_fold (fo_cs P) n i v = v + fo_fold (fo_cs P) n i 0 := by
  intro n
  induction n with
  | zero => intro i v; rw [fo_fold_z, fo_fold_z]; omega
  | succ n ih =>
    intro i v
    rw [fo_fold_s, fo_fold_s, ih (i + 1) (fo_cs P i v), ih (i + 1) (fo_cs P i 0)]
    unfold fo_cs
    split <;> omega
/-- one more -/
theorem fo_cs_one {P Q : Nat → Bool} {b : Nat} (hP : P b = true) (hQ : Q b = false) (h : ∀ c, c ≠ b → P c = Q c) : ∀ n i, fo_fold (fo_cs P) n i 0 = fo_fold (fo_cs Q) n i 0 + (if i ≤ b ∧ b < i + n then 1 else 0) := by
  intro n
  induction n with
  | zero => intro i; rw [if_neg (by omega), fo_fold_z, fo_fold_z]; rfl
  | succ n ih =>
    intro i
    rw [fo_fold_s, fo_fold_s, fo_cs_cnt n (i + 1) (fo_cs P i 0), fo_cs_cnt n (i + 1) (fo_cs Q i 0), ih (i + 1)]
    by_cases e : i = b
    · subst e
      rw [if_neg (by omega), if_pos (by omega)]
      simp [fo_cs, hP, hQ]
      omega
    · have e1 : fo_cs P i 0 = fo_cs Q i 0 := by unfold fo_cs; rw [h i e]
      rw [e1]
      by_cases hr : i + 1 ≤ b ∧ b < i + 1 + n
      · rw [if_pos hr, if_pos (by omega)]; omega
      · rw [if_neg hr, if_neg (by omega)]; omega
theorem fo_many_one {r q : fo_R} {k : Int} {b : Nat} (hb : b < 16) (h1 : q (192 + b) = k) (h2 : r (192 + b) ≠ k) (h : ∀ c, c < 16 → c ≠ b → q (192 + c) = r (192 + c)) : fo_many q k = fo_many r k + 1 := by
  have e := fo_cs_one (P := fun c => decide ((if c < 16 then q (192 + c) else k + 1) = k)) (Q := fun c => decide ((if c < 16 then r (192 + c) else k + 1) = k)) (b := b) (by simp [hb, h1]) (by simp [hb, h2]) (fun c hc => by
    by_cases hc16 : c < 16
    · simp [hc16, h c hc16 hc]
    · simp [hc16]) 16 0
  rw [if_pos (by omega)] at e
  have f1 : fo_many q k = fo_fold (fo_cs (fun c => decide ((if c < 16 then q (192 + c) else k + 1) = k))) 16 0 0 := fo_fold_congr 16 0 0 (fun c v _ hc => by
    have h16 : c < 16 := by omega
    simp [fo_cs, h16])
  have f2 : fo_many r k = fo_fold (fo_cs (fun c => decide ((if c < 16 then r (192 + c) else k + 1) = k))) 16 0 0 := fo_fold_congr 16 0 0 (fun c v _ hc => by
    have h16 : c < 16 := by omega
    simp [fo_cs, h16])
  omega
theorem fo_many_pos {r : fo_R} {k : Int} : 0 ≤ fo_many r k := fo_fold_inv (f := fo_cs (fun b => decide (r (192 + b) = k))) (fun _ v => 0 ≤ v) 16 0 0 (Int.le_refl 0) (fun c v _ _ hv => by unfold fo_cs; split <;> omega)
