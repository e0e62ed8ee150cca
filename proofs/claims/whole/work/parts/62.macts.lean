/-! ===== the model's acts are those of the picture ===== -/
def fo_MR (a n0 : Nat) (M0 M : ax_M) (σ : fo_S) : Prop :=
  M a = σ.1 ∧ M 0 20 = (if n0 + σ.2.length < 400 then ((n0 + σ.2.length : Nat) : Int) else 400) ∧
  (∀ i q, σ.2[i]? = some q → n0 + i < 400 → M 9 (n0 + i) = q.1 ∧ M 10 (n0 + i) = q.2.1 ∧ M 11 (n0 + i) = q.2.2.1 ∧ M 12 (n0 + i) = q.2.2.2) ∧
  (∀ s, s ≠ a → s ≠ 0 → s < 9 ∨ 12 < s → M s = M0 s) ∧ ∀ f, f ≠ 20 → M 0 f = M0 0 f
def fo_Na (a : Nat) : Prop := a ≠ 0 ∧ (a < 9 ∨ 12 < a)
section FOM
variable {a n0 : Nat} {M0 M : ax_M} {σ : fo_S}
theorem fo_MR_up (ha : fo_Na a) (i : Nat) (v : Int) (h : fo_MR a n0 M0 M σ) : fo_MR a n0 M0 (ax_up M a i v) (fo_u σ.1 i v, σ.2) := by
  obtain ⟨h1, h2, h3, h4, h5⟩ := h
  obtain ⟨a0, a9⟩ := ha
  refine ⟨by rw [fo_up_at, h1], by rw [ax_up_ne (Ne.symm a0)]; exact h2, fun i q e hi => ?_, fun s s1 s2 s3 => by rw [ax_up_ne s1]; exact h4 s s1 s2 s3, fun f hf => by rw [ax_up_ne (Ne.symm a0)]; exact h5 f hf⟩
  rw [ax_up_ne (by omega), ax_up_ne (by omega), ax_up_ne (by omega), ax_up_ne (by omega)]
  exact h3 i q e hi
theorem fm_tells (ha : fo_Na a) (q : fo_T) (h : fo_MR a n0 M0 M σ) : fo_MR a n0 M0 (f_X3_tellsStep q.1 q.2.1 q.2.2.1 q.2.2.2 M) (σ.1, σ.2 ++ [q]) := by
  obtain ⟨h1, h2, h3, h4, h5⟩ := h
  obtain ⟨a0, a9⟩ := ha
  unfold f_X3_tellsStep
  have hlen : (σ.2 ++ [q]).length = σ.2.length + 1 := by simp
  by_cases hn : n0 + σ.2.length < 400
  · rw [if_pos hn] at h2
    rw [if_neg (by omega)]
    simp only [ax_bd]
    generalize hm : n0 + σ.2.length = m at *
    have e1 : M 0 20 = (m : Int) := h2
    have f1 : ∀ (N : ax_M) (k : Nat) (x y : Int), k ≠ 0 → ax_up N k x.toNat y 0 20 = N 0 20 := fun N k x y hk => by rw [ax_up_ne (Ne.symm hk)]
    rw [f1 _ 12 _ _ (by decide), f1 _ 11 _ _ (by decide), f1 _ 10 _ _ (by decide), f1 _ 9 _ _ (by decide), e1, fo_t0]
    refine ⟨?_, ?_, ?_, ?_, ?_⟩
    · rw [ax_up_ne a0, ax_up_ne (by omega), ax_up_ne (by omega), ax_up_ne (by omega), ax_up_ne (by omega)]
      exact h1
    · rw [fo_up_at, fo_u_s]
      show (m : Int) + 1 = if n0 + (σ.2 ++ [q]).length < 400 then ((n0 + (σ.2 ++ [q]).length : Nat) : Int) else 400
      rw [hlen]
      split <;> omega
    · intro i t e hi
      have e0 : ∀ k, 9 ≤ k → k ≤ 12 → (ax_up (ax_up (ax_up (ax_up (ax_up M 9 m q.1) 10 m q.2.1) 11 m q.2.2.1) 12 m q.2.2.2) 0 20 ((m : Int) + 1)) k = (ax_up (ax_up (ax_up (ax_up M 9 m q.1) 10 m q.2.1) 11 m q.2.2.1) 12 m q.2.2.2) k := fun k h1 h2 => ax_up_ne (by omega)
      rw [e0 9 (by omega) (by omega), e0 10 (by omega) (by omega), e0 11 (by omega) (by omega), e0 12 (by omega) (by omega)]
      have g9 : ax_up (ax_up (ax_up (ax_up M 9 m q.1) 10 m q.2.1) 11 m q.2.2.1) 12 m q.2.2.2 9 = fo_u (M 9) m q.1 := by rw [ax_up_ne (by decide), ax_up_ne (by decide), ax_up_ne (by decide), fo_up_at]
      have g10 : ax_up (ax_up (ax_up (ax_up M 9 m q.1) 10 m q.2.1) 11 m q.2.2.1) 12 m q.2.2.2 10 = fo_u (M 10) m q.2.1 := by rw [ax_up_ne (by decide), ax_up_ne (by decide), fo_up_at, ax_up_ne (by decide)]
      have g11 : ax_up (ax_up (ax_up (ax_up M 9 m q.1) 10 m q.2.1) 11 m q.2.2.1) 12 m q.2.2.2 11 = fo_u (M 11) m q.2.2.1 := by rw [ax_up_ne (by decide), fo_up_at, ax_up_ne (by decide), ax_up_ne (by decide)]
      have g12 : ax_up (ax_up (ax_up (ax_up M 9 m q.1) 10 m q.2.1) 11 m q.2.2.1) 12 m q.2.2.2 12 = fo_u (M 12) m q.2.2.2 := by rw [fo_up_at, ax_up_ne (by decide), ax_up_ne (by decide), ax_up_ne (by decide)]
      rw [g9, g10, g11, g12]
      by_cases hil : i < σ.2.length
      · have e' : σ.2[i]? = some t := by rw [← e]; exact (List.getElem?_append_left hil).symm
        rw [fo_u_o (by omega), fo_u_o (by omega), fo_u_o (by omega), fo_u_o (by omega)]
        exact h3 i t e' hi
      · have hi2 : i = σ.2.length := by
          have := (List.getElem?_eq_some_iff.mp e).1
          rw [hlen] at this
          omega
        subst hi2
        have e' : t = q := by
          have : (σ.2 ++ [q])[σ.2.length]? = some q := by simp
          rw [this] at e
          exact (Option.some.inj e).symm
        subst e'
        rw [hm, fo_u_s, fo_u_s, fo_u_s, fo_u_s]
        exact ⟨rfl, rfl, rfl, rfl⟩
    · intro s s1 s2 s3
      rw [ax_up_ne s2, ax_up_ne (by omega), ax_up_ne (by omega), ax_up_ne (by omega), ax_up_ne (by omega)]
      exact h4 s s1 s2 s3
    · intro f hf
      rw [fo_up_at, fo_u_o hf, ax_up_ne (by omega), ax_up_ne (by omega), ax_up_ne (by omega), ax_up_ne (by omega)]
      exact h5 f hf
  · rw [if_neg hn] at h2
    rw [if_pos (by omega)]
    refine ⟨h1, ?_, fun i t e hi => ?_, h4, h5⟩
    · show M 0 20 = if n0 + (σ.2 ++ [q]).length < 400 then ((n0 + (σ.2 ++ [q]).length : Nat) : Int) else 400
      rw [hlen, if_neg (by omega)]
      exact h2
    · have e' : σ.2[i]? = some t := by rw [← e]; exact (List.getElem?_append_left (by omega)).symm
      exact h3 i t e' hi
theorem fm_counts (ha : fo_Na a) {k : Nat} (hk : 0 ≤ σ.1 k ∧ σ.1 k ≤ 99999) (h : fo_MR a n0 M0 M σ) : fo_MR a n0 M0 (f_X3_counts a (k : Int) M) (fo_cnt k σ.1, σ.2) := by
  have e : f_X3_counts a (k : Int) M = ax_up M a k (if σ.1 k < 99999 then σ.1 k + 1 else 99999) := by
    unfold f_X3_counts
    simp only [ax_bd]
    rw [fo_t0, h.1, ax_wr_id (by omega) (by omega)]
    congr 1
    split <;> split <;> omega
  rw [e]
  exact fo_MR_up ha k _ h
theorem fm_puts (ha : fo_Na a) {l : Nat} {p v s : Int} (hp : -1 ≤ p ∧ p ≤ 1000) (h : fo_MR a n0 M0 M σ) : fo_MR a n0 M0 (f_X3_puts a (l : Int) p v s M) (fo_put l p v s σ) := by
  unfold f_X3_puts
  simp only [ax_bd]
  rw [fo_t0, fo_t64, fo_t128, ax_wr_id (by omega) (by omega)]
  exact fm_tells ha ((l : Int), p, v, s) (fo_MR_up ha _ _ (fo_MR_up ha _ _ (fo_MR_up ha _ _ h)))
theorem fm_copies (ha : fo_Na a) {g l : Nat} (hg : 0 ≤ σ.1 g ∧ σ.1 g ≤ 24) (hl : l < 64) (hct : 0 ≤ σ.1 265 ∧ σ.1 265 ≤ 99999) (h : fo_MR a n0 M0 M σ) : fo_MR a n0 M0 (f_X3_copiesLeaf a (g : Int) (l : Int) M) (fo_copy g l σ) := by
  unfold f_X3_copiesLeaf
  simp only [ax_bd]
  rw [fm_pageAt (by rw [fo_t0, h.1]; exact hg), fo_t0, fo_t64, fo_t128, h.1]
  exact fm_counts (k := 265) ha (by rw [fo_put_hi hl (by omega)]; exact hct) (fm_puts ha (by omega) h)
end FOM
