/-! ===== how many steps a write takes at most; wipes counted and wipes told ===== -/
def fo_LQ (x : Int) (n : Nat) (σ : fo_S) : Prop := σ.2.length ≤ n ∧ ((∃ q ∈ σ.2, 64 ≤ q.1) ∨ σ.1 266 = x)
section FOLQ
variable {x : Int} {n : Nat} {σ : fo_S}
theorem lq_up {m : Nat} (h : fo_LQ x n σ) (hm : n ≤ m) : fo_LQ x m σ := ⟨Nat.le_trans h.1 hm, h.2⟩
theorem lq_u {i : Nat} {v : Int} (hi : i ≠ 266) (h : fo_LQ x n σ) : fo_LQ x n (fo_u σ.1 i v, σ.2) := ⟨h.1, h.2.elim Or.inl (fun e => Or.inr (by dsimp only; rw [fo_u_o (by omega)]; exact e))⟩
theorem lq_cnt {w : Nat} (hw : w ≠ 266) (h : fo_LQ x n σ) : fo_LQ x n (fo_cnt w σ.1, σ.2) := lq_u hw h
theorem lq_put {l : Nat} {p v s : Int} (hl : l < 64) (h : fo_LQ x n σ) : fo_LQ x (n + 1) (fo_put l p v s σ) := by
  refine ⟨by simp only [fo_put, List.length_append, List.length_cons, List.length_nil]; have := h.1; omega, ?_⟩
  rcases h.2 with ⟨q, hq, h6⟩ | e
  · exact Or.inl ⟨q, by simp only [fo_put, List.mem_append]; exact Or.inl hq, h6⟩
  · exact Or.inr (by rw [fo_put_hi hl (by omega)]; exact e)
theorem lq_copy {g l : Nat} (hl : l < 64) (h : fo_LQ x n σ) : fo_LQ x (n + 1) (fo_copy g l σ) := lq_cnt (w := 265) (by decide) (lq_put hl h)
theorem lq_copyI {g : Int} {l : Nat} (hl : l < 64) (h : fo_LQ x n σ) : fo_LQ x (n + 1) (fo_copyI g l σ) := by
  unfold fo_copyI
  split
  · exact lq_up h (by omega)
  · exact lq_copy hl h
theorem lq_cl {f b : Nat} (hb : b < 16) : ∀ (k i n : Nat) (σ : fo_S), i + k ≤ 4 → fo_LQ x n σ → fo_LQ x (n + k) (fo_cl f b k i σ) := by
  intro k
  induction k with
  | zero => intro i n σ _ h; exact h
  | succ k ih =>
    intro i n σ hi h
    have := ih (i + 1) (n + 1) _ (by omega) (lq_copyI (g := fo_lat σ.1 (4 * (f : Int) + (i : Int))) (l := 4 * b + i) (by omega) h)
    rw [show n + (k + 1) = n + 1 + k by omega]
    exact this
theorem lq_wipe {b : Nat} (h : fo_LQ x n σ) : fo_LQ x (n + 1) (fo_wipe b σ) := by
  refine ⟨by simp only [fo_wipe, List.length_append, List.length_cons, List.length_nil]; have := h.1; omega, Or.inl ⟨(64 + (b : Int), 0, 0, 0), by simp [fo_wipe], by dsimp only; omega⟩⟩
theorem lq_wipeI {b : Int} (h : fo_LQ x n σ) : fo_LQ x (n + 1) (fo_wipeI b σ) := by
  unfold fo_wipeI
  split
  · exact lq_up h (by omega)
  · exact lq_wipe h
theorem fo_free_l16 {r : fo_R} : (fo_free r).toNat < 16 := by
  rcases fo_free_spec r with ⟨h1, _⟩ | ⟨j, h1, h2, _⟩ <;> omega
theorem lq_take {k o : Int} (h : fo_LQ x n σ) : fo_LQ x n (fo_take k o σ.1, σ.2) := by
  have := fo_free_l16 (r := σ.1)
  exact lq_u (σ := (fo_u σ.1 (192 + (fo_free σ.1).toNat) k, σ.2)) (by omega) (lq_u (by omega) h)
theorem lq_merge {f : Nat} (h : fo_LQ x n σ) : fo_LQ x (n + 6) (fo_merge f σ) := by
  have h1 := lq_cl (f := f) (fo_free_l16 (r := σ.1)) 4 0 n _ (by omega) (lq_take (k := 1) (o := (f : Int)) h)
  exact lq_cnt (w := 269) (by decide) (lq_wipeI (lq_wipeI h1))
theorem lq_seal {b f : Nat} (hb : b < 16) (h4 : fo_fill σ.1 b ≤ 4) (h : fo_LQ x n σ) : fo_LQ x (n + 6) (fo_sealA b f σ).2 := by
  unfold fo_sealA
  split
  · have h1 := lq_cl (f := f) hb (4 - fo_fill σ.1 b) (fo_fill σ.1 b) n σ (by omega) h
    have h2 := lq_u (i := 192 + b) (v := 1) (by omega) h1
    have h3 := lq_wipeI (b := fo_blk σ.1 1 (f : Int)) h2
    exact lq_up (lq_cnt (w := if fo_fill σ.1 b = 4 then 267 else 268) (by split <;> decide) h3) (by omega)
  · exact lq_merge h
theorem lq_clr {r0 : fo_R} {b : Nat} : ∀ (k f n : Nat) (σ : fo_S), fo_LQ x n σ → fo_LQ x (n + k * 6) (fo_clr r0 b k f σ) := by
  intro k
  induction k with
  | zero => intro f n σ h; exact lq_up h (by omega)
  | succ k ih =>
    intro f n σ h
    have e : fo_clr r0 b (k + 1) f σ = fo_clr r0 b k (f + 1) (if fo_hasF r0 b f = true then fo_merge f σ else σ) := rfl
    rw [e]
    refine lq_up (ih (f + 1) (n + 6) _ ?_) (by omega)
    split
    · exact lq_merge h
    · exact lq_up h (by omega)
theorem lq_clear {k : Int} (h : fo_LQ x n σ) : fo_LQ x (n + 37) (fo_clear k σ) := lq_up (lq_wipe (lq_clr 6 0 n σ h)) (by omega)
theorem lq_logA {k : Int} (h : fo_LQ x n σ) : fo_LQ x (n + 37) (fo_logA k σ).2 := by
  unfold fo_logA
  split
  · exact lq_up h (by omega)
  · refine lq_take (σ := fo_logC k σ) ?_
    unfold fo_logC
    by_cases hc : fo_many σ.1 k = σ.1 (if k = 4 then 272 else 271)
    · rw [if_pos hc]
      exact lq_clear h
    · rw [if_neg hc]
      exact lq_up h (by omega)
theorem lq_fill {r : fo_R} {b : Nat} : fo_fill r b ≤ 4 := by
  unfold fo_fill
  repeat' split
  all_goals omega
theorem lq_leafA {p c : Nat} (h : fo_LQ x n σ) : fo_LQ x (n + 37) (fo_leafA p c σ).2.2 := by
  unfold fo_leafA
  split
  · exact lq_up h (by omega)
  · split
    · refine lq_take (σ := if 0 ≤ fo_run σ.1 then (fo_seal σ).2 else σ) ?_
      split
      · rename_i hr
        rcases fo_run_spec σ.1 with ⟨e, _⟩ | ⟨m, e, hm, _⟩
        · omega
        · unfold fo_seal
          rw [e, fo_t0]
          exact lq_up (lq_seal hm lq_fill h) (by omega)
      · exact lq_up h (by omega)
    · split
      · exact lq_up h (by omega)
      · exact lq_logA h
theorem lq_leaf {p : Nat} (h : fo_LQ x n σ) : fo_LQ x (n + 37) (fo_leaf p σ).2.2 := by
  unfold fo_leaf
  split
  · exact lq_leafA h
  · exact lq_leafA (σ := (fo_take 1 ((p / 4 : Nat) : Int) σ.1, σ.2)) (lq_take h)
theorem lq_wr2 {p : Nat} {v : Int} {r : fo_R} (hp : p < 24) (hI : fo_I r) : fo_LQ (r 266) 44 (fo_wr2 p v r) := by
  have h0 : fo_LQ (r 266) 0 (fo_pre p r, []) := ⟨Nat.le_refl _, Or.inr (by dsimp only; rw [fo_pre_o hp (by omega) (by omega)])⟩
  have h1 := lq_leaf (p := p) h0
  obtain ⟨w1, w2, w3, l, el, hl, h4⟩ := fo_wr1_ok (v := v) hp hI
  have h2 : fo_LQ (r 266) 38 (fo_wr1 p v r).2.2 := by
    unfold fo_wr1 at el ⊢
    dsimp only at el ⊢
    rw [el, fo_t0]
    exact lq_put hl h1
  unfold fo_wr2
  split
  · rename_i e
    rcases fo_run_spec (fo_wr1 p v r).2.2.1 with ⟨er, g⟩ | ⟨m, er, hm, _⟩
    · exact absurd (h4 e.1).1 (g _ (by omega))
    · unfold fo_seal
      rw [er, fo_t0]
      exact lq_cnt (w := 264) (by decide) (lq_seal hm lq_fill h2)
  · exact lq_up (lq_cnt (w := 264) (by decide) h2) (by omega)
theorem lq_lvlC {h b : Nat} (hb : b < 16) : ∀ (k i n : Nat) (σ : fo_S), i + k ≤ 4 → fo_LQ x n σ → fo_LQ x (n + k) (fo_lvlC h b k i σ) := by
  intro k
  induction k with
  | zero => intro i n σ _ g; exact g
  | succ k ih =>
    intro i n σ hi g
    have e : fo_lvlC h b (k + 1) i σ = fo_lvlC h b k (i + 1) (if 0 < σ.1 (4 * h + i) then fo_copy (4 * h + i) (4 * b + i) σ else σ) := rfl
    rw [e, show n + (k + 1) = n + 1 + k by omega]
    refine ih (i + 1) (n + 1) _ (by omega) ?_
    split
    · exact lq_copy (by omega) g
    · exact lq_up g (by omega)
theorem lq_write {ev : fo_R → Int} {p : Nat} {v : Int} {r : fo_R} (hp : p < 24) (hI : fo_I r) : (fo_write ev p v r).2.length ≤ 49 := by
  have h := lq_wr2 (v := v) hp hI
  unfold fo_write
  split
  · unfold fo_level
    split
    · rename_i e
      obtain ⟨g, b, q, p', q1, p1, _⟩ := fo_lvlOk_spec e
      rw [q, p', fo_t0, fo_t0]
      have h1 := lq_lvlC (h := g) p1 4 0 44 (fo_wr2 p v r) (by omega) h
      have h2 := h1.1
      unfold fo_levelS
      simp only [fo_wipe, List.length_append, List.length_cons, List.length_nil]
      omega
    · have := h.1; omega
  · have := h.1; omega
end FOLQ
