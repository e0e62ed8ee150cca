/-! ===== what each step of a write holds to: values by page and stamp; copies only grow ===== -/
/-- a leaf, as it may be: val the value by page and stamp -/
def fo_LV (val : Int → Int → Int) (r : fo_R) : Prop := ∀ l, l < 64 → 0 ≤ r l ∧ r l ≤ 24 ∧ 0 ≤ r (128 + l) ∧ r (128 + l) ≤ 2147483647 ∧ (r l ≠ 0 → r (64 + l) = val (r l) (r (128 + l)))
def fo_TV (val : Int → Int → Int) (t : List fo_T) : Prop := ∀ q ∈ t, 0 ≤ q.1 ∧ q.1 < 80 ∧ (q.1 < 64 → 0 ≤ q.2.1 ∧ q.2.1 < 24 ∧ 0 ≤ q.2.2.2 ∧ q.2.2.2 ≤ 2147483647 ∧ q.2.2.1 = val (q.2.1 + 1) q.2.2.2)
def fo_XQ (c : Int) (val : Int → Int → Int) (σ : fo_S) : Prop := (c ≤ σ.1 265 ∧ c ≤ 99999 ∧ σ.1 265 ≤ 99999) ∧ fo_LV val σ.1 ∧ fo_TV val σ.2
section FOXQ
variable {c : Int} {val : Int → Int → Int} {σ : fo_S}
theorem xq_u {i : Nat} {v : Int} (h0 : 192 ≤ i) (hi : i ≠ 265) (h : fo_XQ c val σ) : fo_XQ c val (fo_u σ.1 i v, σ.2) := by
  obtain ⟨h1, h2, h3⟩ := h
  refine ⟨?_, fun l hl => ?_, h3⟩
  · dsimp only
    rw [fo_u_o (by omega)]
    exact h1
  · dsimp only
    rw [fo_u_o (by omega), fo_u_o (by omega), fo_u_o (by omega)]
    exact h2 l hl
theorem xq_cnt {w : Nat} (hw : 264 ≤ w) (h : fo_XQ c val σ) : fo_XQ c val (fo_cnt w σ.1, σ.2) := by
  by_cases e : w = 265
  · subst e
    obtain ⟨h1, h2, h3⟩ := h
    refine ⟨?_, fun l hl => ?_, h3⟩
    · show (c ≤ fo_cnt 265 σ.1 265 ∧ c ≤ 99999 ∧ fo_cnt 265 σ.1 265 ≤ 99999)
      unfold fo_cnt
      rw [fo_u_s]
      split <;> omega
    · dsimp only
      rw [fo_cnt_o (by omega), fo_cnt_o (by omega), fo_cnt_o (by omega)]
      exact h2 l hl
  · exact xq_u (by omega) e h
theorem xq_put {l : Nat} {p v s : Int} (hl : l < 64) (hp : 0 ≤ p ∧ p < 24) (hs : 0 ≤ s ∧ s ≤ 2147483647) (hv : v = val (p + 1) s) (h : fo_XQ c val σ) : fo_XQ c val (fo_put l p v s σ) := by
  obtain ⟨h1, h2, h3⟩ := h
  refine ⟨by rw [fo_put_hi hl (by omega)]; exact h1, fun j hj => ?_, fun q hq => ?_⟩
  · rw [fo_put_pg hl hj, fo_put_vl hl hj, fo_put_st hl hj]
    by_cases e : j = l
    · rw [if_pos e, if_pos e, if_pos e]
      exact ⟨by omega, by omega, hs.1, hs.2, fun _ => hv⟩
    · rw [if_neg e, if_neg e, if_neg e]
      exact h2 j hj
  · have hq' : q ∈ σ.2 ++ [((l : Int), p, v, s)] := hq
    rcases List.mem_append.mp hq' with e | e
    · exact h3 q e
    · rw [List.mem_singleton] at e
      subst e
      exact ⟨by dsimp only; omega, by dsimp only; omega, fun _ => ⟨hp.1, hp.2, hs.1, hs.2, hv⟩⟩
theorem xq_copy {g l : Nat} (hg : g < 64) (h0 : σ.1 g ≠ 0) (hl : l < 64) (h : fo_XQ c val σ) : fo_XQ c val (fo_copy g l σ) := by
  have a := h.2.1 g hg
  refine xq_cnt (σ := fo_put l (σ.1 g - 1) (σ.1 (64 + g)) (σ.1 (128 + g)) σ) (by decide) (xq_put hl (by omega) ⟨a.2.2.1, a.2.2.2.1⟩ ?_ h)
  rw [a.2.2.2.2 h0, show σ.1 g - 1 + 1 = σ.1 g by omega]
theorem xq_copyI {p : Int} {l : Nat} (hp : 0 ≤ p) (hl : l < 64) (h : fo_XQ c val σ) : fo_XQ c val (fo_copyI (fo_lat σ.1 p) l σ) := by
  unfold fo_copyI
  split
  · exact h
  · rcases fo_lat_spec σ.1 p with ⟨e, _⟩ | ⟨m, e, hm, e1, _⟩
    · omega
    · rw [e, fo_t0]
      exact xq_copy hm (by omega) hl h
theorem xq_cl {f b : Nat} (hb : b < 16) : ∀ (k i : Nat) (σ : fo_S), i + k ≤ 4 → fo_XQ c val σ → fo_XQ c val (fo_cl f b k i σ) := by
  intro k
  induction k with
  | zero => intro i σ _ h; exact h
  | succ k ih =>
    intro i σ hi h
    exact ih (i + 1) _ (by omega) (xq_copyI (l := 4 * b + i) (by omega) (by omega) h)
theorem xq_wipe {b : Nat} (hb : b < 16) (h : fo_XQ c val σ) : fo_XQ c val (fo_wipe b σ) := by
  obtain ⟨h1, h2, h3⟩ := h
  refine xq_cnt (σ := (fo_wp b σ.1, σ.2 ++ [(64 + (b : Int), 0, 0, 0)])) (by decide) ⟨?_, fun l hl => ?_, fun q hq => ?_⟩
  · dsimp only
    rw [fo_wp_hi hb (by omega)]
    exact h1
  · dsimp only
    rw [fo_wp_pg hl, fo_wp_vl hl, fo_wp_st hl]
    by_cases e : l / 4 = b
    · rw [if_pos e, if_pos e, if_pos e]
      exact ⟨by omega, by omega, by omega, by omega, fun h => absurd rfl h⟩
    · rw [if_neg e, if_neg e, if_neg e]
      exact h2 l hl
  · rcases List.mem_append.mp hq with e | e
    · exact h3 q e
    · rw [List.mem_singleton] at e
      subst e
      exact ⟨by dsimp only; omega, by dsimp only; omega, fun h => by dsimp only at h; omega⟩
theorem xq_wipeI {r : fo_R} {k o : Int} (h : fo_XQ c val σ) : fo_XQ c val (fo_wipeI (fo_blk r k o) σ) := by
  unfold fo_wipeI
  split
  · exact h
  · rcases fo_blk_spec r k o with ⟨e, _⟩ | ⟨m, e, hm, _⟩
    · omega
    · rw [e, fo_t0]
      exact xq_wipe hm h
theorem xq_take {k o : Int} (h : fo_XQ c val σ) : fo_XQ c val (fo_take k o σ.1, σ.2) := by
  have := fo_free_l16 (r := σ.1)
  exact xq_u (σ := (fo_u σ.1 (192 + (fo_free σ.1).toNat) k, σ.2)) (by omega) (by omega) (xq_u (by omega) (by omega) h)
theorem xq_merge {f : Nat} (h : fo_XQ c val σ) : fo_XQ c val (fo_merge f σ) := by
  have h1 := xq_cl (f := f) (fo_free_l16 (r := σ.1)) 4 0 _ (by omega) (xq_take (k := 1) (o := (f : Int)) h)
  exact xq_cnt (w := 269) (by decide) (xq_wipeI (xq_wipeI h1))
theorem xq_seal {b f : Nat} (hb : b < 16) (h4 : fo_fill σ.1 b ≤ 4) (h : fo_XQ c val σ) : fo_XQ c val (fo_sealA b f σ).2 := by
  unfold fo_sealA
  split
  · have h1 := xq_cl (f := f) hb (4 - fo_fill σ.1 b) (fo_fill σ.1 b) σ (by omega) h
    have h2 := xq_u (i := 192 + b) (v := 1) (by omega) (by omega) h1
    have h3 := xq_wipeI (r := σ.1) (k := 1) (o := (f : Int)) h2
    exact xq_cnt (w := if fo_fill σ.1 b = 4 then 267 else 268) (by split <;> decide) h3
  · exact xq_merge h
theorem xq_clr {r0 : fo_R} {b : Nat} : ∀ (k f : Nat) (σ : fo_S), fo_XQ c val σ → fo_XQ c val (fo_clr r0 b k f σ) := by
  intro k
  induction k with
  | zero => intro f σ h; exact h
  | succ k ih =>
    intro f σ h
    have e : fo_clr r0 b (k + 1) f σ = fo_clr r0 b k (f + 1) (if fo_hasF r0 b f = true then fo_merge f σ else σ) := rfl
    rw [e]
    refine ih (f + 1) _ ?_
    split
    · exact xq_merge h
    · exact h
theorem fo_blk_l16 {r : fo_R} {k o : Int} : (fo_blk r k o).toNat < 16 := by
  rcases fo_blk_spec r k o with ⟨e, _⟩ | ⟨m, e, hm, _⟩ <;> omega
theorem xq_clear {k : Int} (h : fo_XQ c val σ) : fo_XQ c val (fo_clear k σ) := xq_wipe fo_blk_l16 (xq_clr 6 0 σ h)
theorem xq_logA {k : Int} (h : fo_XQ c val σ) : fo_XQ c val (fo_logA k σ).2 := by
  unfold fo_logA
  split
  · exact h
  · refine xq_take (σ := fo_logC k σ) ?_
    unfold fo_logC
    by_cases hc : fo_many σ.1 k = σ.1 (if k = 4 then 272 else 271)
    · rw [if_pos hc]
      exact xq_clear h
    · rw [if_neg hc]
      exact h
theorem xq_leafA {p d : Nat} (h : fo_XQ c val σ) : fo_XQ c val (fo_leafA p d σ).2.2 := by
  unfold fo_leafA
  split
  · exact h
  · split
    · refine xq_take (σ := if 0 ≤ fo_run σ.1 then (fo_seal σ).2 else σ) ?_
      split
      · rename_i hr
        rcases fo_run_spec σ.1 with ⟨e, _⟩ | ⟨m, e, hm, _⟩
        · omega
        · unfold fo_seal
          rw [e, fo_t0]
          exact xq_seal hm lq_fill h
      · exact h
    · split
      · exact h
      · exact xq_logA h
theorem xq_leaf {p : Nat} (h : fo_XQ c val σ) : fo_XQ c val (fo_leaf p σ).2.2 := by
  unfold fo_leaf
  split
  · exact xq_leafA h
  · exact xq_leafA (σ := (fo_take 1 ((p / 4 : Nat) : Int) σ.1, σ.2)) (xq_take h)
/-- values of before, and that of the write -/
def fo_val (r : fo_R) (p : Nat) (v : Int) (P S : Int) : Int := if P = (p : Int) + 1 ∧ S = r 270 + 1 then v else r (64 + (fo_find (fun l => decide (r l = P ∧ r (128 + l) = S)) 64 0).toNat)
theorem fo_val_old {r : fo_R} {p l : Nat} {v : Int} (hI : fo_I r) (hl : l < 64) (h0 : r l ≠ 0) : r (64 + l) = fo_val r p v (r l) (r (128 + l)) := by
  have hs := hI.2.1.sb l hl
  unfold fo_val
  rw [if_neg (fun h => by omega)]
  rcases fo_find_spec (P := fun m => decide (r m = r l ∧ r (128 + m) = r (128 + l))) 64 0 with ⟨_, h2⟩ | ⟨m, h1, _, h3, h4, _⟩
  · have := h2 l (Nat.zero_le _) (by omega)
    rw [decide_eq_false_iff_not] at this
    exact absurd ⟨rfl, rfl⟩ this
  · rw [decide_eq_true_eq] at h4
    rw [h1, fo_t0]
    exact hI.2.1.sv l m hl (by omega) h0 h4.1.symm h4.2.symm
theorem xq_start {p : Nat} {v : Int} {r : fo_R} (hp : p < 24) (hI : fo_I r) (hclk : r 270 < 2147483647) : fo_XQ (r 265) (fo_val r p v) (fo_pre p r, []) := by
  have c5 := hI.2.1.ct 265 (by omega) (by omega)
  refine ⟨?_, fun l hl => ?_, fun q hq => by cases hq⟩
  · dsimp only
    rw [fo_pre_o hp (by omega) (by omega)]
    omega
  · dsimp only
    rw [fo_pre_o hp (by omega) (by omega), fo_pre_o hp (by omega) (by omega), fo_pre_o hp (by omega) (by omega)]
    have a := hI.2.1.pg l hl
    have b := hI.2.1.sb l hl
    exact ⟨a.1, a.2, b.1, by omega, fo_val_old hI hl⟩
theorem xq_wr2 {p : Nat} {v : Int} {r : fo_R} (hp : p < 24) (hI : fo_I r) (hclk : r 270 < 2147483647) : fo_XQ (r 265) (fo_val r p v) (fo_wr2 p v r) := by
  have h1 := xq_leaf (p := p) (xq_start (v := v) hp hI hclk)
  have h00 := hI.1
  obtain ⟨w1, w2, w3, l, el, hl, h4⟩ := fo_wr1_ok (v := v) hp hI
  have h2 : fo_XQ (r 265) (fo_val r p v) (fo_wr1 p v r).2.2 := by
    unfold fo_wr1 at el ⊢
    dsimp only at el ⊢
    rw [el, fo_t0]
    exact xq_put hl (by omega) (by omega) (by unfold fo_val; rw [if_pos ⟨rfl, rfl⟩]) h1
  unfold fo_wr2
  split
  · rename_i e
    rcases fo_run_spec (fo_wr1 p v r).2.2.1 with ⟨er, g⟩ | ⟨m, er, hm, _⟩
    · exact absurd (h4 e.1).1 (g _ (by omega))
    · unfold fo_seal
      rw [er, fo_t0]
      exact xq_cnt (w := 264) (by decide) (xq_seal hm lq_fill h2)
  · exact xq_cnt (w := 264) (by decide) h2
theorem xq_lvlC {h b : Nat} (hh : h < 16) (hb : b < 16) : ∀ (k i : Nat) (σ : fo_S), i + k ≤ 4 → fo_XQ c val σ → fo_XQ c val (fo_lvlC h b k i σ) := by
  intro k
  induction k with
  | zero => intro i σ _ g; exact g
  | succ k ih =>
    intro i σ hi g
    have e : fo_lvlC h b (k + 1) i σ = fo_lvlC h b k (i + 1) (if 0 < σ.1 (4 * h + i) then fo_copy (4 * h + i) (4 * b + i) σ else σ) := rfl
    rw [e]
    refine ih (i + 1) _ (by omega) ?_
    split
    · rename_i h0
      exact xq_copy (by omega) (by omega) (by omega) g
    · exact g
theorem xq_write {ev : fo_R → Int} {p : Nat} {v : Int} {r : fo_R} (hp : p < 24) (hI : fo_I r) (hclk : r 270 < 2147483647) : fo_XQ (r 265) (fo_val r p v) (fo_write ev p v r) := by
  have h := xq_wr2 (v := v) hp hI hclk
  unfold fo_write
  split
  · unfold fo_level
    split
    · rename_i e
      obtain ⟨g, b, q, p', q1, p1, _⟩ := fo_lvlOk_spec e
      rw [q, p', fo_t0, fo_t0]
      have h1 := xq_lvlC q1 p1 4 0 (fo_wr2 p v r) (by omega) h
      unfold fo_levelS
      exact xq_wipe q1 (xq_u (σ := (fo_u (fo_lvlC g b 4 0 (fo_wr2 p v r)).1 (192 + b) 1, (fo_lvlC g b 4 0 (fo_wr2 p v r)).2)) (by omega) (by omega) (xq_u (by omega) (by omega) h1))
    · exact h
  · exact h
/-- any first steps leave leaves as they may be -/
theorem fo_LV_ap : ∀ (t : List fo_T) (r : fo_R), fo_LV val r → fo_TV val t → fo_LV val (fo_ap r t) := by
  intro t
  induction t with
  | nil => intro r h _; exact h
  | cons q t ih =>
    intro r h ht
    obtain ⟨a1, a2, a3⟩ := ht q List.mem_cons_self
    refine ih (fo_ap1 r q) (fun l hl => ?_) (fun q' hq' => ht q' (List.mem_cons_of_mem _ hq'))
    have hr := h l hl
    unfold fo_ap1
    by_cases h64 : q.1 < 64
    · rw [if_pos h64]
      obtain ⟨b1, b2, b3, b4, b5⟩ := a3 h64
      simp only [fo_u_eq]
      by_cases e : l = q.1.toNat
      · rw [if_neg (by omega), if_neg (by omega), if_pos e, if_pos (by omega), if_neg (by omega), if_pos (by omega)]
        exact ⟨by omega, by omega, b3, b4, fun _ => b5⟩
      · rw [if_neg (by omega), if_neg (by omega), if_neg e, if_neg (by omega), if_neg (by omega), if_neg (by omega), if_neg (by omega), if_neg (by omega), if_neg (by omega)]
        exact hr
    · rw [if_neg h64]
      by_cases e : l / 4 = (q.1 - 64).toNat
      · rw [if_pos (by omega), if_pos (by omega), if_pos (by omega)]
        exact ⟨by omega, by omega, by omega, by omega, fun h => absurd rfl h⟩
      · rw [if_neg (by omega), if_neg (by omega), if_neg (by omega)]
        exact hr
end FOXQ
