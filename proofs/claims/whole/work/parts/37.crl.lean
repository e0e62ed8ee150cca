/-! ===== the class's acts are those of the picture, as long as there are steps left ===== -/
def fo_Lv (b : Nat) (M : ax_M) (σ : fo_S) (w : Prop) : Prop := fo_cr b M = σ.1 ∧ (M b 13 ≠ 0 ↔ (w ∨ ∃ q ∈ σ.2, 64 ≤ q.1))
def fo_Dd (b : Nat) (K : Int) (M : ax_M) (σ : fo_S) (r0 : fo_R) : Prop := M b 12 < M b 11 ∧ M b 11 ≤ K ∧ M b 12 < (σ.2.length : Int) ∧ ∀ j, j < 192 → fo_cr b M j = fo_ap r0 (σ.2.take (M b 12).toNat) j
def fo_RL (b : Nat) (K : Int) (M : ax_M) (σ : fo_S) (r0 : fo_R) (w : Prop) : Prop := fo_Tr r0 σ ∧ (((M b 12 = 1073741824 ∧ fo_Lv b M σ w) ∧ M b 11 = ax_wr (r0 300 + (σ.2.length : Int)) ∧ 0 ≤ M b 11 ∧ M b 11 ≤ r0 300 + K ∧ r0 300 ≤ 1000000000) ∨ (0 ≤ M b 12 ∧ M b 12 ≤ 99 ∧ ((M b 11 = (σ.2.length : Int) ∧ M b 11 ≤ M b 12 ∧ fo_Lv b M σ w) ∨ fo_Dd b K M σ r0)))
theorem fo_wr_s {x : Int} {n : Nat} : ax_wr (ax_wr (x + (n : Int)) + 1) = ax_wr (x + ((n + 1 : Nat) : Int)) := by
  unfold ax_wr
  rw [Int.bmod_add_bmod]
  congr 1
  omega
section FORL
variable {b : Nat} {K : Int} {M N : ax_M} {σ τ : fo_S} {r0 : fo_R} {w : Prop}
theorem fo_RL.up {K' : Int} (h : fo_RL b K M σ r0 w) (hK : K ≤ K') : fo_RL b K' M σ r0 w := by
  obtain ⟨h0, h | ⟨h1, h2, h | ⟨a1, a2, a3⟩⟩⟩ := h
  · exact ⟨h0, Or.inl ⟨h.1, h.2.1, h.2.2.1, by have := h.2.2.2.1; omega, h.2.2.2.2⟩⟩
  · exact ⟨h0, Or.inr ⟨h1, h2, Or.inl h⟩⟩
  · exact ⟨h0, Or.inr ⟨h1, h2, Or.inr ⟨a1, by omega, a3⟩⟩⟩
/-- the steps are used up: whatever is done -/
theorem fo_RL_dd {c : Int} (h0 : 0 ≤ M b 12) (h1 : M b 12 ≤ 99) (h : fo_Dd b K M σ r0) (hz : fo_Dz b c M N) (hK : K + c ≤ 1000000) (ht : fo_Tr r0 τ) (he : ∃ t, τ.2 = σ.2 ++ t) : fo_RL b (K + c) N τ r0 w := by
  obtain ⟨d1, d2, d3, d4⟩ := h
  obtain ⟨z1, z2⟩ := hz
  obtain ⟨z3, z4, z5⟩ := z2 d1 (by omega) (by omega)
  obtain ⟨t, et⟩ := he
  refine ⟨ht, Or.inr ⟨by omega, by omega, Or.inr ⟨by omega, by omega, ?_, fun j hj => ?_⟩⟩⟩
  · rw [z1, et, List.length_append]
    omega
  · rw [z5 j hj, d4 j hj, z1, et, List.take_append_of_le_length (by omega)]
theorem fo_RL_ne {c : Int} (h : fo_RL b K M σ r0 w) (hn : fo_cr b M ≠ σ.1) (hz : fo_Dz b c M N) (hK : K + c ≤ 1000000) (ht : fo_Tr r0 τ) (he : ∃ t, τ.2 = σ.2 ++ t) : fo_RL b (K + c) N τ r0 w := by
  obtain ⟨_, h | ⟨h1, h2, h | h⟩⟩ := h
  · exact absurd h.1.2.1 hn
  · exact absurd h.2.2.1 hn
  · exact fo_RL_dd h1 h2 h hz hK ht he
/-- what touches no leaf -/
theorem fo_RL_o {r' : fo_R} (h : fo_RL b K M σ r0 w) (hz : fo_Dz b 0 M N) (h11 : N b 11 = M b 11) (h13 : N b 13 = M b 13) (hr : ∀ j, j < 192 → r' j = σ.1 j) (hc : fo_cr b M = σ.1 → fo_cr b N = r') (hK : K ≤ 1000000) : fo_RL b K N (r', σ.2) r0 w := by
  have ht : fo_Tr r0 (r', σ.2) := fo_Tr_o hr h.1
  obtain ⟨_, h | ⟨h1, h2, h | h⟩⟩ := h
  · exact ⟨ht, Or.inl ⟨⟨by rw [hz.1]; exact h.1.1, hc h.1.2.1, by rw [h13]; exact h.1.2.2⟩, by rw [h11]; exact h.2⟩⟩
  · exact ⟨ht, Or.inr ⟨by rw [hz.1]; exact h1, by rw [hz.1]; exact h2, Or.inl ⟨by rw [h11]; exact h.1, by rw [h11, hz.1]; exact h.2.1, hc h.2.2.1, by rw [h13]; exact h.2.2.2⟩⟩⟩
  · have := fo_RL_dd (K := K) (w := w) (τ := (r', σ.2)) h1 h2 h hz (by omega) ht ⟨[], by simp⟩
    rw [Int.add_zero] at this
    exact this
theorem rl_count {k : Nat} (h0 : 1 ≤ k) (hk : k < 7) (hct : 0 ≤ σ.1 (263 + k) ∧ σ.1 (263 + k) ≤ 99999) (hK : K ≤ 1000000) (h : fo_RL b K M σ r0 w) : fo_RL b K (f_X0_countOne b (k : Int) M) (fo_cnt (263 + k) σ.1, σ.2) r0 w := by
  refine fo_RL_o h fz_count.1 ?_ ?_ (fun j hj => fo_cnt_o (by omega)) (fun hc => ?_) hK
  · unfold f_X0_countOne
    repeat' split
    all_goals first | rfl | (simp only [ax_bd]; rw [ax_up_ne (by omega)])
  · unfold f_X0_countOne
    repeat' split
    all_goals first | rfl | (simp only [ax_bd]; rw [ax_up_ne (by omega)])
  · have e : σ.1 (263 + k) = M (b + 9) k := by rw [← hc, fo_cr, fo_dCt h0 hk]
    unfold f_X0_countOne
    rw [if_neg (by omega), if_neg (by omega), fo_t0]
    unfold fo_cnt
    rw [e] at hct ⊢
    split
    · rename_i h9
      rw [if_neg (by omega), hc]
      funext j
      rw [fo_u_eq]
      split
      · rename_i ej; rw [ej, e]; omega
      · rfl
    · rename_i h9
      simp only [ax_bd]
      rw [fo_cr_Y h0 hk, if_pos (by omega), ax_wr_id (by omega) (by omega), hc]
theorem rl_put {x p' v' s' : Int} {l : Nat} {p v s : Int} (hl : l < 64) (hp : p ≠ -1) (ha : fo_cr b M = σ.1 → x = (l : Int) ∧ p' = p ∧ v' = v ∧ s' = s) (hK0 : 100 ≤ K) (hK : K + 1 ≤ 1000000) (h : fo_RL b K M σ r0 w) : fo_RL b (K + 1) (f_X0_put b x p' v' s' M) (fo_put l p v s σ) r0 w := by
  have ht : fo_Tr r0 (fo_put l p v s σ) := fo_Tr_put hl h.1
  have htr := h.1
  have hw : ∀ P : Prop, (P ∨ ∃ q ∈ (fo_put l p v s σ).2, 64 ≤ q.1) ↔ (P ∨ ∃ q ∈ σ.2, 64 ≤ q.1) := by
    intro P
    simp only [fo_put, List.mem_append, List.mem_singleton]
    constructor
    · rintro (h | ⟨q, h | h, h'⟩)
      · exact Or.inl h
      · exact Or.inr ⟨q, h, h'⟩
      · rw [h] at h'
        dsimp only at h'
        omega
    · rintro (h | ⟨q, h, h'⟩)
      · exact Or.inl h
      · exact Or.inr ⟨q, Or.inl h, h'⟩
  have e12 : ax_up M b 11 (ax_wr (M b 11 + 1)) b 12 = M b 12 := by rw [fo_up_at, fo_u_o (by omega)]
  have e11 : ax_up M b 11 (ax_wr (M b 11 + 1)) b 11 = ax_wr (M b 11 + 1) := by rw [fo_up_at, fo_u_s]
  have e13 : ax_up M b 11 (ax_wr (M b 11 + 1)) b 13 = M b 13 := by rw [fo_up_at, fo_u_o (by omega)]
  have hrun : fo_cr b M = σ.1 → ax_wr (M b 11 + 1) ≤ M b 12 → f_X0_put b x p' v' s' M = ax_up (ax_up (ax_up (ax_up M b 11 (ax_wr (M b 11 + 1))) (b + 1) l p) (b + 2) l v) (b + 3) l s := by
    intro hc hle
    obtain ⟨rfl, rfl, rfl, rfl⟩ := ha hc
    unfold f_X0_put
    simp only [ax_bd]
    rw [e12, e11, if_neg (by omega), if_neg (by omega), if_pos (by omega), fo_t0]
  have hdo : ∀ N, N = ax_up (ax_up (ax_up (ax_up M b 11 (ax_wr (M b 11 + 1))) (b + 1) l p) (b + 2) l v) (b + 3) l s → fo_Lv b M σ w → N b 12 = M b 12 ∧ N b 11 = ax_wr (M b 11 + 1) ∧ fo_Lv b N (fo_put l p v s σ) w := by
    intro N hN hv
    subst hN
    refine ⟨by rw [ax_up_ne (by omega), ax_up_ne (by omega), ax_up_ne (by omega), e12], by rw [ax_up_ne (by omega), ax_up_ne (by omega), ax_up_ne (by omega), e11], ?_, ?_⟩
    · rw [fo_cr_put hl hp, fo_cr_o (Or.inl (Nat.le_refl _)), hv.1]
      rfl
    · rw [ax_up_ne (by omega), ax_up_ne (by omega), ax_up_ne (by omega), e13, hw]
      exact hv.2
  obtain ⟨_, h | ⟨h1, h2, h | h⟩⟩ := h
  · obtain ⟨g1, g2, g3, g4, g5⟩ := h
    have ew : ax_wr (M b 11 + 1) = M b 11 + 1 := ax_wr_id (by omega) (by omega)
    obtain ⟨a1, a2, a3⟩ := hdo _ (hrun g1.2.1 (by rw [g1.1, ew]; omega)) g1.2
    have hlen : (fo_put l p v s σ).2.length = σ.2.length + 1 := by simp [fo_put]
    exact ⟨ht, Or.inl ⟨⟨by rw [a1]; exact g1.1, a3⟩, by rw [a2, g2, fo_wr_s, hlen], by rw [a2, ew]; omega, by rw [a2, ew]; omega, g5⟩⟩
  · have ew : ax_wr (M b 11 + 1) = M b 11 + 1 := ax_wr_id (by omega) (by omega)
    by_cases hle : M b 11 + 1 ≤ M b 12
    · obtain ⟨a1, a2, a3⟩ := hdo _ (hrun h.2.2.1 (by omega)) h.2.2
      refine ⟨ht, Or.inr ⟨by omega, by omega, Or.inl ⟨?_, by omega, a3⟩⟩⟩
      rw [a2, ew]
      simp only [fo_put, List.length_append, List.length_cons, List.length_nil]
      omega
    · have eN : f_X0_put b x p' v' s' M = ax_up M b 11 (ax_wr (M b 11 + 1)) := by
        unfold f_X0_put
        simp only [ax_bd]
        rw [e12, e11, if_pos (by omega)]
      rw [eN]
      refine ⟨ht, Or.inr ⟨by omega, by omega, Or.inr ⟨by omega, by omega, ?_, fun j hj => ?_⟩⟩⟩
      · rw [e12]
        simp only [fo_put, List.length_append, List.length_cons, List.length_nil]
        omega
      · rw [fo_cr_o (Or.inl (Nat.le_refl _)), e12, h.2.2.1, htr j hj]
        have : (M b 12).toNat = σ.2.length := by omega
        simp only [fo_put]
        rw [this, List.take_left']
        rfl
  · exact fo_RL_dd h1 h2 h fz_put.1 (by omega) ht ⟨_, rfl⟩
theorem rl_copyI {x y g : Int} {l : Nat} (hl : l < 64) (hg : g = -1 ∨ ∃ m : Nat, g = (m : Int) ∧ m < 64 ∧ 1 ≤ σ.1 m) (hct : 0 ≤ σ.1 265 ∧ σ.1 265 ≤ 99999) (ha : fo_cr b M = σ.1 → x = g ∧ y = (l : Int)) (hK0 : 100 ≤ K) (hK : K + 1 ≤ 1000000) (h : fo_RL b K M σ r0 w) : fo_RL b (K + 1) (f_X0_copyLeaf b x y M) (fo_copyI g l σ) r0 w := by
  have htr : fo_Tr r0 (fo_copyI g l σ) := by
    unfold fo_copyI
    split
    · exact h.1
    · exact fo_Tr_copy hl h.1
  have hex : ∃ t, (fo_copyI g l σ).2 = σ.2 ++ t := by
    unfold fo_copyI
    split
    · exact ⟨[], by simp⟩
    · exact ⟨_, rfl⟩
  by_cases hc : fo_cr b M = σ.1
  · obtain ⟨rfl, rfl⟩ := ha hc
    rcases hg with hg | ⟨m, hg, hm, hw1⟩
    · subst hg
      have e1 : f_X0_copyLeaf b (-1) (l : Int) M = M := by
        unfold f_X0_copyLeaf
        rw [if_pos (by omega)]
      rw [e1]
      exact h.up (by omega)
    · subst hg
      have e0 : σ.1 m = M (b + 1) m + 1 := by rw [← hc, fo_cr, fo_dPg hm]
      have ev : σ.1 (64 + m) = M (b + 2) m := by rw [← hc, fo_cr, fo_dVl hm, if_neg (by omega)]
      have es : σ.1 (128 + m) = M (b + 3) m := by rw [← hc, fo_cr, fo_dSt hm, if_neg (by omega)]
      have e1 : f_X0_copyLeaf b (m : Int) (l : Int) M = f_X0_countOne b 2 (f_X0_put b (l : Int) (M (b + 1) m) (M (b + 2) m) (M (b + 3) m) M) := by
        unfold f_X0_copyLeaf
        simp only [ax_bd, fo_t0]
        rw [if_neg (by omega), if_neg (by omega), if_pos (by omega)]
      rw [e1]
      unfold fo_copyI
      rw [if_neg (by omega), fo_t0]
      have hp := rl_put (x := (l : Int)) (p' := M (b + 1) m) (v' := M (b + 2) m) (s' := M (b + 3) m) (p := σ.1 m - 1) (v := σ.1 (64 + m)) (s := σ.1 (128 + m)) hl (by omega) (fun _ => ⟨rfl, by omega, ev.symm, es.symm⟩) hK0 hK h
      exact rl_count (k := 2) (by omega) (by omega) (by rw [fo_put_hi hl (by omega)]; exact hct) hK hp
  · exact fo_RL_ne h hc fz_copy.1 hK htr hex
/-- a block wiped, logs not renumbered -/
def fo_wn (b : Nat) (r : fo_R) : fo_R := fun j =>
  if j < 192 then (if (j % 64) / 4 = b then 0 else r j)
  else if j = 192 + b then 0
  else if j = 208 + b then 0
  else if j = 224 + b then (if r j < 999 then r j + 1 else 999) else r j
theorem fo_wn_eq {c : Nat} {r : fo_R} (hc : c < 16) (h : r (192 + c) < 3) : fo_wn c r = fo_wp c r := by
  funext j
  simp only [fo_wn, fo_wp]
  grind (splits := 20)
def fo_wipeN (c : Nat) (σ : fo_S) : fo_S := (fo_cnt 266 (fo_wn c σ.1), σ.2 ++ [(64 + (c : Int), 0, 0, 0)])
theorem fo_wipeN_eq {c : Nat} {σ : fo_S} (hc : c < 16) (h : σ.1 (192 + c) < 3) : fo_wipeN c σ = fo_wipe c σ := by
  unfold fo_wipeN fo_wipe
  rw [fo_wn_eq hc h]
theorem fo_Tr_wipeN {c : Nat} (h : fo_Tr r0 σ) : fo_Tr r0 (fo_wipeN c σ) := by
  intro j hj
  refine Eq.trans ?_ (fo_Tr_wipe (b := c) h j hj)
  simp only [fo_wipeN, fo_wipe]
  rw [fo_cnt_o (by omega), fo_cnt_o (by omega)]
  simp only [fo_wn, fo_wp]
  rw [if_pos hj, if_pos hj]
/-- the four stores of a wipe -/
theorem fo_wipe4 {c : Nat} (hc : c < 16) (M : ax_M) : (fo_fold (fun i M => ax_up M (b + 1) ((c : Int) * 4 + (i : Int)).toNat (-1)) 4 0 M) (b + 1) = fun j => if j / 4 = c then -1 else M (b + 1) j := by
  funext j
  rw [fo_fold_s, fo_fold_s, fo_fold_s, fo_fold_s, fo_fold_z]
  simp only [fo_up_at, fo_u]
  grind
theorem fo_wipe4o {c s : Nat} (hs : s ≠ b + 1) (M : ax_M) : (fo_fold (fun i M => ax_up M (b + 1) ((c : Int) * 4 + (i : Int)).toNat (-1)) 4 0 M) s = M s := by
  rw [fo_fold_s, fo_fold_s, fo_fold_s, fo_fold_s, fo_fold_z, ax_up_ne hs, ax_up_ne hs, ax_up_ne hs, ax_up_ne hs]
/-- a wipe's second half -/
theorem rl_wipeJ {c : Nat} {r : fo_R} (hc : c < 16) (hr : fo_cr b M = fun j => if j < 192 ∧ j % 64 / 4 = c then 0 else r j) (hw : 0 ≤ r (224 + c) ∧ r (224 + c) ≤ 999) (hct : 0 ≤ r 266 ∧ r 266 ≤ 99999) : fo_cr b (f_X0_wipe_J56 b (c : Int) M) = fo_cnt 266 (fo_wn c r) ∧ f_X0_wipe_J56 b (c : Int) M b 13 = 1 ∧ f_X0_wipe_J56 b (c : Int) M b 11 = M b 11 ∧ f_X0_wipe_J56 b (c : Int) M b 12 = M b 12 := by
  have e6 : r (224 + c) = M (b + 6) c := by
    have h1 : fo_cr b M (224 + c) = M (b + 6) c := fo_dWi hc
    rw [hr] at h1
    simp only at h1
    rw [if_neg (by omega)] at h1
    exact h1
  unfold f_X0_wipe_J56
  simp only [ax_bd, fo_t0]
  rw [show ax_up (ax_up M (b + 4) c 0) (b + 5) c 0 (b + 6) c = M (b + 6) c by rw [fo_upn (by decide), fo_upn (by decide)], ax_wr_id (by omega) (by omega)]
  generalize hv : (if 999 < M (b + 6) c + 1 then (999 : Int) else M (b + 6) c + 1) = v
  generalize hN : ax_up (ax_up (ax_up (ax_up M (b + 4) c 0) (b + 5) c 0) (b + 6) c v) b 13 1 = N
  have n11 : N b 11 = M b 11 := by rw [← hN, fo_up_at, fo_u_o (by omega), ax_up_ne (by omega), ax_up_ne (by omega), ax_up_ne (by omega)]
  have n12 : N b 12 = M b 12 := by rw [← hN, fo_up_at, fo_u_o (by omega), ax_up_ne (by omega), ax_up_ne (by omega), ax_up_ne (by omega)]
  have n13 : N b 13 = 1 := by rw [← hN, fo_up_at, fo_u_s]
  have nr : fo_cr b N = fo_wn c r := by
    rw [← hN, fo_cr_o (Or.inl (Nat.le_refl _)), fo_cr_W hc, fo_cr_O hc, fo_cr_K hc, hr, ← hv, ← e6]
    funext j
    simp only [fo_u, fo_wn]
    grind (splits := 20)
  have hf := (fz_count (b := b) (M := N) (x := 3)).2.2
  have hq := rl_count (b := b) (K := 1000) (M := N) (σ := (fo_wn c r, [])) (r0 := fo_wn c r) (w := True) (k := 3) (by omega) (by omega)
  have h13 : ∀ f, f_X0_countOne b 3 N b f = N b f := by
    intro f
    unfold f_X0_countOne
    repeat' split
    all_goals first | rfl | (simp only [ax_bd]; rw [ax_up_ne (by omega)])
  refine ⟨?_, by rw [h13, n13], by rw [h13, n11], by rw [h13, n12]⟩
  have e : fo_wn c r (263 + 3) = N (b + 9) 3 := by rw [← nr, fo_cr, fo_dCt (by omega) (by omega)]
  have e' : fo_wn c r 266 = r 266 := by
    simp only [fo_wn]
    rw [if_neg (by omega), if_neg (by omega), if_neg (by omega), if_neg (by omega)]
  have e0 : N (b + 9) 3 = r 266 := by rw [← e, ← e']
  unfold f_X0_countOne
  rw [if_neg (by omega), if_neg (by omega), show (3 : Int).toNat = 3 from rfl]
  unfold fo_cnt
  rw [e', e0]
  split
  · rename_i h9
    rw [if_neg (by omega), nr]
    funext j
    rw [fo_u_eq]
    split
    · rename_i ej; rw [ej, e']; omega
    · rfl
  · rename_i h9
    simp only [ax_bd]
    rw [fo_cr_Y (by omega) (by omega), if_pos (by omega), ax_wr_id (by omega) (by omega), nr]
theorem rl_wipeN {x : Int} {c : Nat} (hc : c < 16) (ha : fo_cr b M = σ.1 → x = (c : Int)) (hw : 0 ≤ σ.1 (224 + c) ∧ σ.1 (224 + c) ≤ 999) (hct : 0 ≤ σ.1 266 ∧ σ.1 266 ≤ 99999) (hK0 : 100 ≤ K) (hK : K + 1 ≤ 1000000) (h : fo_RL b K M σ r0 w) : fo_RL b (K + 1) (f_X0_wipe b x M) (fo_wipeN c σ) r0 w := by
  have ht : fo_Tr r0 (fo_wipeN c σ) := fo_Tr_wipeN h.1
  have htr := h.1
  have e12 : ax_up M b 11 (ax_wr (M b 11 + 1)) b 12 = M b 12 := by rw [fo_up_at, fo_u_o (by omega)]
  have e11 : ax_up M b 11 (ax_wr (M b 11 + 1)) b 11 = ax_wr (M b 11 + 1) := by rw [fo_up_at, fo_u_s]
  have hlen : (fo_wipeN c σ).2.length = σ.2.length + 1 := by simp [fo_wipeN]
  have hwq : w ∨ ∃ q ∈ (fo_wipeN c σ).2, 64 ≤ q.1 := Or.inr ⟨(64 + (c : Int), 0, 0, 0), by simp [fo_wipeN], by simp only; omega⟩
  have hdo : fo_Lv b M σ w → ax_wr (M b 11 + 1) ≤ M b 12 → (f_X0_wipe b x M) b 12 = M b 12 ∧ (f_X0_wipe b x M) b 11 = ax_wr (M b 11 + 1) ∧ fo_Lv b (f_X0_wipe b x M) (fo_wipeN c σ) w := by
    intro hv hle
    have hx := ha hv.1
    subst hx
    have eN : f_X0_wipe b (c : Int) M = f_X0_wipe_J56 b (c : Int) (fo_fold (fun i M => ax_up M (b + 1) ((c : Int) * 4 + (i : Int)).toNat (-1)) 4 0 (ax_up M b 11 (ax_wr (M b 11 + 1)))) := by
      unfold f_X0_wipe
      simp only [ax_bd]
      rw [e12, e11, if_neg (by omega), if_pos (by omega), if_neg (by omega), fz_wipeL]
    rw [eN]
    generalize hF : fo_fold (fun i M => ax_up M (b + 1) ((c : Int) * 4 + (i : Int)).toNat (-1)) 4 0 (ax_up M b 11 (ax_wr (M b 11 + 1))) = F
    have f1 : F (b + 1) = fun j => if j / 4 = c then -1 else M (b + 1) j := by
      rw [← hF, fo_wipe4 hc, ax_up_ne (by omega)]
    have fo : ∀ s, s ≠ b + 1 → F s = ax_up M b 11 (ax_wr (M b 11 + 1)) s := fun s hs => by rw [← hF, fo_wipe4o hs]
    have fr : fo_cr b F = fun j => if j < 192 ∧ j % 64 / 4 = c then 0 else σ.1 j := by
      rw [← hv.1]
      unfold fo_cr
      rw [f1, fo _ (by omega), fo _ (by omega), fo _ (by omega), fo _ (by omega), fo _ (by omega), fo _ (by omega), fo _ (by omega), fo _ (by omega), ax_up_ne (by omega), ax_up_ne (by omega), ax_up_ne (by omega), ax_up_ne (by omega), ax_up_ne (by omega), ax_up_ne (by omega), ax_up_ne (by omega), ax_up_ne (by omega), fo_dec_wipe]
    obtain ⟨j1, j2, j3, j4⟩ := rl_wipeJ (b := b) (M := F) (r := σ.1) hc fr hw hct
    refine ⟨by rw [j4, fo b (by omega), e12], by rw [j3, fo b (by omega), e11], j1, ?_⟩
    rw [j2]
    exact ⟨fun _ => hwq, fun _ => by decide⟩
  obtain ⟨_, h | ⟨h1, h2, h | h⟩⟩ := h
  · obtain ⟨g1, g2, g3, g4, g5⟩ := h
    have ew : ax_wr (M b 11 + 1) = M b 11 + 1 := ax_wr_id (by omega) (by omega)
    obtain ⟨a1, a2, a3⟩ := hdo g1.2 (by rw [g1.1, ew]; omega)
    exact ⟨ht, Or.inl ⟨⟨by rw [a1]; exact g1.1, a3⟩, by rw [a2, g2, fo_wr_s, hlen], by rw [a2, ew]; omega, by rw [a2, ew]; omega, g5⟩⟩
  · have ew : ax_wr (M b 11 + 1) = M b 11 + 1 := ax_wr_id (by omega) (by omega)
    by_cases hle : M b 11 + 1 ≤ M b 12
    · obtain ⟨a1, a2, a3⟩ := hdo h.2.2 (by omega)
      exact ⟨ht, Or.inr ⟨by omega, by omega, Or.inl ⟨by rw [a2, ew, hlen]; omega, by omega, a3⟩⟩⟩
    · have hx := ha h.2.2.1
      subst hx
      have eN : f_X0_wipe b (c : Int) M = f_X0_wipe_J56 b (c : Int) (ax_up M b 11 (ax_wr (M b 11 + 1))) := by
        unfold f_X0_wipe
        simp only [ax_bd]
        rw [e12, e11, if_neg (by omega), if_pos (by omega), if_pos (by omega)]
      rw [eN]
      obtain ⟨z1, z2⟩ := (fz_wipeJ (b := b) (M := ax_up M b 11 (ax_wr (M b 11 + 1))) (x := (c : Int)) (by omega)).1
      obtain ⟨z3, z4, z5⟩ := z2 (by omega) (by omega) (by omega)
      refine ⟨ht, Or.inr ⟨by omega, by omega, Or.inr ⟨by omega, by omega, by rw [z1, e12, hlen]; omega, fun j hj => ?_⟩⟩⟩
      rw [z5 j hj, fo_cr_o (Or.inl (Nat.le_refl _)), z1, e12, h.2.2.1, htr j hj]
      have : (M b 12).toNat = σ.2.length := by omega
      simp only [fo_wipeN]
      rw [this, List.take_left']
      rfl
  · exact fo_RL_dd h1 h2 h fz_wipe.1 (by omega) ht ⟨_, rfl⟩
theorem rl_wipeI {x c : Int} (hc : c = -1 ∨ ∃ n : Nat, c = (n : Int) ∧ n < 16 ∧ σ.1 (192 + n) < 3) (ha : fo_cr b M = σ.1 → x = c) (hW : fo_Wi σ.1) (hC : fo_Ct σ.1) (hK0 : 100 ≤ K) (hK : K + 1 ≤ 1000000) (h : fo_RL b K M σ r0 w) : fo_RL b (K + 1) (f_X0_wipe b x M) (fo_wipeI c σ) r0 w := by
  rcases hc with hc | ⟨n, hc, hn, hk⟩
  · subst hc
    have e : fo_wipeI (-1) σ = σ := by unfold fo_wipeI; rw [if_pos (by omega)]
    rw [e]
    by_cases hcr : fo_cr b M = σ.1
    · have hx := ha hcr
      subst hx
      have e1 : f_X0_wipe b (-1) M = M := by unfold f_X0_wipe; rw [if_pos (by omega)]
      rw [e1]
      exact h.up (by omega)
    · exact fo_RL_ne h hcr fz_wipe.1 hK h.1 ⟨[], by simp⟩
  · subst hc
    have e : fo_wipeI (n : Int) σ = fo_wipeN n σ := by unfold fo_wipeI; rw [if_neg (by omega), fo_t0, fo_wipeN_eq hn hk]
    rw [e]
    exact rl_wipeN hn ha (hW n hn) (hC 266 (by omega) (by omega)) hK0 hK h
/-- a block taken -/
theorem rl_take {k k' o o' : Int} (hfr : 0 ≤ fo_free σ.1) (ha : fo_cr b M = σ.1 → k' = k ∧ o' = o) (hK : K ≤ 1000000) (h : fo_RL b K M σ r0 w) : fo_RL b K (f_X0_take b k' o' M).2 (fo_take k o σ.1, σ.2) r0 w := by
  have hb : fo_free σ.1 < 16 := by
    rcases fo_free_spec σ.1 with ⟨h1, _⟩ | ⟨j, h1, h2, _⟩ <;> omega
  refine fo_RL_o h fz_take.1 ?_ ?_ (fun j hj => ?_) (fun hc => ?_) hK
  · unfold f_X0_take
    simp only [ax_bd]
    split
    · rfl
    · dsimp only
      rw [ax_up_ne (by omega), ax_up_ne (by omega)]
  · unfold f_X0_take
    simp only [ax_bd]
    split
    · rfl
    · dsimp only
      rw [ax_up_ne (by omega), ax_up_ne (by omega)]
  · unfold fo_take
    rw [fo_u_o (by omega), fo_u_o (by omega)]
  · obtain ⟨rfl, rfl⟩ := ha hc
    unfold f_X0_take fo_take
    simp only [ax_bd]
    rw [fc_leastWornFree, hc, if_neg (by omega)]
    rw [fo_cr_O (by omega), fo_cr_K (by omega), hc]
theorem rl_take1 {k o : Int} (hc : fo_cr b M = σ.1) : (f_X0_take b k o M).1 = fo_free σ.1 := by
  unfold f_X0_take
  simp only [ax_bd]
  rw [fc_leastWornFree, hc]
  split <;> rfl
end FORL
