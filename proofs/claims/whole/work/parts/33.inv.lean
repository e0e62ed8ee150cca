/-! ===== what the steps of a folio change, place by place; the weak invariant ===== -/
theorem fo_put_pg {l j : Nat} {p v s : Int} {σ : fo_S} (hl : l < 64) (hj : j < 64) : (fo_put l p v s σ).1 j = if j = l then p + 1 else σ.1 j := by
  simp only [fo_put]
  rw [fo_u_o (by omega), fo_u_o (by omega), fo_u_eq]
theorem fo_put_vl {l j : Nat} {p v s : Int} {σ : fo_S} (hl : l < 64) (hj : j < 64) : (fo_put l p v s σ).1 (64 + j) = if j = l then v else σ.1 (64 + j) := by
  simp only [fo_put]
  rw [fo_u_o (by omega), fo_u_eq]
  by_cases h : j = l
  · rw [if_pos (by omega), if_pos h]
  · rw [if_neg (by omega), if_neg h, fo_u_o (by omega)]
theorem fo_put_st {l j : Nat} {p v s : Int} {σ : fo_S} (hl : l < 64) (hj : j < 64) : (fo_put l p v s σ).1 (128 + j) = if j = l then s else σ.1 (128 + j) := by
  simp only [fo_put]
  rw [fo_u_eq]
  by_cases h : j = l
  · rw [if_pos (by omega), if_pos h]
  · rw [if_neg (by omega), if_neg h, fo_u_o (by omega), fo_u_o (by omega)]
theorem fo_put_hi {l j : Nat} {p v s : Int} {σ : fo_S} (hl : l < 64) (hj : 192 ≤ j) : (fo_put l p v s σ).1 j = σ.1 j := by
  simp only [fo_put]
  rw [fo_u_o (by omega), fo_u_o (by omega), fo_u_o (by omega)]
theorem fo_cnt_o {w j : Nat} {r : fo_R} (h : j ≠ w) : fo_cnt w r j = r j := fo_u_o h
theorem fo_wp_pg {b j : Nat} {r : fo_R} (hj : j < 64) : fo_wp b r j = if j / 4 = b then 0 else r j := by
  simp only [fo_wp]
  rw [if_pos (by omega), Nat.mod_eq_of_lt hj]
theorem fo_wp_vl {b j : Nat} {r : fo_R} (hj : j < 64) : fo_wp b r (64 + j) = if j / 4 = b then 0 else r (64 + j) := by
  simp only [fo_wp]
  rw [if_pos (by omega), show (64 + j) % 64 = j by omega]
theorem fo_wp_st {b j : Nat} {r : fo_R} (hj : j < 64) : fo_wp b r (128 + j) = if j / 4 = b then 0 else r (128 + j) := by
  simp only [fo_wp]
  rw [if_pos (by omega), show (128 + j) % 64 = j by omega]
theorem fo_wp_kd {b c : Nat} {r : fo_R} (hc : c < 16) : fo_wp b r (192 + c) = if c = b then 0 else r (192 + c) := by
  simp only [fo_wp]
  rw [if_neg (by omega), if_pos (by omega)]
  by_cases h : c = b
  · rw [if_pos (by omega), if_pos h]
  · rw [if_neg (by omega), if_neg h]
theorem fo_wp_ow {b c : Nat} {r : fo_R} (hc : c < 16) : fo_wp b r (208 + c) = if c = b then 0 else if 3 ≤ r (192 + b) ∧ r (192 + c) = r (192 + b) ∧ r (208 + b) < r (208 + c) then r (208 + c) - 1 else r (208 + c) := by
  simp only [fo_wp]
  rw [if_neg (by omega), if_neg (by omega), if_pos (by omega), show 208 + c - 16 = 192 + c by omega]
  by_cases h : c = b
  · rw [if_pos (by omega), if_pos h]
  · rw [if_neg (by omega), if_neg h]
theorem fo_wp_wi {b c : Nat} {r : fo_R} (hc : c < 16) : fo_wp b r (224 + c) = if c = b then (if r (224 + c) < 999 then r (224 + c) + 1 else 999) else r (224 + c) := by
  simp only [fo_wp]
  rw [if_neg (by omega), if_neg (by omega), if_neg (by omega)]
  by_cases h : c = b
  · rw [if_pos (by omega), if_pos h]
  · rw [if_neg (by omega), if_neg h]
theorem fo_wp_hi {b j : Nat} {r : fo_R} (hb : b < 16) (hj : 240 ≤ j) : fo_wp b r j = r j := by
  simp only [fo_wp]
  rw [if_neg (by omega), if_neg (by omega), if_neg (by omega), if_neg (by omega)]
/-! the weak invariant: it holds at each step -/
def fo_SB (B : Int) (r : fo_R) : Prop := ∀ l, l < 64 → 0 ≤ r (128 + l) ∧ r (128 + l) ≤ B
def fo_Sv (r : fo_R) : Prop := ∀ l m, l < 64 → m < 64 → r l ≠ 0 → r l = r m → r (128 + l) = r (128 + m) → r (64 + l) = r (64 + m)
def fo_Ct (r : fo_R) : Prop := ∀ k, 264 ≤ k → k < 270 → 0 ≤ r k ∧ r k ≤ 99999
def fo_Ht (r : fo_R) : Prop := ∀ p, p < 24 → 0 ≤ r (240 + p) ∧ r (240 + p) ≤ 99
def fo_WI (B : Int) (r : fo_R) : Prop := fo_Pg r ∧ fo_SB B r ∧ fo_Kd r ∧ fo_Ow r ∧ fo_Wi r ∧ fo_Em r ∧ fo_On r ∧ fo_Sv r ∧ fo_Ct r ∧ fo_Ht r
theorem fo_WI.pg {B : Int} {r : fo_R} (h : fo_WI B r) : fo_Pg r := h.1
theorem fo_WI.sb {B : Int} {r : fo_R} (h : fo_WI B r) : fo_SB B r := h.2.1
theorem fo_WI.kd {B : Int} {r : fo_R} (h : fo_WI B r) : fo_Kd r := h.2.2.1
theorem fo_WI.ow {B : Int} {r : fo_R} (h : fo_WI B r) : fo_Ow r := h.2.2.2.1
theorem fo_WI.wi {B : Int} {r : fo_R} (h : fo_WI B r) : fo_Wi r := h.2.2.2.2.1
theorem fo_WI.em {B : Int} {r : fo_R} (h : fo_WI B r) : fo_Em r := h.2.2.2.2.2.1
theorem fo_WI.on {B : Int} {r : fo_R} (h : fo_WI B r) : fo_On r := h.2.2.2.2.2.2.1
theorem fo_WI.sv {B : Int} {r : fo_R} (h : fo_WI B r) : fo_Sv r := h.2.2.2.2.2.2.2.1
theorem fo_WI.ct {B : Int} {r : fo_R} (h : fo_WI B r) : fo_Ct r := h.2.2.2.2.2.2.2.2.1
theorem fo_WI.ht {B : Int} {r : fo_R} (h : fo_WI B r) : fo_Ht r := h.2.2.2.2.2.2.2.2.2
theorem fo_WI.st {B : Int} {r : fo_R} (h : fo_WI B r) (hB : B ≤ 2147483647) : fo_St r := fun l hl => ⟨(h.sb l hl).1, by have := (h.sb l hl).2; omega⟩
theorem fo_WI.mono {B C : Int} {r : fo_R} (h : fo_WI B r) (hBC : B ≤ C) : fo_WI C r := ⟨h.1, fun l hl => ⟨(h.sb l hl).1, by have := (h.sb l hl).2; omega⟩, h.2.2⟩
/-- a row that is another one but for what the weak invariant doesn't speak of, or counts -/
theorem fo_WI_cnt {B : Int} {r : fo_R} {w : Nat} (h0 : 264 ≤ w) (h1 : w < 270) (h : fo_WI B r) : fo_WI B (fo_cnt w r) := by
  refine ⟨fun l hl => ?_, fun l hl => ?_, fun c hc => ?_, fun c hc => ?_, fun c hc => ?_, fun l hl => ?_, fun l hl => ?_, fun l m hl hm => ?_, fun k a c => ?_, fun p hp => ?_⟩
  · rw [fo_cnt_o (by omega)]; exact h.pg l hl
  · rw [fo_cnt_o (by omega)]; exact h.sb l hl
  · rw [fo_cnt_o (by omega)]; exact h.kd c hc
  · rw [fo_cnt_o (by omega)]; exact h.ow c hc
  · rw [fo_cnt_o (by omega)]; exact h.wi c hc
  · rw [fo_cnt_o (by omega), fo_cnt_o (by omega)]; exact h.em l hl
  · rw [fo_cnt_o (by omega), fo_cnt_o (by omega), fo_cnt_o (by omega)]; exact h.on l hl
  · rw [fo_cnt_o (by omega), fo_cnt_o (by omega), fo_cnt_o (by omega), fo_cnt_o (by omega), fo_cnt_o (by omega), fo_cnt_o (by omega)]; exact h.sv l m hl hm
  · have := h.ct k a c
    unfold fo_cnt
    rw [fo_u_eq]
    split
    · rename_i e
      rw [← e]
      split <;> omega
    · exact this
  · rw [fo_cnt_o (by omega)]; exact h.ht p hp
theorem fo_WI_put {B : Int} {σ : fo_S} {l : Nat} {p v s : Int} (hl : l < 64) (hp : 0 ≤ p ∧ p < 24) (hs : 0 ≤ s ∧ s ≤ B) (hk : σ.1 (192 + l / 4) ≠ 0) (ho : (σ.1 (192 + l / 4) = 1 ∨ σ.1 (192 + l / 4) = 2) → p = 4 * σ.1 (208 + l / 4) + ((l % 4 : Nat) : Int)) (hv : ∀ j, j < 64 → σ.1 j = p + 1 → σ.1 (128 + j) = s → σ.1 (64 + j) = v) (h : fo_WI B σ.1) : fo_WI B (fo_put l p v s σ).1 := by
  refine ⟨fun j hj => ?_, fun j hj => ?_, fun c hc => ?_, fun c hc => ?_, fun c hc => ?_, fun j hj => ?_, fun j hj => ?_, fun j m hj hm => ?_, fun k a c => ?_, fun p hp => ?_⟩
  · rw [fo_put_pg hl hj]
    split
    · omega
    · exact h.pg j hj
  · rw [fo_put_st hl hj]
    split
    · exact hs
    · exact h.sb j hj
  · rw [fo_put_hi hl (by omega)]; exact h.kd c hc
  · rw [fo_put_hi hl (by omega)]; exact h.ow c hc
  · rw [fo_put_hi hl (by omega)]; exact h.wi c hc
  · rw [fo_put_hi hl (by omega), fo_put_pg hl hj]
    split
    · rename_i e
      rw [e]
      intro h0
      exact absurd h0 hk
    · exact h.em j hj
  · rw [fo_put_pg hl hj, fo_put_hi (j := 192 + j / 4) hl (by omega), fo_put_hi (j := 208 + j / 4) hl (by omega)]
    split
    · rename_i e
      rw [e]
      intro _ h1
      have := ho h1
      omega
    · exact h.on j hj
  · rw [fo_put_pg hl hj, fo_put_pg hl hm, fo_put_st hl hj, fo_put_st hl hm, fo_put_vl hl hj, fo_put_vl hl hm]
    by_cases e1 : j = l
    · by_cases e2 : m = l
      · simp [e1, e2]
      · rw [if_pos e1, if_neg e2, if_pos e1, if_neg e2, if_pos e1, if_neg e2]
        intro _ a b
        exact (hv m hm a.symm b.symm).symm
    · by_cases e2 : m = l
      · rw [if_neg e1, if_pos e2, if_neg e1, if_pos e2, if_neg e1, if_pos e2]
        intro _ a b
        exact hv j hj a b
      · rw [if_neg e1, if_neg e2, if_neg e1, if_neg e2, if_neg e1, if_neg e2]
        exact h.sv j m hj hm
  · rw [fo_put_hi hl (by omega)]; exact h.ct k a c
  · rw [fo_put_hi hl (by omega)]; exact h.ht p hp
theorem fo_WI_copy {B : Int} {σ : fo_S} {g l : Nat} (hg : g < 64) (hl : l < 64) (h1 : σ.1 g ≠ 0) (hk : σ.1 (192 + l / 4) ≠ 0) (ho : (σ.1 (192 + l / 4) = 1 ∨ σ.1 (192 + l / 4) = 2) → σ.1 g - 1 = 4 * σ.1 (208 + l / 4) + ((l % 4 : Nat) : Int)) (h : fo_WI B σ.1) : fo_WI B (fo_copy g l σ).1 := by
  have hp := h.pg g hg
  refine fo_WI_cnt (by omega) (by omega) (fo_WI_put hl (by omega) (h.sb g hg) hk ho (fun j hj a b => ?_) h)
  exact h.sv j g hj hg (by omega) (by omega) b
theorem fo_WI_wp {B : Int} {r : fo_R} {b : Nat} (hb : b < 16) (hB : 0 ≤ B) (h : fo_WI B r) : fo_WI B (fo_wp b r) := by
  refine ⟨fun j hj => ?_, fun j hj => ?_, fun c hc => ?_, fun c hc => ?_, fun c hc => ?_, fun j hj => ?_, fun j hj => ?_, fun j m hj hm => ?_, fun k a c => ?_, fun p hp => ?_⟩
  · rw [fo_wp_pg hj]
    split
    · omega
    · exact h.pg j hj
  · rw [fo_wp_st hj]
    split
    · omega
    · exact h.sb j hj
  · rw [fo_wp_kd hc]
    split
    · omega
    · exact h.kd c hc
  · rw [fo_wp_ow hc]
    have h1 := h.ow c hc
    have h2 := h.ow b hb
    split
    · omega
    · split <;> omega
  · rw [fo_wp_wi hc]
    have h1 := h.wi c hc
    split
    · split <;> omega
    · exact h1
  · rw [fo_wp_kd (by omega), fo_wp_pg hj]
    split
    · intro _; rfl
    · exact h.em j hj
  · rw [fo_wp_kd (by omega), fo_wp_pg hj, fo_wp_ow (by omega)]
    by_cases e : j / 4 = b
    · rw [if_pos e]; intro h0; exact absurd rfl h0
    · rw [if_neg e, if_neg e, if_neg e]
      intro h0 h1
      have := h.on j hj h0 h1
      rw [if_neg (by omega)]
      exact this
  · rw [fo_wp_pg hj, fo_wp_pg hm, fo_wp_st hj, fo_wp_st hm, fo_wp_vl hj, fo_wp_vl hm]
    by_cases e1 : j / 4 = b
    · rw [if_pos e1]; intro h0; exact absurd rfl h0
    · by_cases e2 : m / 4 = b
      · rw [if_neg e1, if_pos e2]
        intro h0 h1
        exact absurd h1 h0
      · rw [if_neg e1, if_neg e2, if_neg e1, if_neg e2, if_neg e1, if_neg e2]
        exact h.sv j m hj hm
  · rw [fo_wp_hi hb (by omega)]; exact h.ct k a c
  · rw [fo_wp_hi hb (by omega)]; exact h.ht p hp
theorem fo_WI_wipe {B : Int} {σ : fo_S} {b : Nat} (hb : b < 16) (hB : 0 ≤ B) (h : fo_WI B σ.1) : fo_WI B (fo_wipe b σ).1 := fo_WI_cnt (by omega) (by omega) (fo_WI_wp hb hB h)
/-- a free block becomes one of kind k, of o -/
theorem fo_WI_own {B : Int} {r : fo_R} {b : Nat} {k o : Int} (hb : b < 16) (hk : 1 ≤ k ∧ k ≤ 4) (ho : 0 ≤ o ∧ o ≤ 6) (he : ∀ l, l < 64 → l / 4 = b → r l = 0) (h : fo_WI B r) : fo_WI B (fo_u (fo_u r (192 + b) k) (208 + b) o) := by
  have e1 : ∀ j, j < 192 ∨ 224 ≤ j → fo_u (fo_u r (192 + b) k) (208 + b) o j = r j := fun j hj => by
    rw [fo_u_o (by omega), fo_u_o (by omega)]
  have e2 : ∀ c, c < 16 → fo_u (fo_u r (192 + b) k) (208 + b) o (192 + c) = if c = b then k else r (192 + c) := fun c hc => by
    rw [fo_u_o (by omega), fo_u_eq]
    by_cases e : c = b
    · rw [if_pos (by omega), if_pos e]
    · rw [if_neg (by omega), if_neg e]
  have e3 : ∀ c, c < 16 → fo_u (fo_u r (192 + b) k) (208 + b) o (208 + c) = if c = b then o else r (208 + c) := fun c hc => by
    rw [fo_u_eq]
    by_cases e : c = b
    · rw [if_pos (by omega), if_pos e]
    · rw [if_neg (by omega), if_neg e, fo_u_o (by omega)]
  refine ⟨fun j hj => ?_, fun j hj => ?_, fun c hc => ?_, fun c hc => ?_, fun c hc => ?_, fun j hj => ?_, fun j hj => ?_, fun j m hj hm => ?_, fun k a c => ?_, fun p hp => ?_⟩
  · rw [e1 j (by omega)]; exact h.pg j hj
  · rw [e1 _ (by omega)]; exact h.sb j hj
  · rw [e2 c hc]
    split
    · omega
    · exact h.kd c hc
  · rw [e3 c hc]
    split
    · omega
    · exact h.ow c hc
  · rw [e1 _ (by omega)]; exact h.wi c hc
  · rw [e2 _ (by omega), e1 j (by omega)]
    split
    · rename_i e; intro _; exact he j hj e
    · exact h.em j hj
  · rw [e2 _ (by omega), e3 _ (by omega), e1 j (by omega)]
    by_cases e : j / 4 = b
    · intro h0; exact absurd (he j hj e) h0
    · rw [if_neg e, if_neg e]; exact h.on j hj
  · rw [e1 j (by omega), e1 m (by omega), e1 _ (by omega), e1 _ (by omega), e1 _ (by omega), e1 _ (by omega)]; exact h.sv j m hj hm
  · rw [e1 _ (by omega)]; exact h.ct k a c
  · rw [e1 _ (by omega)]; exact h.ht p hp
/-! where blocks are found -/
theorem fo_blk_spec (r : fo_R) (k o : Int) : (fo_blk r k o = -1 ∧ ∀ c, c < 16 → ¬ (r (192 + c) = k ∧ r (208 + c) = o)) ∨ ∃ b : Nat, fo_blk r k o = (b : Int) ∧ b < 16 ∧ r (192 + b) = k ∧ r (208 + b) = o := by
  rcases fo_find_spec (P := fun b => decide (r (192 + b) = k ∧ r (208 + b) = o)) 16 0 with ⟨h1, h2⟩ | ⟨j, h1, _, h3, h4, _⟩
  · exact Or.inl ⟨h1, fun c hc => of_decide_eq_false (h2 c (by omega) (by omega))⟩
  · exact Or.inr ⟨j, h1, by omega, of_decide_eq_true h4⟩
theorem fo_run_spec (r : fo_R) : (fo_run r = -1 ∧ ∀ c, c < 16 → r (192 + c) ≠ 2) ∨ ∃ b : Nat, fo_run r = (b : Int) ∧ b < 16 ∧ r (192 + b) = 2 := by
  rcases fo_find_spec (P := fun b => decide (r (192 + b) = 2)) 16 0 with ⟨h1, h2⟩ | ⟨j, h1, _, h3, h4, _⟩
  · exact Or.inl ⟨h1, fun c hc => of_decide_eq_false (h2 c (by omega) (by omega))⟩
  · exact Or.inr ⟨j, h1, by omega, of_decide_eq_true h4⟩
theorem fo_free_spec (r : fo_R) : (fo_free r = -1 ∧ ∀ c, c < 16 → r (192 + c) ≠ 0) ∨ ∃ b : Nat, fo_free r = (b : Int) ∧ b < 16 ∧ r (192 + b) = 0 := by
  rcases fo_best_spec (ok := fun b => decide (r (192 + b) = 0)) (lt := fun a b => decide (r (224 + a) < r (224 + b))) (fun a b h => by simp only [decide_eq_true_eq, decide_eq_false_iff_not] at *; omega) (fun a b c h1 h2 => by simp only [decide_eq_false_iff_not] at *; omega) 16 with ⟨h1, h2⟩ | ⟨j, h1, h3, h4, _, _⟩
  · exact Or.inl ⟨h1, fun c hc => of_decide_eq_false (h2 c hc)⟩
  · exact Or.inr ⟨j, h1, h3, of_decide_eq_true h4⟩
theorem fo_bet_asym {r : fo_R} (a b : Nat) : fo_bet r a b = true → fo_bet r b a = false := by
  simp only [fo_bet, decide_eq_true_eq, decide_eq_false_iff_not]
  omega
theorem fo_bet_nt {r : fo_R} (a b c : Nat) : fo_bet r a b = false → fo_bet r b c = false → fo_bet r a c = false := by
  simp only [fo_bet, decide_eq_false_iff_not]
  omega
/-- the latest leaf: one of the greatest stamp -/
theorem fo_lat_spec (r : fo_R) (p : Int) : (fo_lat r p = -1 ∧ ∀ c, c < 64 → r c ≠ p + 1) ∨ ∃ l : Nat, fo_lat r p = (l : Int) ∧ l < 64 ∧ r l = p + 1 ∧ (∀ c, c < 64 → r c = p + 1 → fo_bet r c l = false) ∧ ∀ c, c < l → r c = p + 1 → fo_bet r l c = true := by
  rcases fo_best_spec (ok := fun i => decide (r i = p + 1)) (lt := fo_bet r) fo_bet_asym fo_bet_nt 64 with ⟨h1, h2⟩ | ⟨j, h1, h3, h4, h5, h6⟩
  · exact Or.inl ⟨h1, fun c hc => of_decide_eq_false (h2 c hc)⟩
  · exact Or.inr ⟨j, h1, h3, of_decide_eq_true h4, fun c hc e => h5 c hc (decide_eq_true e), fun c hc e => h6 c hc (decide_eq_true e)⟩
theorem fo_lat_max {r : fo_R} {p : Int} {l : Nat} (h : fo_lat r p = (l : Int)) : l < 64 ∧ r l = p + 1 ∧ ∀ c, c < 64 → r c = p + 1 → r (128 + c) ≤ r (128 + l) := by
  rcases fo_lat_spec r p with ⟨h1, _⟩ | ⟨j, h1, h2, h3, h4, _⟩
  · omega
  · have e : j = l := by omega
    subst e
    refine ⟨h2, h3, fun c hc e => ?_⟩
    have := h4 c hc e
    simp only [fo_bet, decide_eq_false_iff_not] at this
    omega
/-- two rows with the same leaves have latest leaves of the same stamp -/
theorem fo_lat_same {r q : fo_R} {p : Int} (h : ∀ j, j < 192 → q j = r j) : (fo_lat q p = -1 ∧ fo_lat r p = -1) ∨ ∃ l m : Nat, fo_lat q p = (l : Int) ∧ fo_lat r p = (m : Int) ∧ l < 64 ∧ m < 64 ∧ r l = p + 1 ∧ r m = p + 1 ∧ r (128 + l) = r (128 + m) := by
  rcases fo_lat_spec q p with ⟨h1, h2⟩ | ⟨l, h1, h2, h3, _, _⟩
  · rcases fo_lat_spec r p with ⟨g1, _⟩ | ⟨m, g1, g2, g3, _, _⟩
    · exact Or.inl ⟨h1, g1⟩
    · exact absurd (by rw [h m (by omega)]; exact g3) (h2 m g2)
  · rcases fo_lat_spec r p with ⟨g1, g2⟩ | ⟨m, g1, g2, g3, _, _⟩
    · exact absurd (by rw [← h l (by omega)]; exact h3) (g2 l h2)
    · refine Or.inr ⟨l, m, h1, g1, h2, g2, by rw [← h l (by omega)]; exact h3, g3, ?_⟩
      have a := (fo_lat_max h1).2.2 m g2 (by rw [h m (by omega)]; exact g3)
      have b := (fo_lat_max g1).2.2 l h2 (by rw [← h l (by omega)]; exact h3)
      rw [h _ (by omega), h _ (by omega)] at a
      omega
