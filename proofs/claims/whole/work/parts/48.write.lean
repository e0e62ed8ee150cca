/-! ===== a write: where it goes, what it keeps ===== -/
/-- what merges, seals and clears leave: homes of other folders, limits, clock -/
theorem fo_Hx_merge {B g : Int} {f : Nat} {σ : fo_S} (hf : f < 6) (hB : 0 ≤ B) (hfr : 0 ≤ fo_free σ.1) (h : fo_WI B σ.1) (hx : fo_Hx g σ.1) : fo_Hx g (fo_merge f σ).1 := by
  obtain ⟨pP, pV, pK, pO, pH⟩ := fo_merge_pt hf hB hfr h
  obtain ⟨n, en, hn, h0⟩ := fo_free_nat hfr
  have n1 : (n : Int) ≠ fo_blk σ.1 1 f := by rw [← en]; exact fun e => fo_blk_free (by decide) hfr e.symm
  have n2 : (n : Int) ≠ fo_blk σ.1 2 f := by rw [← en]; exact fun e => fo_blk_free (by decide) hfr e.symm
  obtain ⟨c, hc, a1, a2⟩ := hx
  by_cases e : (c : Int) = fo_blk σ.1 1 f
  · refine ⟨n, hn, by rw [pK n hn, if_neg n2, if_neg n1, en, if_pos rfl], ?_⟩
    rw [pO n hn, if_neg n2, if_neg n1, en, if_pos rfl, ← a2]
    rcases fo_blk_spec σ.1 1 f with ⟨q, _⟩ | ⟨d, q, q1, q2, q3⟩
    · omega
    · have : c = d := by omega
      rw [this, q3]
  · have e2 : (c : Int) ≠ fo_blk σ.1 2 f := fun e2 => by
      rcases fo_blk_spec σ.1 2 f with ⟨q, _⟩ | ⟨d, q, q1, q2, q3⟩
      · omega
      · have : c = d := by omega
        subst this; omega
    have e0 : (c : Int) ≠ fo_free σ.1 := fun e0 => by
      have : c = n := by omega
      subst this; omega
    exact ⟨c, hc, by rw [pK c hc, if_neg e2, if_neg e, if_neg e0]; exact a1, by rw [pO c hc, if_neg e2, if_neg e, if_neg e0]; exact a2⟩
theorem fo_hi_merge {B : Int} {f j : Nat} {σ : fo_S} (hf : f < 6) (hB : 0 ≤ B) (hfr : 0 ≤ fo_free σ.1) (h : fo_WI B σ.1) (hj : 270 ≤ j) : (fo_merge f σ).1 j = σ.1 j := (fo_merge_pt hf hB hfr h).2.2.2.2 j (by omega) (by omega) (by omega) (by omega)
theorem fo_many_merge {B k : Int} {f : Nat} {σ : fo_S} (hf : f < 6) (hB : 0 ≤ B) (hfr : 0 ≤ fo_free σ.1) (h : fo_WI B σ.1) (hk : 3 ≤ k) : fo_many (fo_merge f σ).1 k = fo_many σ.1 k := by
  obtain ⟨pP, pV, pK, pO, pH⟩ := fo_merge_pt hf hB hfr h
  refine fo_many_congr (fun c hc => ?_)
  constructor
  · intro e
    rw [pK c hc] at e
    split at e
    · omega
    · split at e
      · omega
      · split at e
        · omega
        · exact e
  · intro e
    obtain ⟨a1, a2, a3⟩ := fo_log_away (f := f) hfr hc (by omega)
    rw [pK c hc, if_neg a1, if_neg a2, if_neg a3]
    exact e
theorem fo_clr_keep {B g : Int} {b : Nat} {r0 : fo_R} (hB : 0 ≤ B) (hb : b < 16) : ∀ (n f : Nat) (σ : fo_S), f + n = 6 → fo_WI B σ.1 → fo_SI σ.1 → 3 ≤ σ.1 (192 + b) → (∀ g, f ≤ g → g < 6 → fo_hasF σ.1 b g = fo_hasF r0 b g) →
    (fo_Hx g σ.1 → fo_Hx g (fo_clr r0 b n f σ).1) ∧ (∀ j, 270 ≤ j → (fo_clr r0 b n f σ).1 j = σ.1 j) ∧ ∀ k, 3 ≤ k → fo_many (fo_clr r0 b n f σ).1 k = fo_many σ.1 k := by
  intro n
  induction n with
  | zero => intro f σ _ _ _ _ _; exact ⟨id, fun _ _ => rfl, fun _ _ => rfl⟩
  | succ n ih =>
    intro f σ hf h s hk h1
    have hf6 : f < 6 := by omega
    have e : fo_clr r0 b (n + 1) f σ = fo_clr r0 b n (f + 1) (if fo_hasF r0 b f = true then fo_merge f σ else σ) := rfl
    rw [e]
    by_cases hm : fo_hasF r0 b f = true
    · rw [if_pos hm]
      have hfr := s.free h
      have hmσ : fo_hasF σ.1 b f = true := by rw [h1 f (Nat.le_refl _) hf6]; exact hm
      obtain ⟨l1, l2, l3⟩ := fo_merge_log hf6 hB hfr h hb hk
      obtain ⟨q1, q2, q3⟩ := ih (f + 1) (fo_merge f σ) (by omega) (fo_WI_merge hf6 hB hfr h) (fo_SI_merge hf6 hB h s (fo_hasF_ex h hb hmσ)) (by rw [l1]; exact hk)
        (fun g hg1 hg2 => by rw [fo_hasF_merge hf6 hB hfr h hb hk (by omega)]; exact h1 g (by omega) hg2)
      exact ⟨fun hx => q1 (fo_Hx_merge hf6 hB hfr h hx), fun j hj => by rw [q2 j hj, fo_hi_merge hf6 hB hfr h hj], fun k hk => by rw [q3 k hk, fo_many_merge hf6 hB hfr h hk]⟩
    · rw [if_neg hm]
      exact ih (f + 1) σ (by omega) h s hk (fun g hg1 hg2 => h1 g (by omega) hg2)
theorem fo_clear_keep {B k : Int} {c : Nat} {σ : fo_S} (hB : 0 ≤ B) (h : fo_WI B σ.1) (s : fo_SI σ.1) (hk : 3 ≤ k) (ec : fo_blk σ.1 k 0 = (c : Int)) (hc : c < 16) (h1 : σ.1 (192 + c) = k) (h2 : σ.1 (208 + c) = 0) :
    (∀ g, fo_Hx g σ.1 → fo_Hx g (fo_clear k σ).1) ∧ (∀ j, 270 ≤ j → (fo_clear k σ).1 j = σ.1 j) ∧ fo_many (fo_clear k σ).1 k + 1 = fo_many σ.1 k := by
  obtain ⟨_, _, q3, q4, q5, q6⟩ := fo_clear_ok hB h s hk ec hc h1 h2
  have hh := fun g => fo_clr_keep (g := g) (r0 := σ.1) hB hc 6 0 σ (by omega) h s (by omega) (fun g _ _ => rfl)
  obtain ⟨_, k2, k3⟩ := hh 0
  have e : (fo_clear k σ).1 = fo_cnt 266 (fo_wp c (fo_clr σ.1 c 6 0 σ).1) := by
    unfold fo_clear
    rw [ec, fo_t0]
    rfl
  rw [e]
  refine ⟨fun g hx => ?_, fun j hj => ?_, ?_⟩
  · obtain ⟨d, hd, a1, a2⟩ := (hh g).1 hx
    have hdc : d ≠ c := fun e => by rw [e] at a1; omega
    refine ⟨d, hd, by rw [fo_cnt_o (by omega), fo_wp_kd hd, if_neg hdc]; exact a1, ?_⟩
    rw [fo_cnt_o (by omega), fo_wp_ow hd, if_neg hdc, if_neg (fun h => by omega)]
    exact a2
  · rw [fo_cnt_o (by omega), fo_wp_hi hc (by omega), k2 j hj]
  · have m1 : fo_many (fo_clr σ.1 c 6 0 σ).1 k = fo_many (fo_cnt 266 (fo_wp c (fo_clr σ.1 c 6 0 σ).1)) k + 1 := fo_many_one hc q5 (by rw [fo_cnt_o (by omega), fo_wp_kd hc, if_pos rfl]; omega) (fun d hd e => by rw [fo_cnt_o (by omega), fo_wp_kd hd, if_neg e])
    rw [k3 k hk] at m1
    exact m1.symm
theorem fo_seal_keep {B : Int} {b : Nat} {σ : fo_S} (hB : 0 ≤ B) (hb : b < 16) (hk : σ.1 (192 + b) = 2) (h : fo_WI B σ.1) (s : fo_SI σ.1) :
    (∀ g, fo_Hx g σ.1 → fo_Hx g (fo_sealA b (σ.1 (208 + b)).toNat σ).2.1) ∧ (∀ j, 270 ≤ j → (fo_sealA b (σ.1 (208 + b)).toNat σ).2.1 j = σ.1 j) ∧ ∀ c, c < 16 → (fo_sealA b (σ.1 (208 + b)).toNat σ).2.1 (192 + c) ≠ 2 := by
  obtain ⟨hd, eo⟩ := fo_run_dst h s hb hk
  have hfr := s.free h
  generalize hf : (σ.1 (208 + b)).toNat = f at hd eo ⊢
  obtain ⟨pP, pK, pO, pH⟩ := fo_seal_pt hB hd hk (s.cg b hb (by omega)) h
  have hw : ∀ c : Nat, c < 16 → (c : Int) = fo_blk σ.1 1 f → σ.1 (192 + c) = 1 ∧ σ.1 (208 + c) = (f : Int) := by
    intro c hc e
    rcases fo_blk_spec σ.1 1 f with ⟨q, _⟩ | ⟨d, q, q1, q2, q3⟩
    · omega
    · have : c = d := by omega
      subst this; exact ⟨q2, q3⟩
  have nb : (b : Int) ≠ fo_blk σ.1 1 f := fun e => by have := (hw b hb e).1; omega
  unfold fo_sealA
  by_cases hA : fo_allL σ.1 b (fo_fill σ.1 b) = true
  · rw [if_pos hA]
    dsimp only
    generalize hw : (if fo_fill σ.1 b = 4 then 267 else 268) = w
    have hw1 : 267 ≤ w ∧ w ≤ 268 := by rw [← hw]; split <;> omega
    refine ⟨fun g hx => ?_, fun j hj => ?_, fun c hc => ?_⟩
    · obtain ⟨c, hc, a1, a2⟩ := hx
      by_cases e : (c : Int) = fo_blk σ.1 1 f
      · refine ⟨b, hb, by rw [fo_cnt_o (by omega), pK b hb, if_neg nb, if_pos rfl], ?_⟩
        rw [fo_cnt_o (by omega), pO b hb, if_neg nb, hd.2.2.2, ← a2, (by assumption : ∀ c : Nat, c < 16 → (c : Int) = fo_blk σ.1 1 f → σ.1 (192 + c) = 1 ∧ σ.1 (208 + c) = (f : Int)) c hc e |>.2]
      · have ecb : c ≠ b := fun e' => by rw [e'] at a1; omega
        exact ⟨c, hc, by rw [fo_cnt_o (by omega), pK c hc, if_neg e, if_neg ecb]; exact a1, by rw [fo_cnt_o (by omega), pO c hc, if_neg e]; exact a2⟩
    · rw [fo_cnt_o (by omega), pH j (by omega) (by omega) (by omega)]
    · rw [fo_cnt_o (by omega), pK c hc]
      split
      · decide
      · split
        · decide
        · rename_i e
          exact fun e2 => e (s.ru c b hc hb e2 hk)
  · rw [if_neg hA]
    dsimp only
    have hf6 := hd.2.1
    refine ⟨fun g hx => fo_Hx_merge hf6 hB hfr h hx, fun j hj => fo_hi_merge hf6 hB hfr h hj, fun c hc => ?_⟩
    obtain ⟨_, _, mK, _, _⟩ := fo_merge_pt hf6 hB hfr h
    have hrun : fo_blk σ.1 2 f = (b : Int) := fo_blk_of hb hk hd.2.2.2 (fun d hd' a _ => s.ru d b hd' hb a hk)
    rw [mK c hc]
    split
    · decide
    · rename_i e
      split
      · decide
      · split
        · decide
        · intro e2
          exact e (by rw [hrun, s.ru c b hc hb e2 hk])
/-- a leaf is ready for a page -/
def fo_Rdy (p : Int) (l : Nat) (r : fo_R) : Prop := l < 64 ∧ r l = 0 ∧ r (192 + l / 4) ≠ 0 ∧ ((r (192 + l / 4) = 1 ∨ r (192 + l / 4) = 2) → p = 4 * r (208 + l / 4) + ((l % 4 : Nat) : Int)) ∧
  (2 ≤ r (192 + l / 4) → ∀ k, k < l % 4 → r (4 * (l / 4) + k) ≠ 0) ∧ fo_Hx (p / 4) r ∧
  (∀ b, b < 16 → r (192 + b) = 2 → b ≠ l / 4 → r (4 * b) ≠ 0) ∧ (r (192 + l / 4) = 2 → l % 4 = 0 ∨ r (4 * (l / 4)) ≠ 0) ∧
  (∀ b, b < 16 → r (192 + b) = 1 → b ≠ l / 4 → ∃ i, i < 64 ∧ r i ≠ 0 ∧ (r i - 1) / 4 = r (208 + b))
theorem fo_Rdy_put {B p v : Int} {l : Nat} {σ : fo_S} (hB : 0 ≤ B) (hp : 0 ≤ p ∧ p < 24) (h : fo_WI B σ.1) (s : fo_S9 σ.1) (hr : fo_Rdy p l σ.1) : fo_WI (B + 1) (fo_put l p v (B + 1) σ).1 ∧ fo_SI (fo_put l p v (B + 1) σ).1 := by
  obtain ⟨hl, h0, hk, ho, hC, hx, hR, hRc, hH⟩ := hr
  exact ⟨fo_WI_new hB hl hp hk ho h, fo_SI_put hl hp.1 s h0 hC hx hR hRc hH (fun e => by have := ho (Or.inl e); omega)⟩
/-- (2): a home that is there -/
theorem fo_Rdy_home {B : Int} {p c : Nat} {r : fo_R} (h : fo_WI B r) (s : fo_SI r) (hc : c < 16) (h1 : r (192 + c) = 1) (h2 : r (208 + c) = ((p / 4 : Nat) : Int)) (h0 : r (4 * c + p % 4) ≤ 0) : fo_Rdy p (4 * c + p % 4) r := by
  have hp := h.pg (4 * c + p % 4) (by omega)
  have e1 : (4 * c + p % 4) / 4 = c := by omega
  have e2 : (4 * c + p % 4) % 4 = p % 4 := by omega
  unfold fo_Rdy
  rw [e1, e2]
  refine ⟨by omega, by omega, by omega, fun _ => by omega, fun hh => by omega, ⟨c, hc, h1, by omega⟩, fun b hb e _ => s.r0 b hb e, fun e => by omega, fun b hb e _ => s.hb b hb e⟩
/-- (2): a home just taken -/
theorem fo_Rdy_take1 {B : Int} {p : Nat} {r : fo_R} (hp : p < 24) (h : fo_WI B r) (s : fo_SI r) (hn : ∀ c, c < 16 → ¬ (r (192 + c) = 1 ∧ r (208 + c) = ((p / 4 : Nat) : Int))) : fo_WI B (fo_take 1 ((p / 4 : Nat) : Int) r) ∧ fo_S9 (fo_take 1 ((p / 4 : Nat) : Int) r) ∧ fo_Rdy p (4 * (fo_free r).toNat + p % 4) (fo_take 1 ((p / 4 : Nat) : Int) r) := by
  have hfr := s.free h
  obtain ⟨n, en, hn16, h0⟩ := fo_free_nat hfr
  have hW := fo_WI_take (B := B) (k := 1) (o := ((p / 4 : Nat) : Int)) hfr (by omega) (by omega) h
  have hS := fo_S9_take (B := B) (k := 1) (o := ((p / 4 : Nat) : Int)) h s.s9 (Or.inl rfl) (by omega) (fun _ => hn) (fun e => absurd e (by decide))
  refine ⟨hW, hS, ?_⟩
  rw [en, fo_t0]
  have e1 : (4 * n + p % 4) / 4 = n := by omega
  have e2 : (4 * n + p % 4) % 4 = p % 4 := by omega
  have kd : ∀ c, c < 16 → fo_take 1 ((p / 4 : Nat) : Int) r (192 + c) = if c = n then 1 else r (192 + c) := fun c hc => by
    rw [fo_take_kd hfr hc, en]
    by_cases e : c = n
    · rw [if_pos (by omega), if_pos e]
    · rw [if_neg (by omega), if_neg e]
  have ow : ∀ c, c < 16 → fo_take 1 ((p / 4 : Nat) : Int) r (208 + c) = if c = n then ((p / 4 : Nat) : Int) else r (208 + c) := fun c hc => by
    rw [fo_take_ow hfr hc, en]
    by_cases e : c = n
    · rw [if_pos (by omega), if_pos e]
    · rw [if_neg (by omega), if_neg e]
  have oth : ∀ j, j < 192 ∨ 224 ≤ j → fo_take 1 ((p / 4 : Nat) : Int) r j = r j := fun j hj => fo_take_o hfr hj
  have k1 : fo_take 1 ((p / 4 : Nat) : Int) r (192 + n) = 1 := by rw [kd n hn16, if_pos rfl]
  have o1 : fo_take 1 ((p / 4 : Nat) : Int) r (208 + n) = ((p / 4 : Nat) : Int) := by rw [ow n hn16, if_pos rfl]
  unfold fo_Rdy
  rw [e1, e2, k1, o1]
  refine ⟨by omega, by rw [oth _ (by omega)]; exact h.em _ (by omega) (by rw [e1]; exact h0), by decide, fun _ => by omega, fun hh => by omega, ⟨n, hn16, k1, by rw [o1]; omega⟩, fun b hb e hne => ?_, fun e => by omega, fun b hb e hne => ?_⟩
  · rw [kd b hb, if_neg hne] at e
    rw [oth _ (by omega)]
    exact s.r0 b hb e
  · rw [kd b hb, if_neg hne] at e
    obtain ⟨i, hi, a1, a2⟩ := s.hb b hb e
    exact ⟨i, hi, by rw [oth _ (by omega)]; exact a1, by rw [oth _ (by omega), ow b hb, if_neg hne]; exact a2⟩
/-- (3): the run just taken -/
theorem fo_Rdy_take2 {B : Int} {p : Nat} {r : fo_R} (hp : p < 24) (hp4 : p % 4 = 0) (h : fo_WI B r) (s : fo_SI r) (hn : ∀ c, c < 16 → r (192 + c) ≠ 2) (hx : fo_Hx ((p / 4 : Nat) : Int) r) : fo_WI B (fo_take 2 ((p / 4 : Nat) : Int) r) ∧ fo_S9 (fo_take 2 ((p / 4 : Nat) : Int) r) ∧ fo_Rdy p (4 * (fo_free r).toNat) (fo_take 2 ((p / 4 : Nat) : Int) r) := by
  have hfr := s.free h
  obtain ⟨n, en, hn16, h0⟩ := fo_free_nat hfr
  have hW := fo_WI_take (B := B) (k := 2) (o := ((p / 4 : Nat) : Int)) hfr (by omega) (by omega) h
  have hS := fo_S9_take (B := B) (k := 2) (o := ((p / 4 : Nat) : Int)) h s.s9 (Or.inr rfl) (by omega) (fun e => absurd e (by decide)) (fun _ => hn)
  refine ⟨hW, hS, ?_⟩
  rw [en, fo_t0]
  have e1 : (4 * n) / 4 = n := by omega
  have e2 : (4 * n) % 4 = 0 := by omega
  have kd : ∀ c, c < 16 → fo_take 2 ((p / 4 : Nat) : Int) r (192 + c) = if c = n then 2 else r (192 + c) := fun c hc => by
    rw [fo_take_kd hfr hc, en]
    by_cases e : c = n
    · rw [if_pos (by omega), if_pos e]
    · rw [if_neg (by omega), if_neg e]
  have ow : ∀ c, c < 16 → fo_take 2 ((p / 4 : Nat) : Int) r (208 + c) = if c = n then ((p / 4 : Nat) : Int) else r (208 + c) := fun c hc => by
    rw [fo_take_ow hfr hc, en]
    by_cases e : c = n
    · rw [if_pos (by omega), if_pos e]
    · rw [if_neg (by omega), if_neg e]
  have oth : ∀ j, j < 192 ∨ 224 ≤ j → fo_take 2 ((p / 4 : Nat) : Int) r j = r j := fun j hj => fo_take_o hfr hj
  have k1 : fo_take 2 ((p / 4 : Nat) : Int) r (192 + n) = 2 := by rw [kd n hn16, if_pos rfl]
  have o1 : fo_take 2 ((p / 4 : Nat) : Int) r (208 + n) = ((p / 4 : Nat) : Int) := by rw [ow n hn16, if_pos rfl]
  unfold fo_Rdy
  rw [e1, e2, k1, o1]
  obtain ⟨c, hc, a1, a2⟩ := hx
  have hcn : c ≠ n := fun e => by rw [e] at a1; omega
  refine ⟨by omega, by rw [oth _ (by omega)]; exact h.em _ (by omega) (by rw [e1]; exact h0), by decide, fun _ => by omega, fun _ k hk => by omega, ⟨c, hc, by rw [kd c hc, if_neg hcn]; exact a1, by rw [ow c hc, if_neg hcn, a2]; omega⟩, fun b hb e hne => ?_, fun _ => Or.inl rfl, fun b hb e hne => ?_⟩
  · rw [kd b hb, if_neg hne] at e
    exact absurd e (hn b hb)
  · rw [kd b hb, if_neg hne] at e
    obtain ⟨i, hi, a1, a2⟩ := s.hb b hb e
    exact ⟨i, hi, by rw [oth _ (by omega)]; exact a1, by rw [oth _ (by omega), ow b hb, if_neg hne]; exact a2⟩
/-- (4), (5): the first empty leaf of the run or of a log that is there -/
theorem fo_Rdy_fill {B : Int} {p c : Nat} {r : fo_R} (h : fo_WI B r) (s : fo_SI r) (hc : c < 16) (h1 : 2 ≤ r (192 + c)) (h2 : r (192 + c) = 2 → r (208 + c) = ((p / 4 : Nat) : Int) ∧ fo_fill r c = p % 4) (hf : fo_fill r c < 4) (hx : fo_Hx ((p / 4 : Nat) : Int) r) : fo_Rdy p (4 * c + fo_fill r c) r := by
  obtain ⟨f1, f2, f3⟩ := fo_fill_spec h.pg hc (s.cg c hc h1)
  have e1 : (4 * c + fo_fill r c) / 4 = c := by omega
  have e2 : (4 * c + fo_fill r c) % 4 = fo_fill r c := by omega
  unfold fo_Rdy
  rw [e1, e2]
  refine ⟨by omega, f3 _ (Nat.le_refl _) hf, by omega, fun e => ?_, fun _ k hk => by have := f2 k hk; omega, ?_, fun b hb e _ => s.r0 b hb e, fun e => Or.inr (s.r0 c hc e), fun b hb e _ => s.hb b hb e⟩
  · have := h2 (by omega)
    omega
  · obtain ⟨d, hd, a1, a2⟩ := hx
    exact ⟨d, hd, a1, by rw [a2]; omega⟩
/-- (5): a log just taken -/
theorem fo_Rdy_takeL {B k : Int} {p : Nat} {r : fo_R} (h : fo_WI B r) (s : fo_SI r) (hk : k = 3 ∨ k = 4) (hlt : fo_many r k < r (268 + k.toNat)) (hx : fo_Hx ((p / 4 : Nat) : Int) r) : fo_WI B (fo_take k (fo_many r k) r) ∧ fo_S9 (fo_take k (fo_many r k) r) ∧ fo_Rdy p (4 * (fo_free r).toNat) (fo_take k (fo_many r k) r) := by
  have hfr := s.free h
  obtain ⟨n, en, hn16, h0⟩ := fo_free_nat hfr
  have hm0 : 0 ≤ fo_many r k := fo_many_pos
  have hm6 : fo_many r k ≤ 6 := by
    have := s.lm
    unfold fo_Lm at this
    rcases hk with e | e <;> subst e <;> omega
  have hW := fo_WI_take (B := B) (k := k) (o := fo_many r k) hfr (by omega) (by omega) h
  have hS := fo_S9_takeL h s.s9 hk hlt
  refine ⟨hW, hS, ?_⟩
  rw [en, fo_t0]
  generalize fo_many r k = m at *
  have e1 : (4 * n) / 4 = n := by omega
  have e2 : (4 * n) % 4 = 0 := by omega
  have kd : ∀ c, c < 16 → fo_take k m r (192 + c) = if c = n then k else r (192 + c) := fun c hc => by
    rw [fo_take_kd hfr hc, en]
    by_cases e : c = n
    · rw [if_pos (by omega), if_pos e]
    · rw [if_neg (by omega), if_neg e]
  have ow : ∀ c, c < 16 → fo_take k m r (208 + c) = if c = n then m else r (208 + c) := fun c hc => by
    rw [fo_take_ow hfr hc, en]
    by_cases e : c = n
    · rw [if_pos (by omega), if_pos e]
    · rw [if_neg (by omega), if_neg e]
  have oth : ∀ j, j < 192 ∨ 224 ≤ j → fo_take k m r j = r j := fun j hj => fo_take_o hfr hj
  have k1 : fo_take k m r (192 + n) = k := by rw [kd n hn16, if_pos rfl]
  unfold fo_Rdy
  rw [e1, e2, k1]
  obtain ⟨c, hc, a1, a2⟩ := hx
  have hcn : c ≠ n := fun e => by rw [e] at a1; omega
  refine ⟨by omega, by rw [oth _ (by omega)]; exact h.em _ (by omega) (by rw [e1]; exact h0), by omega, fun e => by omega, fun _ k hk => by omega, ⟨c, hc, by rw [kd c hc, if_neg hcn]; exact a1, by rw [ow c hc, if_neg hcn, a2]; omega⟩, fun b hb e hne => ?_, fun _ => Or.inl rfl, fun b hb e hne => ?_⟩
  · rw [kd b hb, if_neg hne] at e
    rw [oth _ (by omega)]
    exact s.r0 b hb e
  · rw [kd b hb, if_neg hne] at e
    obtain ⟨i, hi, a1, a2⟩ := s.hb b hb e
    exact ⟨i, hi, by rw [oth _ (by omega)]; exact a1, by rw [oth _ (by omega), ow b hb, if_neg hne]; exact a2⟩
