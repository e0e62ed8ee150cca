/-! ===== behind a full merge; the run sealed ===== -/
theorem fo_SI.free {B : Int} {r : fo_R} (s : fo_SI r) (h : fo_WI B r) : 0 ≤ fo_free r := fo_free_of h.kd s.hu s.ru s.lu s.or s.lo s.lm
/-- the latest leaves of other folders stay -/
theorem fo_lat_merge {B p : Int} {f : Nat} {σ : fo_S} (hf : f < 6) (hB : 0 ≤ B) (hfr : 0 ≤ fo_free σ.1) (h : fo_WI B σ.1) (hp : 0 ≤ p) (hpf : p / 4 ≠ (f : Int)) : fo_lat (fo_merge f σ).1 p = fo_lat σ.1 p := by
  obtain ⟨pP, pV, pK, pO, pH⟩ := fo_merge_pt hf hB hfr h
  obtain ⟨n, en, hn, h0⟩ := fo_free_nat hfr
  have away : ∀ j : Nat, j < 64 → σ.1 j = p + 1 → ((j / 4 : Nat) : Int) ≠ fo_blk σ.1 2 f ∧ ((j / 4 : Nat) : Int) ≠ fo_blk σ.1 1 f ∧ ((j / 4 : Nat) : Int) ≠ fo_free σ.1 := by
    intro j hj hpj
    have hon := h.on j hj (by omega)
    refine ⟨fun e => ?_, fun e => ?_, fun e => ?_⟩
    · rcases fo_blk_spec σ.1 2 f with ⟨q, _⟩ | ⟨d, q, q1, q2, q3⟩
      · omega
      · have : j / 4 = d := by omega
        rw [this] at hon
        have := hon (Or.inr q2)
        omega
    · rcases fo_blk_spec σ.1 1 f with ⟨q, _⟩ | ⟨d, q, q1, q2, q3⟩
      · omega
      · have : j / 4 = d := by omega
        rw [this] at hon
        have := hon (Or.inl q2)
        omega
    · have e' : j / 4 = n := by omega
      have := h.em j hj (by rw [e']; exact h0)
      omega
  refine fo_lat_o (fun j hj => ?_) (fun j hj hpj => ?_) (fun j hj hpj => ?_)
  · constructor
    · intro e
      rw [pP j hj] at e
      split at e
      · omega
      · split at e
        · omega
        · split at e
          · split at e
            · omega
            · omega
          · exact e
    · intro e
      obtain ⟨a1, a2, a3⟩ := away j hj e
      rw [pP j hj, if_neg a1, if_neg a2, if_neg a3]
      exact e
  · obtain ⟨a1, a2, a3⟩ := away j hj hpj
    exact (pV j hj a1 a2 a3).2
  · obtain ⟨a1, a2, a3⟩ := away j hj hpj
    exact fo_rank_o (by rw [pP j hj, if_neg a1, if_neg a2, if_neg a3]) (by rw [pO _ (by omega), if_neg a1, if_neg a2, if_neg a3]) (by rw [pK _ (by omega), if_neg a1, if_neg a2, if_neg a3])
theorem fo_hasF_iff {r : fo_R} {b f : Nat} : fo_hasF r b f = true ↔ ∃ k, k < 4 ∧ 0 < r (4 * b + k) ∧ fo_lat r (r (4 * b + k) - 1) = ((4 * b + k : Nat) : Int) ∧ (r (4 * b + k) - 1) / 4 = (f : Int) := by
  simp only [fo_hasF, List.any_eq_true, List.mem_range, Bool.and_eq_true, decide_eq_true_eq, fo_isL]
  constructor
  · rintro ⟨k, hk, ⟨h1, h2⟩, h3⟩
    exact ⟨k, hk, h1, h2, h3⟩
  · rintro ⟨k, hk, h1, h2, h3⟩
    exact ⟨k, hk, ⟨h1, h2⟩, h3⟩
/-- a log isn't one of the blocks of a merge -/
theorem fo_log_away {f c : Nat} {r : fo_R} (hfr : 0 ≤ fo_free r) (hc : c < 16) (hk : 3 ≤ r (192 + c)) : (c : Int) ≠ fo_blk r 2 f ∧ (c : Int) ≠ fo_blk r 1 f ∧ (c : Int) ≠ fo_free r := by
  obtain ⟨n, en, hn, h0⟩ := fo_free_nat hfr
  refine ⟨fun e => ?_, fun e => ?_, fun e => ?_⟩
  · rcases fo_blk_spec r 2 f with ⟨q, _⟩ | ⟨d, q, q1, q2, q3⟩
    · omega
    · have : c = d := by omega
      subst this; omega
  · rcases fo_blk_spec r 1 f with ⟨q, _⟩ | ⟨d, q, q1, q2, q3⟩
    · omega
    · have : c = d := by omega
      subst this; omega
  · have : c = n := by omega
    subst this; omega
theorem fo_merge_log {B : Int} {f c : Nat} {σ : fo_S} (hf : f < 6) (hB : 0 ≤ B) (hfr : 0 ≤ fo_free σ.1) (h : fo_WI B σ.1) (hc : c < 16) (hk : 3 ≤ σ.1 (192 + c)) : (fo_merge f σ).1 (192 + c) = σ.1 (192 + c) ∧ (fo_merge f σ).1 (208 + c) = σ.1 (208 + c) ∧ ∀ k, k < 4 → (fo_merge f σ).1 (4 * c + k) = σ.1 (4 * c + k) := by
  obtain ⟨pP, pV, pK, pO, pH⟩ := fo_merge_pt hf hB hfr h
  obtain ⟨a1, a2, a3⟩ := fo_log_away (f := f) hfr hc hk
  refine ⟨by rw [pK c hc, if_neg a1, if_neg a2, if_neg a3], by rw [pO c hc, if_neg a1, if_neg a2, if_neg a3], fun k hk => ?_⟩
  have e : (4 * c + k) / 4 = c := by omega
  rw [pP _ (by omega), e, if_neg a1, if_neg a2, if_neg a3]
/-- another folder's leaves in a log: latest or not, as before -/
theorem fo_hasF_merge {B : Int} {f c g : Nat} {σ : fo_S} (hf : f < 6) (hB : 0 ≤ B) (hfr : 0 ≤ fo_free σ.1) (h : fo_WI B σ.1) (hc : c < 16) (hk : 3 ≤ σ.1 (192 + c)) (hg : g ≠ f) : fo_hasF (fo_merge f σ).1 c g = fo_hasF σ.1 c g := by
  obtain ⟨_, _, l3⟩ := fo_merge_log hf hB hfr h hc hk
  have e : ∀ k, k < 4 → (0 < σ.1 (4 * c + k) ∧ (σ.1 (4 * c + k) - 1) / 4 = (g : Int)) → fo_lat (fo_merge f σ).1 (σ.1 (4 * c + k) - 1) = fo_lat σ.1 (σ.1 (4 * c + k) - 1) := fun k hk4 hh => fo_lat_merge hf hB hfr h (by omega) (by omega)
  rw [Bool.eq_iff_iff, fo_hasF_iff, fo_hasF_iff]
  constructor
  · rintro ⟨k, hk4, h1, h2, h3⟩
    rw [l3 k hk4] at h1 h2 h3
    exact ⟨k, hk4, h1, by rw [← e k hk4 ⟨h1, h3⟩]; exact h2, h3⟩
  · rintro ⟨k, hk4, h1, h2, h3⟩
    refine ⟨k, hk4, ?_⟩
    rw [l3 k hk4]
    exact ⟨h1, by rw [e k hk4 ⟨h1, h3⟩]; exact h2, h3⟩
theorem fo_rank_log {r : fo_R} {l : Nat} (h : 3 ≤ r (192 + l / 4)) : fo_rank r l = 2 := by
  unfold fo_rank
  split
  · rw [if_neg (by omega), if_neg (by omega)]
  · rfl
/-- its own leaves in a log aren't the latest any more -/
theorem fo_noF_merge {B : Int} {f c : Nat} {σ : fo_S} (hf : f < 6) (hB : 0 ≤ B) (hfr : 0 ≤ fo_free σ.1) (h : fo_WI B σ.1) (hc : c < 16) (hk : 3 ≤ σ.1 (192 + c)) : fo_hasF (fo_merge f σ).1 c f = false := by
  obtain ⟨pP, pV, pK, pO, pH⟩ := fo_merge_pt hf hB hfr h
  obtain ⟨l1, l2, l3⟩ := fo_merge_log hf hB hfr h hc hk
  obtain ⟨n, en, hn, h0⟩ := fo_free_nat hfr
  cases hq : fo_hasF (fo_merge f σ).1 c f with
  | false => rfl
  | true =>
    exfalso
    obtain ⟨k, hk4, h1, h2, h3⟩ := fo_hasF_iff.mp hq
    have hl3 := l3 k hk4
    obtain ⟨a1, a2, a3⟩ := fo_log_away (f := f) hfr hc hk
    have hdc : (4 * c + k) / 4 = c := by omega
    have hst := (pV (4 * c + k) (by omega) (by rw [hdc]; exact a1) (by rw [hdc]; exact a2) (by rw [hdc]; exact a3)).2
    rw [hl3] at h1 h2 h3
    have hpg := h.pg (4 * c + k) (by omega)
    generalize hp : σ.1 (4 * c + k) - 1 = p at h2 h3
    -- the copy in the new home
    have hL : 0 ≤ fo_lat σ.1 p := by
      rcases fo_lat_spec σ.1 p with ⟨_, g⟩ | ⟨m, g, _⟩
      · exact absurd (by omega) (g (4 * c + k) (by omega))
      · omega
    obtain ⟨m, em, hm, hpm⟩ := (fo_lat_cases σ.1 p).resolve_left (by omega)
    have hmax := (fo_lat_max em).2.2 (4 * c + k) (by omega) (by omega)
    have n1 : (n : Int) ≠ fo_blk σ.1 1 f := by rw [← en]; exact fun e => fo_blk_free (by decide) hfr e.symm
    have n2 : (n : Int) ≠ fo_blk σ.1 2 f := by rw [← en]; exact fun e => fo_blk_free (by decide) hfr e.symm
    have hj4 : (4 * n + (p % 4).toNat) / 4 = n := by omega
    have hjm : (4 * n + (p % 4).toNat) % 4 = (p % 4).toNat := by omega
    have hpp : 4 * (f : Int) + (((p % 4).toNat : Nat) : Int) = p := by omega
    have hS : (fo_merge f σ).1 (4 * n + (p % 4).toNat) = p + 1 := by
      rw [pP _ (by omega), hj4, if_neg n2, if_neg n1, en, if_pos rfl, hjm, hpp, if_pos hL]
    -- its stamp
    have hstn : (fo_merge f σ).1 (128 + (4 * n + (p % 4).toNat)) = σ.1 (128 + m) := by
      have hpt := (fo_cl_pt (f := f) (b := n) 4 0 (fo_take 1 f σ.1, σ.2) (by omega) hn (fun k _ hk => by show fo_take 1 f σ.1 (4 * n + k) = 0; rw [fo_take_o hfr (by omega)]; exact h.em _ (by omega) (by rw [show (4 * n + k) / 4 = n by omega]; exact h0)) (4 * n + (p % 4).toNat) (by omega)).2.2
      dsimp only at hpt
      rw [hj4, hjm, hpp, fo_lat_take hfr h.em (by omega), if_pos ⟨rfl, by omega, by omega, hL⟩, em, fo_t0, fo_take_o hfr (by omega)] at hpt
      simp only [fo_merge, fo_mergeS]
      rw [fo_cnt_o (by omega), fo_wipeI_st fo_blk_lt.2 (by omega), fo_wipeI_st fo_blk_lt.2 (by omega), hj4, if_neg n2, if_neg n1, show (fo_free σ.1).toNat = n by omega, hpt]
    have hrn : fo_rank (fo_merge f σ).1 (4 * n + (p % 4).toNat) = 0 := by
      unfold fo_rank
      rw [hS, hj4, pK n hn, pO n hn, if_neg n2, if_neg n1, en, if_pos rfl, if_neg n2, if_neg n1, if_pos rfl, if_pos (by omega), if_pos rfl]
    have hrl : fo_rank (fo_merge f σ).1 (4 * c + k) = 2 := fo_rank_log (by rw [hdc, l1]; exact hk)
    have hb : fo_bet (fo_merge f σ).1 (4 * n + (p % 4).toNat) (4 * c + k) = true := by
      simp only [fo_bet, decide_eq_true_eq]
      rw [hstn, hst, hrn, hrl]
      omega
    rcases fo_lat_spec (fo_merge f σ).1 p with ⟨g, _⟩ | ⟨j, g, _, _, g4, _⟩
    · omega
    · have ej : j = 4 * c + k := by omega
      subst ej
      rw [g4 _ (by omega) hS] at hb
      cases hb
/-! the run sealed -/
theorem fo_fill_spec {r : fo_R} {b : Nat} (hP : fo_Pg r) (hb : b < 16) (hC : ∀ k, k < 3 → r (4 * b + k) = 0 → r (4 * b + k + 1) = 0) : fo_fill r b ≤ 4 ∧ (∀ k, k < fo_fill r b → 1 ≤ r (4 * b + k)) ∧ ∀ k, fo_fill r b ≤ k → k < 4 → r (4 * b + k) = 0 := by
  have p0 := hP (4 * b) (by omega)
  have p1 := hP (4 * b + 1) (by omega)
  have p2 := hP (4 * b + 2) (by omega)
  have p3 := hP (4 * b + 3) (by omega)
  have c0 := hC 0 (by omega)
  have c1 := hC 1 (by omega)
  have c2 := hC 2 (by omega)
  rw [Nat.add_zero] at c0
  have key : ∀ k, k < 4 → k = 0 ∨ k = 1 ∨ k = 2 ∨ k = 3 := by omega
  unfold fo_fill
  by_cases h0 : r (4 * b) ≤ 0
  · rw [if_pos h0]
    have a0 : r (4 * b) = 0 := by omega
    refine ⟨by omega, fun k hk => by omega, fun k _ hk => ?_⟩
    rcases key k hk with e | e | e | e <;> subst e
    · exact a0
    · exact c0 a0
    · exact c1 (c0 a0)
    · exact c2 (c1 (c0 a0))
  · rw [if_neg h0]
    by_cases h1 : r (4 * b + 1) ≤ 0
    · rw [if_pos h1]
      have a1 : r (4 * b + 1) = 0 := by omega
      refine ⟨by omega, fun k hk => ?_, fun k hk1 hk => ?_⟩
      · have : k = 0 := by omega
        subst this; rw [Nat.add_zero]; omega
      · rcases key k hk with e | e | e | e <;> subst e
        · omega
        · exact a1
        · exact c1 a1
        · exact c2 (c1 a1)
    · rw [if_neg h1]
      by_cases h2 : r (4 * b + 2) ≤ 0
      · rw [if_pos h2]
        have a2 : r (4 * b + 2) = 0 := by omega
        refine ⟨by omega, fun k hk => ?_, fun k hk1 hk => ?_⟩
        · have : k = 0 ∨ k = 1 := by omega
          rcases this with e | e <;> subst e
          · rw [Nat.add_zero]; omega
          · omega
        · rcases key k hk with e | e | e | e <;> subst e
          · omega
          · omega
          · exact a2
          · exact c2 a2
      · rw [if_neg h2]
        by_cases h3 : r (4 * b + 3) ≤ 0
        · rw [if_pos h3]
          refine ⟨by omega, fun k hk => ?_, fun k hk1 hk => ?_⟩
          · have : k = 0 ∨ k = 1 ∨ k = 2 := by omega
            rcases this with e | e | e <;> subst e
            · rw [Nat.add_zero]; omega
            · omega
            · omega
          · have : k = 3 := by omega
            subst this; omega
        · rw [if_neg h3]
          refine ⟨by omega, fun k hk => ?_, fun k hk1 hk => by omega⟩
          rcases key k hk with e | e | e | e <;> subst e
          · rw [Nat.add_zero]; omega
          · omega
          · omega
          · omega
theorem fo_WI_k1 {B : Int} {r : fo_R} {b : Nat} (hb : b < 16) (hk : r (192 + b) = 2) (h : fo_WI B r) : fo_WI B (fo_u r (192 + b) 1) := by
  have e1 : ∀ j, j < 192 ∨ 208 ≤ j → fo_u r (192 + b) 1 j = r j := fun j hj => fo_u_o (by omega)
  have e2 : ∀ c, c < 16 → fo_u r (192 + b) 1 (192 + c) = if c = b then 1 else r (192 + c) := fun c hc => by
    rw [fo_u_eq]
    by_cases e : c = b
    · rw [if_pos (by omega), if_pos e]
    · rw [if_neg (by omega), if_neg e]
  refine ⟨fun j hj => ?_, fun j hj => ?_, fun c hc => ?_, fun c hc => ?_, fun c hc => ?_, fun j hj => ?_, fun j hj => ?_, fun j m hj hm => ?_, fun k a c => ?_, fun p hp => ?_⟩
  · rw [e1 j (by omega)]; exact h.pg j hj
  · rw [e1 _ (by omega)]; exact h.sb j hj
  · rw [e2 c hc]
    split
    · omega
    · exact h.kd c hc
  · rw [e1 _ (by omega)]; exact h.ow c hc
  · rw [e1 _ (by omega)]; exact h.wi c hc
  · rw [e2 _ (by omega), e1 j (by omega)]
    split
    · intro h0; exact absurd h0 (by decide)
    · exact h.em j hj
  · rw [e2 _ (by omega), e1 j (by omega), e1 _ (by omega)]
    split
    · rename_i e
      intro h0 _
      exact h.on j hj h0 (Or.inr (by rw [e]; exact hk))
    · exact h.on j hj
  · rw [e1 j (by omega), e1 m (by omega), e1 _ (by omega), e1 _ (by omega), e1 _ (by omega), e1 _ (by omega)]; exact h.sv j m hj hm
  · rw [e1 _ (by omega)]; exact h.ct k a c
  · rw [e1 _ (by omega)]; exact h.ht p hp
