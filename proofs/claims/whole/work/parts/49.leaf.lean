/-! ===== a write keeps what holds ===== -/
/-- a leaf is found, and ready -/
def fo_Lf (B : Int) (p : Nat) (s0 : fo_R) (t : Int × Int × fo_S) : Prop :=
  ∃ l : Nat, t.2.1 = (l : Int) ∧ fo_WI B t.2.2.1 ∧ fo_S9 t.2.2.1 ∧ fo_Rdy p l t.2.2.1 ∧ (∀ j, 270 ≤ j → t.2.2.1 j = s0 j) ∧ (t.1 = 4 → t.2.2.1 (192 + l / 4) = 2 ∧ l % 4 = p % 4)
/-- what holds once (5) has cleared where it must -/
theorem fo_logC_ok {B k : Int} {σ : fo_S} (hB : 0 ≤ B) (hk : k = 3 ∨ k = 4) (hl : 1 ≤ σ.1 (268 + k.toNat)) (h : fo_WI B σ.1) (s : fo_SI σ.1) :
    fo_WI B (fo_logC k σ).1 ∧ fo_SI (fo_logC k σ).1 ∧ (∀ g, fo_Hx g σ.1 → fo_Hx g (fo_logC k σ).1) ∧ (∀ j, 270 ≤ j → (fo_logC k σ).1 j = σ.1 j) ∧ fo_many (fo_logC k σ).1 k < (fo_logC k σ).1 (268 + k.toNat) := by
  have e : σ.1 (if k = 4 then 272 else 271) = σ.1 (268 + k.toNat) := by rcases hk with e | e <;> subst e <;> rfl
  have lm := s.lm
  unfold fo_Lm at lm
  have hle : fo_many σ.1 k ≤ σ.1 (268 + k.toNat) := by
    rcases hk with e | e
    · subst e; exact lm.1
    · subst e; exact lm.2.1
  unfold fo_logC
  rw [e]
  by_cases hc : fo_many σ.1 k = σ.1 (268 + k.toNat)
  · rw [if_pos hc]
    obtain ⟨c, hc16, a1, a2⟩ := s.ls k 0 (by omega) (Int.le_refl 0) (by rw [hc]; omega)
    have ec : fo_blk σ.1 k 0 = (c : Int) := fo_blk_of hc16 a1 a2 (fun d hd b1 b2 => s.lu d c hd hc16 (by omega) (by omega) (by omega))
    obtain ⟨q1, q2, _⟩ := fo_clear_ok hB h s (by omega) ec hc16 a1 a2
    obtain ⟨k1, k2, k3⟩ := fo_clear_keep hB h s (by omega) ec hc16 a1 a2
    refine ⟨q1, q2, k1, k2, ?_⟩
    rw [k2 _ (by omega), ← hc, ← k3]
    exact Int.lt_add_one_of_le (Int.le_refl _)
  · rw [if_neg hc]
    exact ⟨h, s, fun _ => id, fun _ _ => rfl, Int.lt_iff_le_and_ne.mpr ⟨hle, hc⟩⟩
theorem fo_logA_ok {B k : Int} {p : Nat} {σ : fo_S} (hB : 0 ≤ B) (hk : k = 3 ∨ k = 4) (hl : 1 ≤ σ.1 (268 + k.toNat)) (h : fo_WI B σ.1) (s : fo_SI σ.1) (hx : fo_Hx ((p / 4 : Nat) : Int) σ.1) : fo_Lf B p σ.1 (5, (fo_logA k σ).1, (fo_logA k σ).2) := by
  unfold fo_logA
  by_cases hr : 0 ≤ fo_room σ.1 k
  · rw [if_pos hr]
    unfold fo_room at hr ⊢
    by_cases hm : fo_many σ.1 k ≤ 0
    · rw [if_pos hm] at hr; exact absurd hr (by decide)
    · rw [if_neg hm] at hr ⊢
      obtain ⟨c, hc, a1, a2⟩ := s.ls k (fo_many σ.1 k - 1) (by omega) (by generalize fo_many σ.1 k = m at *; omega) (by generalize fo_many σ.1 k = m at *; omega)
      have ec : fo_blk σ.1 k (fo_many σ.1 k - 1) = (c : Int) := fo_blk_of hc a1 a2 (fun d hd b1 b2 => s.lu d c hd hc (by omega) (by rw [a1, b1]) (by rw [a2, b2]))
      rw [ec, fo_t0] at hr ⊢
      by_cases hf : fo_fill σ.1 c < 4
      · rw [if_pos hf]
        exact ⟨4 * c + fo_fill σ.1 c, by dsimp only; omega, h, s.s9, fo_Rdy_fill h s hc (by omega) (fun e => by omega) hf hx, fun _ _ => rfl, fun e => absurd e (show (5 : Int) ≠ 4 by decide)⟩
      · rw [if_neg hf] at hr; exact absurd hr (by decide)
  · rw [if_neg hr]
    obtain ⟨w1, w2, w3, w4, w5⟩ := fo_logC_ok hB hk hl h s
    obtain ⟨r1, r2, r3⟩ := fo_Rdy_takeL (p := p) w1 w2 hk w5 (w3 _ hx)
    have hfr := w2.free w1
    refine ⟨4 * (fo_free (fo_logC k σ).1).toNat, ?_, r1, r2, r3, fun j hj => ?_, fun e => absurd e (show (5 : Int) ≠ 4 by decide)⟩
    · dsimp only; omega
    · show fo_take k _ (fo_logC k σ).1 j = σ.1 j
      rw [fo_take_o hfr (by omega), w4 j hj]
theorem fo_log_ok {B : Int} {p : Nat} {σ : fo_S} (hB : 0 ≤ B) (h : fo_WI B σ.1) (s : fo_SI σ.1) (hx : fo_Hx ((p / 4 : Nat) : Int) σ.1) : fo_Lf B p σ.1 (5, (fo_log p σ).1, (fo_log p σ).2) := by
  have lm := s.lm
  unfold fo_Lm at lm
  unfold fo_log
  by_cases hh : fo_hot σ.1 p = true
  · rw [if_pos hh]
    refine fo_logA_ok hB (Or.inr rfl) ?_ h s hx
    have : σ.1 272 ≠ 0 := by
      unfold fo_hot at hh
      exact (of_decide_eq_true hh).1
    show 1 ≤ σ.1 272
    have := lm.2.2.2.2.1
    omega
  · rw [if_neg hh]
    exact fo_logA_ok hB (Or.inl rfl) lm.2.2.1 h s hx
/-- the run sealed where there is one, as (3) does -/
theorem fo_seal3_ok {B : Int} {σ : fo_S} (hB : 0 ≤ B) (h : fo_WI B σ.1) (s : fo_SI σ.1) :
    fo_WI B (if 0 ≤ fo_run σ.1 then (fo_seal σ).2 else σ).1 ∧ fo_SI (if 0 ≤ fo_run σ.1 then (fo_seal σ).2 else σ).1 ∧ (∀ g, fo_Hx g σ.1 → fo_Hx g (if 0 ≤ fo_run σ.1 then (fo_seal σ).2 else σ).1) ∧ (∀ j, 270 ≤ j → (if 0 ≤ fo_run σ.1 then (fo_seal σ).2 else σ).1 j = σ.1 j) ∧ ∀ c, c < 16 → (if 0 ≤ fo_run σ.1 then (fo_seal σ).2 else σ).1 (192 + c) ≠ 2 := by
  rcases fo_run_spec σ.1 with ⟨e, g⟩ | ⟨b, e, hb, hk⟩
  · rw [if_neg (by omega)]
    exact ⟨h, s, fun _ => id, fun _ _ => rfl, g⟩
  · rw [if_pos (by omega)]
    unfold fo_seal
    rw [e, fo_t0]
    obtain ⟨hd, eo⟩ := fo_run_dst h s hb hk
    obtain ⟨q1, q2⟩ := fo_WI_seal hB hd hk h s
    obtain ⟨k1, k2, k3⟩ := fo_seal_keep hB hb hk h s
    exact ⟨q1, q2, k1, k2, k3⟩
theorem fo_leafA_ok {B : Int} {p c : Nat} {σ : fo_S} (hB : 0 ≤ B) (hp : p < 24) (h : fo_WI B σ.1) (s : fo_SI σ.1) (hc : c < 16) (h1 : σ.1 (192 + c) = 1) (h2 : σ.1 (208 + c) = ((p / 4 : Nat) : Int)) : fo_Lf B p σ.1 (fo_leafA p c σ) := by
  have hx : fo_Hx ((p / 4 : Nat) : Int) σ.1 := ⟨c, hc, h1, h2⟩
  unfold fo_leafA
  by_cases h2w : σ.1 (4 * c + p % 4) ≤ 0
  · rw [if_pos h2w]
    exact ⟨4 * c + p % 4, by dsimp only; omega, h, s.s9, fo_Rdy_home h s hc h1 h2 h2w, fun _ _ => rfl, fun e => absurd e (show (2 : Int) ≠ 4 by decide)⟩
  · rw [if_neg h2w]
    by_cases h3w : p % 4 = 0
    · rw [if_pos h3w]
      obtain ⟨w1, w2, w3, w4, w5⟩ := fo_seal3_ok hB h s
      generalize (if 0 ≤ fo_run σ.1 then (fo_seal σ).2 else σ) = τ at w1 w2 w3 w4 w5 ⊢
      obtain ⟨r1, r2, r3⟩ := fo_Rdy_take2 hp h3w w1 w2 w5 (w3 _ hx)
      have hfr := w2.free w1
      refine ⟨4 * (fo_free τ.1).toNat, by dsimp only; omega, r1, r2, r3, fun j hj => ?_, fun e => absurd e (show (3 : Int) ≠ 4 by decide)⟩
      show fo_take 2 _ τ.1 j = σ.1 j
      rw [fo_take_o hfr (by omega), w4 j hj]
    · rw [if_neg h3w]
      by_cases h4w : 0 ≤ fo_run σ.1 ∧ σ.1 (208 + (fo_run σ.1).toNat) = ((p / 4 : Nat) : Int) ∧ fo_fill σ.1 (fo_run σ.1).toNat = p % 4
      · rw [if_pos h4w]
        obtain ⟨a1, a2, a3⟩ := h4w
        rcases fo_run_spec σ.1 with ⟨e, g⟩ | ⟨b, e, hb, hk⟩
        · omega
        · rw [e, fo_t0] at a2 a3
          rw [e]
          have hR := fo_Rdy_fill (p := p) h s hb (by omega) (fun _ => ⟨a2, a3⟩) (by omega) hx
          rw [a3] at hR
          refine ⟨4 * b + p % 4, by dsimp only; omega, h, s.s9, hR, fun _ _ => rfl, fun _ => ?_⟩
          have e1 : (4 * b + p % 4) / 4 = b := by omega
          rw [e1]
          exact ⟨hk, by omega⟩
      · rw [if_neg h4w]
        exact fo_log_ok hB h s hx
theorem fo_leaf_ok {B : Int} {p : Nat} {σ : fo_S} (hB : 0 ≤ B) (hp : p < 24) (h : fo_WI B σ.1) (s : fo_SI σ.1) : fo_Lf B p σ.1 (fo_leaf p σ) := by
  unfold fo_leaf
  rcases fo_blk_spec σ.1 1 ((p / 4 : Nat) : Int) with ⟨e, g⟩ | ⟨c, e, hc, h1, h2⟩
  · rw [if_neg (by omega)]
    have hfr := s.free h
    obtain ⟨r1, r2, r3⟩ := fo_Rdy_take1 hp h s g
    have h0 := r3.2.1
    unfold fo_leafA
    rw [if_pos (by show fo_take 1 _ σ.1 _ ≤ 0; omega)]
    refine ⟨4 * (fo_free σ.1).toNat + p % 4, by dsimp only; omega, r1, r2, r3, fun j hj => ?_, fun e => absurd e (show (2 : Int) ≠ 4 by decide)⟩
    show fo_take 1 _ σ.1 j = σ.1 j
    exact fo_take_o hfr (by omega)
  · rw [if_pos (by omega), e, fo_t0]
    exact fo_leafA_ok hB hp h s hc h1 h2
