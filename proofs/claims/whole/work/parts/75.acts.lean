/-! ===== acts by themselves ===== -/
section FOAC
variable {b : Nat} {M N : ax_M} {r : fo_R} {σ : fo_S} {K : Int} {r0 : fo_R} {w : Prop}
theorem rl_start (hr : fo_cr b M = r) (h12 : M b 12 = 1073741824) (h11 : 0 ≤ M b 11 ∧ M b 11 ≤ 1000000000) : fo_RL b 100 M (r, []) (fo_u r 300 (M b 11)) (M b 13 ≠ 0) := by
  refine ⟨fun j hj => ?_, Or.inl ⟨⟨h12, hr, ?_⟩, ?_⟩⟩
  · show r j = fo_u r 300 (M b 11) j
    rw [fo_u_o (by omega)]
  · constructor
    · exact Or.inl
    · rintro (h | ⟨q, hq, _⟩)
      · exact h
      · cases hq
  · rw [fo_u_s]
    refine ⟨?_, h11.1, by omega, h11.2⟩
    show M b 11 = ax_wr (M b 11 + ((0 : Nat) : Int))
    have := h11.1
    have := h11.2
    rw [ax_wr_id (by omega) (by omega)]
    omega
theorem rl_end (h : fo_RL b K N σ r0 w) (h12 : N b 12 = 1073741824) : fo_cr b N = σ.1 := by
  obtain ⟨_, h | ⟨g1, g2, _⟩⟩ := h
  · exact h.1.2.1
  · omega
/-- a folder merged, if it is there -/
def fo_actM (f : Nat) (r : fo_R) : Int × fo_S := if 0 ≤ fo_blk r 1 f then (fo_free r, fo_merge f (r, [])) else (-2, (r, []))
theorem rl_actM {f : Nat} (hf : f < 6) (hr : fo_cr b M = r) (hI : fo_I r) (h12 : M b 12 = 1073741824) (h11 : 0 ≤ M b 11 ∧ M b 11 ≤ 1000000000) :
    (f_X0_mergeFolder b (f : Int) M).1 = (fo_actM f r).1 ∧ fo_cr b (f_X0_mergeFolder b (f : Int) M).2 = (fo_actM f r).2.1 ∧ fo_Fr b M (f_X0_mergeFolder b (f : Int) M).2 := by
  obtain ⟨h0, hW, hs⟩ := hI
  unfold f_X0_mergeFolder fo_actM
  rw [if_neg (by omega), if_pos (by omega), fc_owned, hr]
  rcases fo_blk_spec r 1 (f : Int) with ⟨e, _⟩ | ⟨c, e, _⟩
  · rw [e, if_neg (fun h => h rfl), if_neg (by omega)]
    exact ⟨rfl, hr, fo_Fr.rf⟩
  · rw [e, if_pos (show (c : Int) ≠ -1 by omega), if_pos (by omega)]
    obtain ⟨q1, q2⟩ := rl_merge (x := (f : Int)) (σ := (r, [])) hf h0 (hs.free hW) hW (fun _ => rfl) (Int.le_refl 100) (by decide) (rl_start hr h12 h11)
    have z := fz_merge (b := b) (M := M) (f := (f : Int))
    exact ⟨q2 hr, rl_end q1 (z.1.1.trans h12), z.2⟩
theorem fo_actM_I {f : Nat} (hf : f < 6) (hI : fo_I r) : fo_I (fo_actM f r).2.1 := by
  obtain ⟨h0, hW, hs⟩ := hI
  unfold fo_actM
  rcases fo_blk_spec r 1 (f : Int) with ⟨e, _⟩ | ⟨c, e, hc, h1, h2⟩
  · rw [if_neg (by omega)]
    exact ⟨h0, hW, hs⟩
  · rw [if_pos (by omega)]
    have e270 : (fo_merge f (r, [])).1 270 = r 270 := fo_hi_merge (σ := (r, [])) hf h0 (hs.free hW) hW (by omega)
    obtain ⟨l, hl, g1, g2⟩ := hs.hb c hc h1
    exact ⟨by dsimp only; rw [e270]; exact h0, by dsimp only; rw [e270]; exact fo_WI_merge (σ := (r, [])) hf h0 (hs.free hW) hW, fo_SI_merge (σ := (r, [])) hf h0 hW hs ⟨l, hl, g1, by rw [g2, h2]⟩⟩
/-- is anything of a folder written? -/
theorem fm_isAny {f : Nat} (hP : fo_Pg (M 7)) : (f_X3_isAny 7 (f : Int) M ≠ 0) ↔ ∃ l, l < 64 ∧ M 7 l ≠ 0 ∧ (M 7 l - 1) / 4 = (f : Int) := by
  have h : ∀ (n i : Nat) (v : Int), i + n = 64 → ((f_X3_isAny_L4 7 (f : Int) M n i v (fun z => z) ≠ 0) ↔ (v ≠ 0 ∨ ∃ l, i ≤ l ∧ l < 64 ∧ M 7 l ≠ 0 ∧ (M 7 l - 1) / 4 = (f : Int))) := by
    intro n
    induction n with
    | zero =>
      intro i v hi
      exact ⟨Or.inl, fun h => h.elim id (fun ⟨l, h1, h2, _⟩ => absurd h2 (by omega))⟩
    | succ n ih =>
      intro i v hi
      have hp := hP i (by omega)
      have hstep : ∀ x : Int, (x ≠ 0 ↔ (M 7 i ≠ 0 ∧ (M 7 i - 1) / 4 = (f : Int))) → ((f_X3_isAny_L4 7 (f : Int) M n (i + 1) x (fun z => z) ≠ 0) ↔ ∃ l, i ≤ l ∧ l < 64 ∧ M 7 l ≠ 0 ∧ (M 7 l - 1) / 4 = (f : Int)) := by
        intro x hx
        rw [ih (i + 1) x (by omega), hx]
        constructor
        · rintro (h | ⟨l, h1, h2, h3⟩)
          · exact ⟨i, Nat.le_refl _, by omega, h⟩
          · exact ⟨l, by omega, h2, h3⟩
        · rintro ⟨l, h1, h2, h3⟩
          by_cases e : l = i
          · subst e; exact Or.inl h3
          · exact Or.inr ⟨l, by omega, h2, h3⟩
      have hw : f_X3_isWritten 7 (i : Int) M = if M 7 i ≤ 0 then 0 else 1 := by
        unfold f_X3_isWritten
        rw [fo_t0]
      simp only [f_X3_isAny_L4, f_X3_isAny_B4]
      by_cases hv : v = 0
      · rw [if_neg (fun h => h hv), hw]
        have hor : (v ≠ 0 ∨ ∃ l, i ≤ l ∧ l < 64 ∧ M 7 l ≠ 0 ∧ (M 7 l - 1) / 4 = (f : Int)) ↔ ∃ l, i ≤ l ∧ l < 64 ∧ M 7 l ≠ 0 ∧ (M 7 l - 1) / 4 = (f : Int) := ⟨fun h => h.elim (fun h => absurd hv h) id, Or.inr⟩
        rw [hor]
        by_cases h0 : M 7 i ≤ 0
        · have hz : (if M 7 i ≤ 0 then (0 : Int) else 1) = 0 := if_pos h0
          rw [hz, if_pos (show (0 : Int) = 0 from rfl)]
          exact hstep 0 ⟨fun h => absurd rfl h, fun h => absurd (show M 7 i = 0 by omega) h.1⟩
        · have hz : (if M 7 i ≤ 0 then (0 : Int) else 1) = 1 := if_neg h0
          rw [hz, if_neg (show ¬ ((1 : Int) = 0) by decide), fm_pageAt (by rw [fo_t0]; exact hp), fo_t0, fm_div (by omega)]
          by_cases hf : (M 7 i - 1) / 4 = (f : Int)
          · rw [if_neg (fun h => h hf)]
            exact hstep 1 ⟨fun _ => ⟨by omega, hf⟩, fun _ => by decide⟩
          · rw [if_pos hf]
            exact hstep 0 ⟨fun h => absurd rfl h, fun h => absurd h.2 hf⟩
      · rw [if_pos hv, ih (i + 1) 1 (by omega)]
        exact ⟨fun _ => Or.inl hv, fun _ => Or.inl (by decide)⟩
  have := h 64 0 0 rfl
  unfold f_X3_isAny
  rw [this]
  constructor
  · rintro (h | ⟨l, _, h2, h3⟩)
    · exact absurd rfl h
    · exact ⟨l, h2, h3⟩
  · rintro ⟨l, h2, h3⟩
    exact Or.inr ⟨l, Nat.zero_le _, h2, h3⟩
end FOAC
