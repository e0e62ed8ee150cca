/-! ===== the first row ===== -/
theorem fo_many_0 {r : fo_R} {k : Int} (h : ∀ c, c < 16 → r (192 + c) ≠ k) : fo_many r k = 0 := by
  have g := fo_cs_sg (c := fun b => decide (r (192 + b) = k)) 16 0 0
  have g0 : fo_sg (fo_id (fun b => decide (r (192 + b) = k))) 0 = 0 := rfl
  rw [g0, Int.add_zero, Int.zero_add] at g
  unfold fo_many
  rw [g, Nat.zero_add, fo_sg_congr (g := fun _ => 0) 16 (fun c hc => by
    unfold fo_id
    rw [if_neg]
    rw [decide_eq_true_eq]
    exact h c hc), fo_sg_0]
theorem fo_first {r : fo_R} (hz : ∀ j, j < 271 → r j = 0) (h1 : 1 ≤ r 271 ∧ r 271 ≤ 3) (h2 : 0 ≤ r 272 ∧ r 272 ≤ 2) (h3 : 1 ≤ r 273 ∧ r 273 ≤ 9) : fo_I r := by
  have kz : ∀ c, c < 16 → r (192 + c) = 0 := fun c hc => hz _ (by omega)
  have m3 : fo_many r 3 = 0 := fo_many_0 (fun c hc => by rw [kz c hc]; decide)
  have m4 : fo_many r 4 = 0 := fo_many_0 (fun c hc => by rw [kz c hc]; decide)
  refine ⟨by rw [hz 270 (by omega)]; exact Int.le_refl 0, ?_, ?_⟩
  · rw [hz 270 (by omega)]
    refine ⟨fun j hj => ?_, fun j hj => ?_, fun c hc => ?_, fun c hc => ?_, fun c hc => ?_, fun j hj => ?_, fun j hj => ?_, fun j m hj hm => ?_, fun q a c => ?_, fun q hq => ?_⟩
    · rw [hz j (by omega)]; omega
    · rw [hz _ (by omega)]; omega
    · rw [hz _ (by omega)]; omega
    · rw [hz _ (by omega)]; omega
    · rw [hz _ (by omega)]; omega
    · intro _; exact hz j (by omega)
    · intro h; exact absurd (hz j (by omega)) h
    · intro h; exact absurd (hz j (by omega)) h
    · rw [hz q (by omega)]; omega
    · rw [hz _ (by omega)]; omega
  · refine ⟨fun b c hb hc e => ?_, fun b c hb hc e => ?_, fun b c hb hc e => ?_, fun b hb e => ?_, fun b hb e => ?_, ?_, fun b hb e1 q hq => ?_, fun b hb e => ?_, fun l hl e => ?_, fun b hb e => ?_, fun q p hk3 ho hm => ?_⟩
    · rw [kz b hb] at e; exact absurd e (by decide)
    · rw [kz b hb] at e; exact absurd e (by decide)
    · rw [kz b hb] at e; exact absurd e (by decide)
    · rw [kz b hb] at e; exact absurd e (by decide)
    · rw [kz b hb] at e; exact absurd e (by decide)
    · unfold fo_Lm
      rw [m3, m4]
      omega
    · rw [kz b hb] at e1; exact absurd e1 (by decide)
    · rw [kz b hb] at e; exact absurd e (by decide)
    · exact absurd (hz l (by omega)) e
    · rw [kz b hb] at e; exact absurd e (by decide)
    · rw [fo_many_0 (fun c hc => by rw [kz c hc]; omega)] at hm
      omega
