/-! ===== to level ===== -/
theorem fo_lvl_spec (r : fo_R) (k : Int) : (fo_lvl r k = -1 ∧ ∀ c, c < 16 → r (192 + c) ≠ k) ∨ ∃ b : Nat, fo_lvl r k = (b : Int) ∧ b < 16 ∧ r (192 + b) = k := by
  rcases fo_best_spec (ok := fun b => decide (r (192 + b) = k)) (lt := fun a b => decide (if k = 1 then r (224 + a) < r (224 + b) else r (224 + b) < r (224 + a))) (fun a b h => by by_cases hk : k = 1 <;> simp only [hk, if_true, if_false, decide_eq_true_eq, decide_eq_false_iff_not] at h ⊢ <;> omega) (fun a b c h1 h2 => by by_cases hk : k = 1 <;> simp only [hk, if_true, if_false, decide_eq_false_iff_not] at h1 h2 ⊢ <;> omega) 16 with ⟨h1, h2⟩ | ⟨j, h1, h3, h4, _, _⟩
  · exact Or.inl ⟨h1, fun c hc => of_decide_eq_false (h2 c hc)⟩
  · exact Or.inr ⟨j, h1, h3, of_decide_eq_true h4⟩
theorem fo_lvlC_hi {h b j : Nat} (hb : b < 16) (hj : 192 ≤ j) (h5 : j ≠ 265) : ∀ (n k : Nat) (σ : fo_S), k + n ≤ 4 → (fo_lvlC h b n k σ).1 j = σ.1 j := by
  intro n
  induction n with
  | zero => intro k σ _; rfl
  | succ n ih =>
    intro k σ hk
    show (fo_lvlC h b n (k + 1) (if 0 < σ.1 (4 * h + k) then fo_copy (4 * h + k) (4 * b + k) σ else σ)).1 j = σ.1 j
    rw [ih (k + 1) _ (by omega)]
    split
    · exact fo_copy_hi (by omega) hj h5
    · rfl
theorem fo_lvlC_ct {h b : Nat} : ∀ (n k : Nat) (σ : fo_S), k + n ≤ 4 → b < 16 → (0 ≤ σ.1 265 ∧ σ.1 265 ≤ 99999) → 0 ≤ (fo_lvlC h b n k σ).1 265 ∧ (fo_lvlC h b n k σ).1 265 ≤ 99999 := by
  intro n
  induction n with
  | zero => intro k σ _ _ hh; exact hh
  | succ n ih =>
    intro k σ hk hb hh
    refine ih (k + 1) _ (by omega) hb ?_
    split
    · simp only [fo_copy, fo_cnt]
      rw [fo_u_s, fo_put_hi (by omega) (by omega)]
      split <;> omega
    · exact hh
theorem fo_lvlC_pt {h b : Nat} : ∀ (n k : Nat) (σ : fo_S), k + n ≤ 4 → h < 16 → b < 16 → h ≠ b → ∀ j, j < 64 →
    ((fo_lvlC h b n k σ).1 j = if j / 4 = b ∧ k ≤ j % 4 ∧ j % 4 < k + n ∧ 0 < σ.1 (4 * h + j % 4) then σ.1 (4 * h + j % 4) else σ.1 j) ∧
    ((fo_lvlC h b n k σ).1 (64 + j) = if j / 4 = b ∧ k ≤ j % 4 ∧ j % 4 < k + n ∧ 0 < σ.1 (4 * h + j % 4) then σ.1 (64 + (4 * h + j % 4)) else σ.1 (64 + j)) ∧
    ((fo_lvlC h b n k σ).1 (128 + j) = if j / 4 = b ∧ k ≤ j % 4 ∧ j % 4 < k + n ∧ 0 < σ.1 (4 * h + j % 4) then σ.1 (128 + (4 * h + j % 4)) else σ.1 (128 + j)) := by
  intro n
  induction n with
  | zero =>
    intro k σ _ _ _ _ j _
    have hA : ¬ (j / 4 = b ∧ k ≤ j % 4 ∧ j % 4 < k + 0 ∧ 0 < σ.1 (4 * h + j % 4)) := fun h => by omega
    rw [if_neg hA, if_neg hA, if_neg hA]
    exact ⟨rfl, rfl, rfl⟩
  | succ n ih =>
    intro k σ hk hh hb hne j hj
    generalize hτ : (if 0 < σ.1 (4 * h + k) then fo_copy (4 * h + k) (4 * b + k) σ else σ) = τ
    have t1 : ∀ i, i < 64 → i ≠ 4 * b + k → τ.1 i = σ.1 i ∧ τ.1 (64 + i) = σ.1 (64 + i) ∧ τ.1 (128 + i) = σ.1 (128 + i) := by
      intro i hi hn
      rw [← hτ]
      split
      · rw [fo_copy_pg (by omega) hi, fo_copy_vl (by omega) hi, fo_copy_st (by omega) hi, if_neg hn, if_neg hn, if_neg hn]
        exact ⟨rfl, rfl, rfl⟩
      · exact ⟨rfl, rfl, rfl⟩
    have t3 : (0 < σ.1 (4 * h + k) → τ.1 (4 * b + k) = σ.1 (4 * h + k) ∧ τ.1 (64 + (4 * b + k)) = σ.1 (64 + (4 * h + k)) ∧ τ.1 (128 + (4 * b + k)) = σ.1 (128 + (4 * h + k))) ∧ (¬ 0 < σ.1 (4 * h + k) → τ = σ) := by
      rw [← hτ]
      refine ⟨fun hp => ?_, fun hp => if_neg hp⟩
      rw [if_pos hp, fo_copy_pg (by omega) (by omega), fo_copy_vl (by omega) (by omega), fo_copy_st (by omega) (by omega), if_pos rfl, if_pos rfl, if_pos rfl]
      exact ⟨rfl, rfl, rfl⟩
    obtain ⟨a1, a2, a3⟩ := ih (k + 1) τ (by omega) hh hb hne j hj
    show (fo_lvlC h b n (k + 1) (if 0 < σ.1 (4 * h + k) then fo_copy (4 * h + k) (4 * b + k) σ else σ)).1 j = _ ∧ (fo_lvlC h b n (k + 1) (if 0 < σ.1 (4 * h + k) then fo_copy (4 * h + k) (4 * b + k) σ else σ)).1 (64 + j) = _ ∧ (fo_lvlC h b n (k + 1) (if 0 < σ.1 (4 * h + k) then fo_copy (4 * h + k) (4 * b + k) σ else σ)).1 (128 + j) = _
    rw [hτ, a1, a2, a3]
    obtain ⟨s1, s2, s3⟩ := t1 (4 * h + j % 4) (by omega) (by omega)
    rw [s1, s2, s3]
    by_cases hjb : j = 4 * b + k
    · have hA : ¬ (j / 4 = b ∧ k + 1 ≤ j % 4 ∧ j % 4 < k + 1 + n ∧ 0 < σ.1 (4 * h + j % 4)) := fun h => by omega
      rw [if_neg hA, if_neg hA, if_neg hA]
      have h5 : j % 4 = k := by omega
      by_cases hp : 0 < σ.1 (4 * h + k)
      · have hB : (j / 4 = b ∧ k ≤ j % 4 ∧ j % 4 < k + (n + 1) ∧ 0 < σ.1 (4 * h + j % 4)) := ⟨by omega, by omega, by omega, by rw [h5]; exact hp⟩
        rw [if_pos hB, if_pos hB, if_pos hB, h5, hjb]
        exact t3.1 hp
      · have hB : ¬ (j / 4 = b ∧ k ≤ j % 4 ∧ j % 4 < k + (n + 1) ∧ 0 < σ.1 (4 * h + j % 4)) := fun h => hp (by have := h.2.2.2; rw [h5] at this; exact this)
        rw [if_neg hB, if_neg hB, if_neg hB, t3.2 hp]
        exact ⟨rfl, rfl, rfl⟩
    · obtain ⟨b1, b2, b3⟩ := t1 j hj hjb
      rw [b1, b2, b3]
      by_cases hA : (j / 4 = b ∧ k + 1 ≤ j % 4 ∧ j % 4 < k + 1 + n ∧ 0 < σ.1 (4 * h + j % 4))
      · have hB : (j / 4 = b ∧ k ≤ j % 4 ∧ j % 4 < k + (n + 1) ∧ 0 < σ.1 (4 * h + j % 4)) := ⟨hA.1, by omega, by omega, hA.2.2.2⟩
        rw [if_pos hA, if_pos hA, if_pos hA, if_pos hB, if_pos hB, if_pos hB]
        exact ⟨rfl, rfl, rfl⟩
      · have hB : ¬ (j / 4 = b ∧ k ≤ j % 4 ∧ j % 4 < k + (n + 1) ∧ 0 < σ.1 (4 * h + j % 4)) := fun h => hA ⟨h.1, by have := h.1; have := h.2.1; omega, by omega, h.2.2.2⟩
        rw [if_neg hA, if_neg hA, if_neg hA, if_neg hB, if_neg hB, if_neg hB]
        exact ⟨rfl, rfl, rfl⟩
/-- where a leaf came from -/
def fo_from (h b j : Nat) : Nat := if j / 4 = b then 4 * h + j % 4 else j
/-- a home moved into a free block -/
theorem fo_level_pt {B : Int} {h b : Nat} {σ : fo_S} (hh : h < 16) (hb : b < 16) (h1 : σ.1 (192 + h) = 1) (h0 : σ.1 (192 + b) = 0) (hW : fo_WI B σ.1) :
    (∀ j, j < 64 → (fo_levelS h b σ).1 j = if j / 4 = h then 0 else σ.1 (fo_from h b j)) ∧
    (∀ j, j < 64 → (fo_levelS h b σ).1 j ≠ 0 → (fo_levelS h b σ).1 (64 + j) = σ.1 (64 + fo_from h b j) ∧ (fo_levelS h b σ).1 (128 + j) = σ.1 (128 + fo_from h b j)) ∧
    (∀ j, j < 64 → (fo_levelS h b σ).1 (128 + j) = 0 ∨ ∃ i, i < 64 ∧ (fo_levelS h b σ).1 (128 + j) = σ.1 (128 + i)) ∧
    (∀ c, c < 16 → (fo_levelS h b σ).1 (192 + c) = if c = h then 0 else if c = b then 1 else σ.1 (192 + c)) ∧
    (∀ c, c < 16 → (fo_levelS h b σ).1 (208 + c) = if c = h then 0 else if c = b then σ.1 (208 + h) else σ.1 (208 + c)) ∧
    (∀ c, c < 16 → (fo_levelS h b σ).1 (224 + c) = if c = h then (if σ.1 (224 + c) < 999 then σ.1 (224 + c) + 1 else 999) else σ.1 (224 + c)) ∧
    (∀ j, 240 ≤ j → j ≠ 265 → j ≠ 266 → (fo_levelS h b σ).1 j = σ.1 j) ∧
    (∀ k, k = 265 ∨ k = 266 → 0 ≤ (fo_levelS h b σ).1 k ∧ (fo_levelS h b σ).1 k ≤ 99999) := by
  have hne : h ≠ b := fun e => by rw [e] at h1; omega
  have hpt := fo_lvlC_pt (h := h) (b := b) 4 0 σ (by omega) hh hb hne
  have hhi : ∀ j, 192 ≤ j → j ≠ 265 → (fo_lvlC h b 4 0 σ).1 j = σ.1 j := fun j hj h5 => fo_lvlC_hi hb hj h5 4 0 σ (by omega)
  have hemp : ∀ j, j < 64 → j / 4 = b → σ.1 j = 0 := fun j hj e => hW.em j hj (by rw [e]; exact h0)
  generalize hμ : fo_u (fo_u (fo_lvlC h b 4 0 σ).1 (192 + b) 1) (208 + b) (σ.1 (208 + h)) = μ
  have e : (fo_levelS h b σ).1 = fo_cnt 266 (fo_wp h μ) := by
    simp only [fo_levelS, fo_wipe]
    rw [hμ]
  have m1 : ∀ j, j < 192 ∨ 224 ≤ j → μ j = (fo_lvlC h b 4 0 σ).1 j := fun j hj => by rw [← hμ, fo_u_o (by omega), fo_u_o (by omega)]
  have m2 : ∀ c, c < 16 → μ (192 + c) = if c = b then 1 else σ.1 (192 + c) := fun c hc => by
    rw [← hμ, fo_u_o (by omega), fo_u_eq]
    by_cases ec : c = b
    · rw [if_pos (by omega), if_pos ec]
    · rw [if_neg (by omega), if_neg ec, hhi _ (by omega) (by omega)]
  have m3 : ∀ c, c < 16 → μ (208 + c) = if c = b then σ.1 (208 + h) else σ.1 (208 + c) := fun c hc => by
    rw [← hμ, fo_u_eq]
    by_cases ec : c = b
    · rw [if_pos (by omega), if_pos ec]
    · rw [if_neg (by omega), if_neg ec, fo_u_o (by omega), hhi _ (by omega) (by omega)]
  have mk : μ (192 + h) = 1 := by rw [m2 h hh, if_neg hne, h1]
  have lp : ∀ j, j < 64 → (fo_levelS h b σ).1 j = if j / 4 = h then 0 else σ.1 (fo_from h b j) := by
    intro j hj
    rw [e, fo_cnt_o (by omega), fo_wp_pg hj, m1 j (by omega), (hpt j hj).1]
    by_cases e1 : j / 4 = h
    · rw [if_pos e1, if_pos e1]
    · rw [if_neg e1, if_neg e1]
      unfold fo_from
      by_cases e2 : j / 4 = b
      · rw [if_pos e2]
        by_cases e3 : 0 < σ.1 (4 * h + j % 4)
        · rw [if_pos ⟨e2, by omega, by omega, e3⟩]
        · have := hW.pg (4 * h + j % 4) (by omega)
          rw [if_neg (fun h => e3 h.2.2.2), hemp j hj e2]
          omega
      · rw [if_neg e2, if_neg (fun h => e2 h.1)]
  refine ⟨lp, fun j hj hn => ?_, fun j hj => ?_, fun c hc => ?_, fun c hc => ?_, fun c hc => ?_, fun j hj h5 h6 => ?_, fun k hk => ?_⟩
  · have hl := lp j hj
    by_cases e1 : j / 4 = h
    · rw [if_pos e1] at hl; exact absurd hl hn
    · rw [if_neg e1] at hl
      have hvs : fo_cnt 266 (fo_wp h μ) (64 + j) = (fo_lvlC h b 4 0 σ).1 (64 + j) ∧ fo_cnt 266 (fo_wp h μ) (128 + j) = (fo_lvlC h b 4 0 σ).1 (128 + j) := by
        rw [fo_cnt_o (by omega), fo_cnt_o (by omega), fo_wp_vl hj, fo_wp_st hj, if_neg e1, if_neg e1, m1 _ (by omega), m1 _ (by omega)]
        exact ⟨rfl, rfl⟩
      rw [e, hvs.1, hvs.2, (hpt j hj).2.1, (hpt j hj).2.2]
      unfold fo_from at hl ⊢
      by_cases e2 : j / 4 = b
      · rw [if_pos e2] at hl ⊢
        have := hW.pg (4 * h + j % 4) (by omega)
        have hB : (j / 4 = b ∧ 0 ≤ j % 4 ∧ j % 4 < 0 + 4 ∧ 0 < σ.1 (4 * h + j % 4)) := ⟨e2, by omega, by omega, by omega⟩
        rw [if_pos hB, if_pos hB]
        exact ⟨rfl, rfl⟩
      · have hB : ¬ (j / 4 = b ∧ 0 ≤ j % 4 ∧ j % 4 < 0 + 4 ∧ 0 < σ.1 (4 * h + j % 4)) := fun h => e2 h.1
        rw [if_neg e2, if_neg hB, if_neg hB]
        exact ⟨rfl, rfl⟩
  · rw [e, fo_cnt_o (by omega), fo_wp_st hj, m1 _ (by omega), (hpt j hj).2.2]
    split
    · exact Or.inl rfl
    · split
      · exact Or.inr ⟨4 * h + j % 4, by omega, rfl⟩
      · exact Or.inr ⟨j, hj, rfl⟩
  · rw [e, fo_cnt_o (by omega), fo_wp_kd hc, m2 c hc]
  · rw [e, fo_cnt_o (by omega), fo_wp_ow hc, m3 c hc]
    by_cases e1 : c = h
    · rw [if_pos e1, if_pos e1]
    · rw [if_neg e1, if_neg e1, if_neg (fun h => by omega)]
  · rw [e, fo_cnt_o (by omega), fo_wp_wi hc, m1 _ (by omega), hhi _ (by omega) (by omega)]
  · rw [e, fo_cnt_o h6, fo_wp_hi hh hj, m1 _ (by omega), hhi _ (by omega) h5]
  · have c5 := fo_lvlC_ct (h := h) (b := b) 4 0 σ (by omega) hb (hW.ct 265 (by omega) (by omega))
    have c6 := hW.ct 266 (by omega) (by omega)
    rw [e]
    rcases hk with rfl | rfl
    · rw [fo_cnt_o (by omega), fo_wp_hi hh (by omega), m1 _ (by omega)]
      exact c5
    · unfold fo_cnt
      rw [fo_u_s, fo_wp_hi hh (by omega), m1 _ (by omega), hhi _ (by omega) (by omega)]
      split <;> omega
theorem fo_level_ok {B : Int} {h b : Nat} {σ : fo_S} (hB : 0 ≤ B) (hh : h < 16) (hb : b < 16) (h1 : σ.1 (192 + h) = 1) (h0 : σ.1 (192 + b) = 0) (hW : fo_WI B σ.1) (s : fo_SI σ.1) : fo_WI B (fo_levelS h b σ).1 ∧ fo_SI (fo_levelS h b σ).1 := by
  obtain ⟨pP, pV, pS, pK, pO, pW, pH, pC⟩ := fo_level_pt hh hb h1 h0 hW
  have hne : h ≠ b := fun e => by rw [e] at h1; omega
  generalize (fo_levelS h b σ).1 = ρ at pP pV pS pK pO pW pH pC ⊢
  have hemp : ∀ j, j < 64 → j / 4 = b → σ.1 j = 0 := fun j hj e => hW.em j hj (by rw [e]; exact h0)
  have oh := s.or h hh (Or.inl h1)
  have fl : ∀ j, j < 64 → fo_from h b j < 64 := fun j hj => by unfold fo_from; split <;> omega
  have fb : ∀ j, j < 64 → j / 4 = b → fo_from h b j = 4 * h + j % 4 := fun j hj e => by unfold fo_from; rw [if_pos e]
  have fn : ∀ j, j < 64 → j / 4 ≠ b → fo_from h b j = j := fun j hj e => by unfold fo_from; rw [if_neg e]
  have pn : ∀ j, j < 64 → j / 4 ≠ h → j / 4 ≠ b → ρ j = σ.1 j := fun j hj e1 e2 => by rw [pP j hj, if_neg e1, fn j hj e2]
  have kn : ∀ c, c < 16 → c ≠ h → c ≠ b → ρ (192 + c) = σ.1 (192 + c) := fun c hc e1 e2 => by rw [pK c hc, if_neg e1, if_neg e2]
  have on : ∀ c, c < 16 → c ≠ h → c ≠ b → ρ (208 + c) = σ.1 (208 + c) := fun c hc e1 e2 => by rw [pO c hc, if_neg e1, if_neg e2]
  have kh : ρ (192 + h) = 0 := by rw [pK h hh, if_pos rfl]
  have kb : ρ (192 + b) = 1 := by rw [pK b hb, if_neg (Ne.symm hne), if_pos rfl]
  have ob : ρ (208 + b) = σ.1 (208 + h) := by rw [pO b hb, if_neg (Ne.symm hne), if_pos rfl]
  have k2 : ∀ c, c < 16 → 2 ≤ ρ (192 + c) → c ≠ h ∧ c ≠ b := fun c hc e => ⟨fun e' => by rw [e', kh] at e; omega, fun e' => by rw [e', kb] at e; omega⟩
  have k1 : ∀ c, c < 16 → ρ (192 + c) = 1 → c = b ∨ (c ≠ h ∧ c ≠ b ∧ σ.1 (192 + c) = 1) := fun c hc e => by
    by_cases e2 : c = b
    · exact Or.inl e2
    · have e1 : c ≠ h := fun e' => by rw [e', kh] at e; omega
      exact Or.inr ⟨e1, e2, by rw [← kn c hc e1 e2]; exact e⟩
  have m2 : ∀ k, 2 ≤ k → fo_many ρ k = fo_many σ.1 k := fun k hk => fo_many_congr (fun c hc => by
    by_cases e1 : c = h
    · rw [e1, kh, h1]; omega
    · by_cases e2 : c = b
      · rw [e2, kb, h0]; omega
      · rw [kn c hc e1 e2])
  refine ⟨⟨fun j hj => ?_, fun j hj => ?_, fun c hc => ?_, fun c hc => ?_, fun c hc => ?_, fun j hj => ?_, fun j hj => ?_, fun j m hj hm => ?_, fun k a c => ?_, fun p hp => ?_⟩, ⟨fun c d hc hd e1 e2 e3 => ?_, fun c d hc hd e1 e2 => ?_, fun c d hc hd e1 e2 e3 => ?_, fun c hc e1 => ?_, fun c hc e1 => ?_, ?_, fun c hc e1 k hk3 e2 => ?_, fun c hc e1 => ?_, fun l hl e1 => ?_, fun c hc e1 => ?_, fun k o hk3 ho hm => ?_⟩⟩
  · rw [pP j hj]
    split
    · omega
    · exact hW.pg _ (fl j hj)
  · rcases pS j hj with e | ⟨i, hi, e⟩
    · rw [e]; omega
    · rw [e]; exact hW.sb i hi
  · rw [pK c hc]
    split
    · omega
    · split
      · omega
      · exact hW.kd c hc
  · rw [pO c hc]
    split
    · omega
    · split
      · exact hW.ow h hh
      · exact hW.ow c hc
  · rw [pW c hc]
    have := hW.wi c hc
    split
    · split <;> omega
    · exact this
  · rw [pK _ (by omega), pP j hj]
    by_cases e1 : j / 4 = h
    · rw [if_pos e1, if_pos e1]; intro _; rfl
    · rw [if_neg e1, if_neg e1]
      by_cases e2 : j / 4 = b
      · rw [if_pos e2]; intro hq; exact absurd hq (by decide)
      · rw [if_neg e2, fn j hj e2]; exact hW.em j hj
  · rw [pK _ (by omega), pP j hj, pO _ (by omega)]
    by_cases e1 : j / 4 = h
    · rw [if_pos e1]; intro hq; exact absurd rfl hq
    · rw [if_neg e1, if_neg e1, if_neg e1]
      by_cases e2 : j / 4 = b
      · rw [if_pos e2, if_pos e2, fb j hj e2]
        intro hq _
        have := hW.on (4 * h + j % 4) (by omega) hq (Or.inl (by rw [show (4 * h + j % 4) / 4 = h by omega]; exact h1))
        rw [show (4 * h + j % 4) / 4 = h by omega, show (4 * h + j % 4) % 4 = j % 4 by omega] at this
        exact this
      · rw [if_neg e2, if_neg e2, fn j hj e2]; exact hW.on j hj
  · intro q1 q2 q3
    have q4 : ρ m ≠ 0 := by rw [← q2]; exact q1
    obtain ⟨v1, s1⟩ := pV j hj q1
    obtain ⟨v2, s2⟩ := pV m hm q4
    rw [v1, v2]
    have nj : j / 4 ≠ h := fun e => by rw [pP j hj, if_pos e] at q1; exact q1 rfl
    have nm : m / 4 ≠ h := fun e => by rw [pP m hm, if_pos e] at q4; exact q4 rfl
    rw [pP j hj, if_neg nj] at q1 q2
    rw [pP m hm, if_neg nm] at q2
    rw [s1, s2] at q3
    exact hW.sv _ _ (fl j hj) (fl m hm) q1 q2 q3
  · by_cases e5 : k = 265
    · exact pC k (Or.inl e5)
    · by_cases e6 : k = 266
      · exact pC k (Or.inr e6)
      · rw [pH k (by omega) e5 e6]; exact hW.ct k a c
  · rw [pH _ (by omega) (by omega) (by omega)]; exact hW.ht p hp
  · rcases k1 c hc e1 with q | ⟨q1, q2, q3⟩
    · rcases k1 d hd e2 with p | ⟨p1, p2, p3⟩
      · omega
      · rw [q, ob, on d hd p1 p2] at e3
        exact absurd (s.hu h d hh hd h1 p3 e3).symm p1
    · rcases k1 d hd e2 with p | ⟨p1, p2, p3⟩
      · rw [p, ob, on c hc q1 q2] at e3
        exact absurd (s.hu c h hc hh q3 h1 e3) q1
      · rw [on c hc q1 q2, on d hd p1 p2] at e3
        exact s.hu c d hc hd q3 p3 e3
  · obtain ⟨a1, a2⟩ := k2 c hc (by omega)
    obtain ⟨b1, b2⟩ := k2 d hd (by omega)
    rw [kn c hc a1 a2] at e1
    rw [kn d hd b1 b2] at e2
    exact s.ru c d hc hd e1 e2
  · obtain ⟨a1, a2⟩ := k2 c hc (by omega)
    obtain ⟨b1, b2⟩ := k2 d hd (by omega)
    rw [kn c hc a1 a2] at e1 e2
    rw [kn d hd b1 b2] at e2
    rw [on c hc a1 a2, on d hd b1 b2] at e3
    exact s.lu c d hc hd e1 e2 e3
  · by_cases e2 : c = b
    · rw [e2, ob]; exact oh
    · have e3 : c ≠ h := fun e' => by rw [e', kh] at e1; omega
      rw [kn c hc e3 e2] at e1
      rw [on c hc e3 e2]
      exact s.or c hc e1
  · obtain ⟨a1, a2⟩ := k2 c hc (by omega)
    rw [kn c hc a1 a2] at e1 ⊢
    rw [on c hc a1 a2, m2 _ (by omega)]
    exact s.lo c hc e1
  · have := s.lm
    unfold fo_Lm at this ⊢
    rw [m2 3 (by decide), m2 4 (by decide), pH 271 (by decide) (by decide) (by decide), pH 272 (by decide) (by decide) (by decide), pH 273 (by decide) (by decide) (by decide)]
    exact this
  · obtain ⟨a1, a2⟩ := k2 c hc e1
    rw [kn c hc a1 a2] at e1
    rw [pn _ (by omega) (by omega) (by omega)] at e2
    rw [pn _ (by omega) (by omega) (by omega)]
    exact s.cg c hc e1 k hk3 e2
  · obtain ⟨a1, a2⟩ := k2 c hc (by omega)
    rw [kn c hc a1 a2] at e1
    rw [pn _ (by omega) (by omega) (by omega)]
    exact s.r0 c hc e1
  · have nl : l / 4 ≠ h := fun e => by rw [pP l hl, if_pos e] at e1; exact e1 rfl
    rw [pP l hl, if_neg nl] at e1 ⊢
    obtain ⟨c, hc, a1, a2⟩ := s.ha _ (fl l hl) e1
    by_cases e2 : c = h
    · exact ⟨b, hb, kb, by rw [ob, ← a2, e2]⟩
    · have e3 : c ≠ b := fun e => by rw [e] at a1; omega
      exact ⟨c, hc, by rw [kn c hc e2 e3]; exact a1, by rw [on c hc e2 e3]; exact a2⟩
  · -- the home's page
    have key : ∀ d, d < 16 → σ.1 (192 + d) = 1 → ∃ l, l < 64 ∧ ρ l ≠ 0 ∧ (ρ l - 1) / 4 = σ.1 (208 + d) := by
      intro d hd hk
      obtain ⟨l, hl, g1, g2⟩ := s.hb d hd hk
      by_cases e : l / 4 = h
      · refine ⟨4 * b + l % 4, by omega, ?_⟩
        rw [pP _ (by omega), if_neg (by omega), fb _ (by omega) (by omega), show 4 * h + (4 * b + l % 4) % 4 = l by omega]
        exact ⟨g1, g2⟩
      · have e2 : l / 4 ≠ b := fun e2 => g1 (hemp l hl e2)
        refine ⟨l, hl, ?_⟩
        rw [pn l hl e e2]
        exact ⟨g1, g2⟩
    rcases k1 c hc e1 with q | ⟨q1, q2, q3⟩
    · rw [q, ob]; exact key h hh h1
    · rw [on c hc q1 q2]; exact key c hc q3
  · rw [m2 k (by omega)] at hm
    obtain ⟨c, hc, a1, a2⟩ := s.ls k o hk3 ho hm
    have e1 : c ≠ h := fun e => by rw [e] at a1; omega
    have e2 : c ≠ b := fun e => by rw [e] at a1; omega
    exact ⟨c, hc, by rw [kn c hc e1 e2]; exact a1, by rw [on c hc e1 e2]; exact a2⟩
theorem fo_lvlOk_spec {r : fo_R} : fo_lvlOk r = true → ∃ h b : Nat, fo_lvl r 1 = (h : Int) ∧ fo_lvl r 0 = (b : Int) ∧ h < 16 ∧ b < 16 ∧ r (192 + h) = 1 ∧ r (192 + b) = 0 ∧ r (224 + h) < r (224 + b) := by
  intro e
  simp only [fo_lvlOk, decide_eq_true_eq] at e
  rcases fo_lvl_spec r 1 with ⟨q, _⟩ | ⟨h, q, q1, q2⟩
  · omega
  · rcases fo_lvl_spec r 0 with ⟨p, _⟩ | ⟨b, p, p1, p2⟩
    · omega
    · rw [q, p, fo_t0, fo_t0] at e
      exact ⟨h, b, q, p, q1, p1, q2, p2, e.2.2⟩
theorem fo_level_keep {B : Int} {σ : fo_S} (hB : 0 ≤ B) (hW : fo_WI B σ.1) (s : fo_SI σ.1) : fo_WI B (fo_level σ).1 ∧ fo_SI (fo_level σ).1 := by
  unfold fo_level
  split
  · rename_i e
    obtain ⟨h, b, q, p, q1, p1, q2, p2, _⟩ := fo_lvlOk_spec e
    rw [q, p, fo_t0, fo_t0]
    exact fo_level_ok hB q1 p1 q2 p2 hW s
  · exact ⟨hW, s⟩
theorem fo_lvlC_ex {h b : Nat} : ∀ (n k : Nat) (σ : fo_S), ∃ t, (fo_lvlC h b n k σ).2 = σ.2 ++ t := by
  intro n
  induction n with
  | zero => intro k σ; exact ⟨[], by simp [fo_lvlC]⟩
  | succ n ih =>
    intro k σ
    obtain ⟨t, e⟩ := ih (k + 1) (if 0 < σ.1 (4 * h + k) then fo_copy (4 * h + k) (4 * b + k) σ else σ)
    by_cases hp : 0 < σ.1 (4 * h + k)
    · refine ⟨[(((4 * b + k : Nat) : Int), σ.1 (4 * h + k) - 1, σ.1 (64 + (4 * h + k)), σ.1 (128 + (4 * h + k)))] ++ t, ?_⟩
      show (fo_lvlC h b n (k + 1) (if 0 < σ.1 (4 * h + k) then fo_copy (4 * h + k) (4 * b + k) σ else σ)).2 = _
      rw [e, if_pos hp, ← List.append_assoc]
      rfl
    · refine ⟨t, ?_⟩
      show (fo_lvlC h b n (k + 1) (if 0 < σ.1 (4 * h + k) then fo_copy (4 * h + k) (4 * b + k) σ else σ)).2 = _
      rw [e, if_neg hp]
theorem fo_level_ex {σ : fo_S} : ∃ t, (fo_level σ).2 = σ.2 ++ t := by
  unfold fo_level
  split
  · obtain ⟨t, e⟩ := fo_lvlC_ex (h := (fo_lvl σ.1 1).toNat) (b := (fo_lvl σ.1 0).toNat) 4 0 σ
    refine ⟨t ++ [(64 + (((fo_lvl σ.1 1).toNat : Nat) : Int), 0, 0, 0)], ?_⟩
    simp only [fo_levelS, fo_wipe]
    rw [e, List.append_assoc]
  · exact ⟨[], by simp⟩
theorem fo_Tr_lvlC {r0 : fo_R} {h b : Nat} (hb : b < 16) : ∀ (n k : Nat) (σ : fo_S), k + n ≤ 4 → fo_Tr r0 σ → fo_Tr r0 (fo_lvlC h b n k σ) := by
  intro n
  induction n with
  | zero => intro k σ _ ht; exact ht
  | succ n ih =>
    intro k σ hk ht
    refine ih (k + 1) _ (by omega) ?_
    split
    · exact fo_Tr_copy (by omega) ht
    · exact ht
theorem fo_Tr_level {r0 : fo_R} {σ : fo_S} (h : fo_Tr r0 σ) : fo_Tr r0 (fo_level σ) := by
  unfold fo_level
  split
  · rename_i e
    obtain ⟨hh, b, q, p, q1, p1, q2, p2, _⟩ := fo_lvlOk_spec e
    rw [q, p, fo_t0, fo_t0]
    exact fo_Tr_wipe (fo_Tr_o (σ := fo_lvlC hh b 4 0 σ) (fun j hj => by rw [fo_u_o (by omega), fo_u_o (by omega)]) (fo_Tr_lvlC p1 4 0 σ (by omega) h))
  · exact h
/-- the class's copy of a leaf that may be empty -/
theorem rl_copyE {b : Nat} {K : Int} {M : ax_M} {σ : fo_S} {r0 : fo_R} {w : Prop} {x y : Int} {g l : Nat} (hg : g < 64) (hl : l < 64) (hpg : 0 ≤ σ.1 g) (hct : 0 ≤ σ.1 265 ∧ σ.1 265 ≤ 99999) (ha : x = (g : Int) ∧ y = (l : Int)) (hK0 : 100 ≤ K) (hK : K + 1 ≤ 1000000) (h : fo_RL b K M σ r0 w) : fo_RL b (K + 1) (f_X0_copyLeaf b x y M) (if 0 < σ.1 g then fo_copy g l σ else σ) r0 w := by
  obtain ⟨rfl, rfl⟩ := ha
  by_cases hp : 0 < σ.1 g
  · have h1 := rl_copyI (x := (g : Int)) (y := (l : Int)) (g := (g : Int)) hl (Or.inr ⟨g, rfl, hg, by omega⟩) hct (fun _ => ⟨rfl, rfl⟩) hK0 hK h
    unfold fo_copyI at h1
    rw [if_neg (by omega), fo_t0] at h1
    rw [if_pos hp]
    exact h1
  · rw [if_neg hp]
    by_cases hc : fo_cr b M = σ.1
    · have e0 : σ.1 g = M (b + 1) g + 1 := by rw [← hc, fo_cr, fo_dPg hg]
      have e1 : f_X0_copyLeaf b (g : Int) (l : Int) M = M := by
        unfold f_X0_copyLeaf
        rw [if_neg (by omega), if_neg (by omega), fo_t0, if_neg (fun h => h (by omega))]
      rw [e1]
      exact h.up (by omega)
    · exact fo_RL_ne h hc fz_copy.1 hK h.1 ⟨[], by simp⟩
theorem rl_lvlC {b h f : Nat} {r0 : fo_R} {w : Prop} (hh : h < 16) (hf : f < 16) (hne : h ≠ f) : ∀ (n k : Nat) (K : Int) (M : ax_M) (σ : fo_S), k + n ≤ 4 → (∀ i, i < 4 → 0 ≤ σ.1 (4 * h + i)) → (0 ≤ σ.1 265 ∧ σ.1 265 ≤ 99999) → 100 ≤ K → K + n ≤ 1000000 → fo_RL b K M σ r0 w → fo_RL b (K + n) (fo_fold (fz_lc b (h : Int) (f : Int)) n k M) (fo_lvlC h f n k σ) r0 w := by
  intro n
  induction n with
  | zero => intro k K M σ _ _ _ _ _ hr; rw [fo_fold_z]; exact hr.up (by omega)
  | succ n ih =>
    intro k K M σ hk hp hct hK0 hK hr
    rw [fo_fold_s]
    show fo_RL b _ _ (fo_lvlC h f n (k + 1) (if 0 < σ.1 (4 * h + k) then fo_copy (4 * h + k) (4 * f + k) σ else σ)) r0 w
    have hstep : fo_RL b (K + 1) (fz_lc b (h : Int) (f : Int) k M) (if 0 < σ.1 (4 * h + k) then fo_copy (4 * h + k) (4 * f + k) σ else σ) r0 w := by
      unfold fz_lc
      exact rl_copyE (by omega) (by omega) (hp k (by omega)) hct ⟨by omega, by omega⟩ hK0 (by omega) hr
    have := ih (k + 1) (K + 1) _ _ (by omega) (fun i hi => by
        split
        · rw [fo_copy_pg (by omega) (by omega), if_neg (by omega)]; exact hp i hi
        · exact hp i hi) (by
        split
        · simp only [fo_copy, fo_cnt]
          rw [fo_u_s, fo_put_hi (by omega) (by omega)]
          split <;> omega
        · exact hct) (by omega) (by omega) hstep
    rw [show K + ((n + 1 : Nat) : Int) = K + 1 + (n : Int) by omega]
    exact this
theorem rl_level {b : Nat} {K B : Int} {M : ax_M} {σ : fo_S} {r0 : fo_R} {w : Prop} (hB : 0 ≤ B) (hW : fo_WI B σ.1) (hK0 : 100 ≤ K) (hK : K + 5 ≤ 1000000) (h : fo_RL b K M σ r0 w) : fo_RL b (K + 5) (f_X0_level b M).2 (fo_level σ) r0 w ∧ (fo_cr b M = σ.1 → (f_X0_level b M).1 = (if fo_lvlOk σ.1 = true then fo_lvl σ.1 0 else -2) ∧ (f_X0_level b M).2 b 17 = (if fo_lvlOk σ.1 = true then fo_lvl σ.1 1 else M b 17)) := by
  by_cases hcr : fo_cr b M = σ.1
  · unfold f_X0_level
    rw [fc_levelL, hcr]
    unfold fo_level
    by_cases ok : fo_lvlOk σ.1 = true
    · obtain ⟨g, f, q, p, q1, p1, q2, p2, q3⟩ := fo_lvlOk_spec ok
      have hne : g ≠ f := fun e => by rw [e] at q2; omega
      have w1 : M (b + 6) g = σ.1 (224 + g) := by rw [← hcr, fo_cr, fo_dWi q1]
      have w2 : M (b + 6) f = σ.1 (224 + f) := by rw [← hcr, fo_cr, fo_dWi p1]
      rw [if_pos ok, if_pos ok, if_pos ok, q, p, if_neg (by omega), if_neg (by omega), fo_t0, fo_t0, if_pos (by omega), fz_lvlL]
      simp only [ax_bd]
      have hct := hW.ct 265 (by omega) (by omega)
      have a1 := rl_lvlC (b := b) (r0 := r0) (w := w) q1 p1 hne 4 0 K M σ (by omega) (fun i hi => (hW.pg _ (by omega)).1) hct hK0 (by omega) h
      generalize hF : fo_fold (fz_lc b (g : Int) (f : Int)) 4 0 M = F at a1
      have hhi : ∀ j, 192 ≤ j → j ≠ 265 → (fo_lvlC g f 4 0 σ).1 j = σ.1 j := fun j hj h5 => fo_lvlC_hi p1 hj h5 4 0 σ (by omega)
      have a2 : fo_RL b (K + ((4 : Nat) : Int)) (ax_up F (b + 4) f 1) (fo_u (fo_lvlC g f 4 0 σ).1 (192 + f) 1, (fo_lvlC g f 4 0 σ).2) r0 w := by
        refine fo_RL_o a1 fz_KZ.1 (by rw [ax_up_ne (by omega)]) (by rw [ax_up_ne (by omega)]) (fun j hj => fo_u_o (by omega)) (fun hc' => ?_) (by omega)
        rw [fo_cr_K p1, hc']
      have a3 : fo_RL b (K + ((4 : Nat) : Int)) (ax_up (ax_up F (b + 4) f 1) (b + 5) f ((ax_up F (b + 4) f 1) (b + 5) g)) (fo_u (fo_u (fo_lvlC g f 4 0 σ).1 (192 + f) 1) (208 + f) (σ.1 (208 + g)), (fo_lvlC g f 4 0 σ).2) r0 w := by
        refine fo_RL_o (σ := (fo_u (fo_lvlC g f 4 0 σ).1 (192 + f) 1, (fo_lvlC g f 4 0 σ).2)) a2 fz_OZ.1 (by rw [ax_up_ne (by omega)]) (by rw [ax_up_ne (by omega)]) (fun j hj => fo_u_o (by omega)) (fun hc' => ?_) (by omega)
        have eo : (ax_up F (b + 4) f 1) (b + 5) g = σ.1 (208 + g) := by
          have e1 : fo_cr b (ax_up F (b + 4) f 1) (208 + g) = (ax_up F (b + 4) f 1) (b + 5) g := fo_dOw q1
          rw [← e1, hc']
          show fo_u (fo_lvlC g f 4 0 σ).1 (192 + f) 1 (208 + g) = _
          rw [fo_u_o (by omega), hhi _ (by omega) (by omega)]
        rw [fo_cr_O p1, hc', eo]
      have hwi : 0 ≤ σ.1 (224 + g) ∧ σ.1 (224 + g) ≤ 999 := hW.wi g q1
      have hct6 := hW.ct 266 (by omega) (by omega)
      have a4 := rl_wipeN (x := (g : Int)) q1 (fun _ => rfl) (by
        show 0 ≤ fo_u (fo_u (fo_lvlC g f 4 0 σ).1 (192 + f) 1) (208 + f) (σ.1 (208 + g)) (224 + g) ∧ fo_u (fo_u (fo_lvlC g f 4 0 σ).1 (192 + f) 1) (208 + f) (σ.1 (208 + g)) (224 + g) ≤ 999
        rw [fo_u_o (by omega), fo_u_o (by omega), hhi _ (by omega) (by omega)]; exact hwi) (by
        show 0 ≤ fo_u (fo_u (fo_lvlC g f 4 0 σ).1 (192 + f) 1) (208 + f) (σ.1 (208 + g)) 266 ∧ fo_u (fo_u (fo_lvlC g f 4 0 σ).1 (192 + f) 1) (208 + f) (σ.1 (208 + g)) 266 ≤ 99999
        rw [fo_u_o (by omega), fo_u_o (by omega), hhi _ (by omega) (by omega)]; exact hct6) (by omega) (by omega) a3
      rw [fo_wipeN_eq q1 (by
        show fo_u (fo_u (fo_lvlC g f 4 0 σ).1 (192 + f) 1) (208 + f) (σ.1 (208 + g)) (192 + g) < 3
        rw [fo_u_o (by omega), fo_u_o (by omega), hhi _ (by omega) (by omega), q2]; omega)] at a4
      generalize hN : f_X0_wipe b (g : Int) (ax_up (ax_up F (b + 4) f 1) (b + 5) f ((ax_up F (b + 4) f 1) (b + 5) g)) = N at a4
      refine ⟨?_, fun _ => ⟨trivial, by rw [fo_up_at, fo_u_s]⟩⟩
      have a5 := fo_RL_o (N := ax_up N b 17 (g : Int)) (r' := (fo_levelS g f σ).1) a4 fz_17Z.1 (by rw [fo_up_at, fo_u_o (by omega)]) (by rw [fo_up_at, fo_u_o (by omega)]) (fun j hj => rfl) (fun hc' => by rw [fo_cr_o (Or.inl (Nat.le_refl _)), hc']; rfl) (by omega)
      exact a5.up (by omega)
    · rw [if_neg ok, if_neg ok, if_neg ok]
      have ok' := ok
      simp only [fo_lvlOk, decide_eq_true_eq] at ok'
      have hno : (if fo_lvl σ.1 1 = -1 then ((-2 : Int), M) else if fo_lvl σ.1 0 = -1 then ((-2), M) else if M (b + 6) (fo_lvl σ.1 1).toNat < M (b + 6) (fo_lvl σ.1 0).toNat then f_X0_level_L111 b (fo_lvl σ.1 1) (fo_lvl σ.1 0) 4 0 M (fun M16 => ax_bd (ax_up M16 (b + 4) (fo_lvl σ.1 0).toNat 1) (fun M17 => ax_bd (ax_up M17 (b + 5) (fo_lvl σ.1 0).toNat (M17 (b + 5) (fo_lvl σ.1 1).toNat)) (fun M18 => ax_bd (f_X0_wipe b (fo_lvl σ.1 1) M18) (fun M19 => ax_bd (ax_up M19 b 17 (fo_lvl σ.1 1)) (fun M20 => (fo_lvl σ.1 0, M20)))))) else ((-2), M)) = ((-2 : Int), M) := by
        rcases fo_lvl_spec σ.1 1 with ⟨q, _⟩ | ⟨g, q, q1, q2⟩
        · rw [if_pos q]
        · rcases fo_lvl_spec σ.1 0 with ⟨p, _⟩ | ⟨f, p, p1, p2⟩
          · rw [if_neg (by omega), if_pos p]
          · rw [q, p, fo_t0, fo_t0] at ok'
            have w1 : M (b + 6) g = σ.1 (224 + g) := by rw [← hcr, fo_cr, fo_dWi q1]
            have w2 : M (b + 6) f = σ.1 (224 + f) := by rw [← hcr, fo_cr, fo_dWi p1]
            rw [q, p, fo_t0, fo_t0, w1, w2, if_neg (by omega), if_neg (by omega), if_neg (by omega)]
      rw [hno]
      exact ⟨h.up (by omega), fun _ => ⟨rfl, rfl⟩⟩
  · exact ⟨fo_RL_ne h hcr fz_level.1 hK (fo_Tr_level h.1) fo_level_ex, fun h' => absurd h' hcr⟩
