/-! ===== what holds of a row holds after acts by themselves ===== -/
section FOAF
variable {r : fo_R}
theorem fo_actC_I {k : Int} (hk : k = 3 ∨ k = 4) (hI : fo_I r) : fo_I (fo_actC k r).2.1 := by
  obtain ⟨h0, hW, hs⟩ := hI
  unfold fo_actC
  rcases fo_blk_spec r k 0 with ⟨e, _⟩ | ⟨c, e, hc, h1, h2⟩
  · rw [if_neg (by omega)]
    exact ⟨h0, hW, hs⟩
  · rw [if_pos (by omega)]
    obtain ⟨x1, x2, _⟩ := fo_clear_ok (σ := (r, [])) h0 hW hs (by omega) e hc h1 h2
    obtain ⟨_, k2, _⟩ := fo_clear_keep (σ := (r, [])) h0 hW hs (by omega) e hc h1 h2
    have e270 : (fo_clear k (r, [])).1 270 = r 270 := k2 270 (by omega)
    exact ⟨by dsimp only; rw [e270]; exact h0, by dsimp only; rw [e270]; exact x1, x2⟩
theorem fo_actL_I (hI : fo_I r) : fo_I (fo_actL r).2.1 := by
  obtain ⟨h0, hW, hs⟩ := hI
  obtain ⟨x1, x2⟩ := fo_level_keep (σ := (r, [])) h0 hW hs
  have e270 : (fo_level (r, [])).1 270 = r 270 := fo_level_hi (σ := (r, [])) hW (by omega)
  exact ⟨by show 0 ≤ (fo_level (r, [])).1 270; rw [e270]; exact h0, by show fo_WI ((fo_level (r, [])).1 270) (fo_level (r, [])).1; rw [e270]; exact x1, x2⟩
/-- a limit set: which of 271, 272, 273 -/
theorem fo_lim_I {k : Nat} {v : Int} (hk : k < 3) (hI : fo_I r) (h0 : k = 0 → 1 ≤ v ∧ v ≤ 3 ∧ fo_many r 3 ≤ v) (h1 : k = 1 → 0 ≤ v ∧ v ≤ 2 ∧ fo_many r 4 ≤ v) (h2 : k = 2 → 1 ≤ v ∧ v ≤ 9) : fo_I (fo_u r (271 + k) v) := by
  obtain ⟨c0, hW, hs⟩ := hI
  have o : ∀ j, j < 271 → fo_u r (271 + k) v j = r j := fun j hj => fo_u_o (by omega)
  have em : ∀ q, fo_many (fo_u r (271 + k) v) q = fo_many r q := fun q => fo_many_congr (fun c hc => by rw [o _ (by omega)])
  refine ⟨by rw [o 270 (by omega)]; exact c0, ?_, ?_⟩
  · rw [o 270 (by omega)]
    refine ⟨fun j hj => ?_, fun j hj => ?_, fun c hc => ?_, fun c hc => ?_, fun c hc => ?_, fun j hj => ?_, fun j hj => ?_, fun j m hj hm => ?_, fun q a c => ?_, fun q hq => ?_⟩
    · rw [o j (by omega)]; exact hW.pg j hj
    · rw [o _ (by omega)]; exact hW.sb j hj
    · rw [o _ (by omega)]; exact hW.kd c hc
    · rw [o _ (by omega)]; exact hW.ow c hc
    · rw [o _ (by omega)]; exact hW.wi c hc
    · rw [o _ (by omega), o j (by omega)]; exact hW.em j hj
    · rw [o j (by omega), o (192 + j / 4) (by omega), o (208 + j / 4) (by omega)]; exact hW.on j hj
    · rw [o j (by omega), o m (by omega), o _ (by omega), o _ (by omega), o _ (by omega), o _ (by omega)]; exact hW.sv j m hj hm
    · rw [o q (by omega)]; exact hW.ct q a c
    · rw [o _ (by omega)]; exact hW.ht q hq
  · refine ⟨fun b c hb hc => ?_, fun b c hb hc => ?_, fun b c hb hc => ?_, fun b hb => ?_, fun b hb => ?_, ?_, fun b hb e1 q hq => ?_, fun b hb => ?_, fun l hl => ?_, fun b hb => ?_, fun q p hk3 ho hm => ?_⟩
    · rw [o _ (by omega), o _ (by omega), o _ (by omega), o _ (by omega)]; exact hs.hu b c hb hc
    · rw [o _ (by omega), o _ (by omega)]; exact hs.ru b c hb hc
    · rw [o _ (by omega), o _ (by omega), o _ (by omega), o _ (by omega)]; exact hs.lu b c hb hc
    · rw [o _ (by omega), o _ (by omega)]; exact hs.or b hb
    · rw [o _ (by omega), o _ (by omega), em]; exact hs.lo b hb
    · have lm := hs.lm
      unfold fo_Lm at lm ⊢
      rw [em, em]
      rcases (by omega : k = 0 ∨ k = 1 ∨ k = 2) with e | e | e
      · have q := h0 e
        subst e
        rw [fo_u_s, fo_u_o (show (272 : Nat) ≠ 271 + 0 by decide), fo_u_o (show (273 : Nat) ≠ 271 + 0 by decide)]
        exact ⟨q.2.2, lm.2.1, q.1, q.2.1, lm.2.2.2.2⟩
      · have q := h1 e
        subst e
        rw [fo_u_o (show (271 : Nat) ≠ 271 + 1 by decide), show fo_u r (271 + 1) v 272 = v from fo_u_s, fo_u_o (show (273 : Nat) ≠ 271 + 1 by decide)]
        exact ⟨lm.1, q.2.2, lm.2.2.1, lm.2.2.2.1, q.1, q.2.1, lm.2.2.2.2.2.2⟩
      · have q := h2 e
        subst e
        rw [fo_u_o (show (271 : Nat) ≠ 271 + 2 by decide), fo_u_o (show (272 : Nat) ≠ 271 + 2 by decide), show fo_u r (271 + 2) v 273 = v from fo_u_s]
        exact ⟨lm.1, lm.2.1, lm.2.2.1, lm.2.2.2.1, lm.2.2.2.2.1, lm.2.2.2.2.2.1, q.1, q.2⟩
    · rw [o _ (by omega)] at e1
      rw [o _ (by omega), o _ (by omega)]; exact hs.cg b hb e1 q hq
    · rw [o _ (by omega), o _ (by omega)]; exact hs.r0 b hb
    · rw [o l (by omega)]
      intro e
      obtain ⟨c, hc, a1, a2⟩ := hs.ha l hl e
      exact ⟨c, hc, by rw [o _ (by omega)]; exact a1, by rw [o _ (by omega)]; exact a2⟩
    · rw [o _ (by omega)]
      intro e
      obtain ⟨l, hl, a1, a2⟩ := hs.hb b hb e
      exact ⟨l, hl, by rw [o _ (by omega)]; exact a1, by rw [o _ (by omega), o _ (by omega)]; exact a2⟩
    · rw [em] at hm
      obtain ⟨c, hc, a1, a2⟩ := hs.ls q p hk3 ho hm
      exact ⟨c, hc, by rw [o _ (by omega)]; exact a1, by rw [o _ (by omega)]; exact a2⟩
end FOAF
