/-! ===== the class's write, from the leaf on ===== -/
section FOY
variable {b a : Nat} {K : Int} {M N : ax_M} {σ : fo_S} {r0 : fo_R} {w : Prop}
theorem fz_take_b {k o : Int} : (f_X0_take b k o M).2 b = M b := by
  unfold f_X0_take
  simp only [ax_bd]
  split
  · rfl
  · dsimp only
    rw [ax_up_ne (by omega), ax_up_ne (by omega)]
/-- what a write has done, in all -/
def fo_Wd (b a : Nat) (K c : Int) (ev : fo_R → Int) (p : Nat) (v : Int) (r r0 : fo_R) (l way : Int) (M : ax_M) (R : Prop × Int × ax_M) : Prop :=
  R.1 ∧ fw_Z b a c M R.2.2 ∧ fo_RL b K R.2.2 (fo_write ev p v r) r0 False ∧ (M b 12 = 1073741824 → R.2.1 = l / 4 ∧ fo_Wf b ev p v r l R.2.2 ∧ R.2.2 b 15 = way)
theorem fo_Wd_up {c d e K' : Int} {ev : fo_R → Int} {p : Nat} {v : Int} {r : fo_R} {l way : Int} {R : Prop × Int × ax_M} (h : fo_Wd b a K c ev p v r r0 l way N R) (hz : fw_Z b a d M N) (hc : 0 ≤ c) (he : d + c ≤ e) (hK : K ≤ K') : fo_Wd b a K' e ev p v r r0 l way M R :=
  ⟨h.1, fw_tr h.2.1 hz hc he, h.2.2.1.up hK, fun h12 => h.2.2.2 (by rw [hz.1.1]; exact h12)⟩
theorem fz_J268 {p : Nat} {v j5 j8 : Int} {ev : fo_R → Int} (hab : b + 11 < a) (hw : fo_Wv a b ev M) : (f_X0_write_J268 b (a : Int) (p : Int) v j5 j8 M).1 ∧ fw_Z b a 12 M (f_X0_write_J268 b (a : Int) (p : Int) v j5 j8 M).2.2 := by
  unfold f_X0_write_J268
  simp only [ax_bd]
  have z1 := fw_of hab (fz_put (b := b) (M := M) (x := j8) (p := (p : Int)) (v := v) (s := M (b + 9) 0))
  generalize f_X0_put b j8 (p : Int) v (M (b + 9) 0) M = M27 at z1 ⊢
  have w1 := fw_Wv hab z1 hw
  have q1 := fz_J301 (j8 := j8) hab w1
  split
  · exact ⟨q1.1, fw_tr q1.2 z1 (by omega) (by omega)⟩
  · split
    · exact ⟨q1.1, fw_tr q1.2 z1 (by omega) (by omega)⟩
    · have z2 := fw_tr (fw_of hab (fz_seal (b := b) (M := M27))) z1 (e := 7) (by omega) (by omega)
      have w2 := fw_Wv hab z2 hw
      have q2 := fz_J301 (j8 := j8) hab w2
      exact ⟨q2.1, fw_tr q2.2 z2 (by omega) (by omega)⟩
theorem rl_J268 {p : Nat} {v : Int} {r : fo_R} {ev : fo_R → Int} {j8 : Int} {t : Int × Int × fo_S} (hab : b + 11 < a) (hp : p < 24) (hI : fo_I r) (hw : fo_Wv a b ev M)
    (hth : ∀ N, fo_cr b N = (fo_wr2 p v r).1 → ∀ i, i < 6 → (f_X0_thingsNow b N) (b + 11) i = fo_things (fo_wr2 p v r).1 i) (ht : fo_leaf p (fo_pre p r, []) = t) (hK0 : 100 ≤ K) (hK : K + 12 ≤ 1000000)
    (hrl : fo_RL b K M t.2.2 r0 False) (h15 : M b 15 = t.1) (hj8 : (M b 12 = 1073741824 ∨ M b 11 ≤ M b 12) → j8 = t.2.1) :
    fo_Wd b a (K + 12) 12 ev p v r r0 t.2.1 t.1 M (f_X0_write_J268 b (a : Int) (p : Int) v ((p % 4 : Nat) : Int) j8 M) := by
  obtain ⟨q1, q2⟩ := fz_J268 (j8 := j8) (p := p) (v := v) (j5 := ((p % 4 : Nat) : Int)) hab hw
  refine ⟨q1, q2, ?_⟩
  obtain ⟨w1, w2, w3, l, el, hl, h4⟩ := fo_wr1_ok (v := v) hp hI
  have el' : t.2.1 = (l : Int) := by rw [← ht]; exact el
  have hB : 0 ≤ r 270 + 1 := by have := hI.1; omega
  have e1 : fo_wr1 p v r = (t.1, t.2.1, fo_put l p v (r 270 + 1) t.2.2) := by
    unfold fo_wr1
    rw [ht, el', fo_t0]
  have e270 : t.2.2.1 270 = r 270 + 1 := by
    obtain ⟨l', _, _, _, _, q4, _⟩ := fo_leaf_ok (p := p) (σ := (fo_pre p r, [])) hI.1 hp (fo_pre_keep hp hI.2.1 hI.2.2).1 (fo_pre_keep hp hI.2.1 hI.2.2).2
    rw [ht] at q4
    rw [q4 270 (by omega)]
    exact fo_pre_270 hp
  have hWr2 := fo_wr2_ok (v := v) hp hI
  unfold f_X0_write_J268
  simp only [ax_bd]
  have g1 : fo_RL b (K + 1) (f_X0_put b j8 (p : Int) v (M (b + 9) 0) M) (fo_wr1 p v r).2.2 r0 False := by
    rw [e1]
    by_cases hlv : M b 12 = 1073741824 ∨ M b 11 ≤ M b 12
    · refine rl_put hl (by omega) (fun hc => ⟨by rw [hj8 hlv, el'], rfl, rfl, ?_⟩) hK0 (by omega) hrl
      have : fo_cr b M 270 = M (b + 9) 0 := fo_dCk
      rw [← this, hc, e270]
    · obtain ⟨ht0, h | ⟨h1, h2, h | h⟩⟩ := hrl
      · exact absurd (Or.inl h.1.1) hlv
      · exact absurd (Or.inr h.2.1) hlv
      · exact fo_RL_dd h1 h2 h fz_put.1 (by omega) (fo_Tr_put hl ht0) ⟨_, rfl⟩
  have z1 := fz_put (b := b) (M := M) (x := j8) (p := (p : Int)) (v := v) (s := M (b + 9) 0)
  have zw := fw_of hab z1
  have e15 : (f_X0_put b j8 (p : Int) v (M (b + 9) 0) M) b 15 = t.1 := by rw [z1.2.2 15 (by omega) (by omega) (by omega), h15]
  have e12 : (f_X0_put b j8 (p : Int) v (M (b + 9) 0) M) b 12 = M b 12 := z1.1.1
  generalize f_X0_put b j8 (p : Int) v (M (b + 9) 0) M = M27 at g1 zw e15 e12 ⊢
  have hfin : ∀ (N : ax_M) (τ : fo_S), fo_wr2 p v r = (fo_cnt 264 τ.1, τ.2) → (0 ≤ τ.1 264 ∧ τ.1 264 ≤ 99999) → fo_RL b (K + 7) N τ r0 False → N b 12 = M b 12 → N b 15 = t.1 → fo_Wv a b ev N →
      fo_RL b (K + 12) (f_X0_write_J301 b (a : Int) j8 N).2.2 (fo_write ev p v r) r0 False ∧ (M b 12 = 1073741824 → (f_X0_write_J301 b (a : Int) j8 N).2.1 = t.2.1 / 4 ∧ fo_Wf b ev p v r t.2.1 (f_X0_write_J301 b (a : Int) j8 N).2.2 ∧ (f_X0_write_J301 b (a : Int) j8 N).2.2 b 15 = t.1) := by
    intro N τ hτ hct g n12 n15 nw
    obtain ⟨a1, a2⟩ := rl_J301 (p := p) (v := v) (r := r) (ev := ev) (j8 := j8) hB hab hWr2.1 nw hth hτ hct (by omega) (by omega) g
    refine ⟨a1.up (by omega), fun h12 => ?_⟩
    obtain ⟨b1, b2, b3⟩ := a2 (Or.inl (by rw [n12]; exact h12))
    have ej : (if 0 < j8 then j8 else 0) = t.2.1 := by
      rw [hj8 (Or.inl h12)]
      split <;> omega
    rw [ej] at b1 b2
    exact ⟨b1, b2, by rw [b3, n15]⟩
  by_cases h43 : t.1 = 4 ∧ p % 4 = 3
  · rw [if_neg (by omega), if_neg (by omega)]
    obtain ⟨hk, _⟩ := h4 (by rw [e1]; exact h43.1)
    rcases fo_run_spec (fo_wr1 p v r).2.2.1 with ⟨er, g⟩ | ⟨c, er, hc, hkc⟩
    · exact absurd hk (g _ (by omega))
    · obtain ⟨s1, s2⟩ := rl_seal hB hc hkc w1 w2 (by omega) (by omega) g1
      have es : fo_seal (fo_wr1 p v r).2.2 = fo_sealA c ((fo_wr1 p v r).2.2.1 (208 + c)).toNat (fo_wr1 p v r).2.2 := by
        unfold fo_seal
        rw [er, fo_t0]
      rw [← es] at s1
      have zs := fz_seal (b := b) (M := M27)
      obtain ⟨hd, eo⟩ := fo_run_dst w1 w2 hc hkc
      obtain ⟨x1, x2⟩ := fo_WI_seal hB hd hkc w1 w2
      rw [← es] at x1
      refine hfin _ (fo_seal (fo_wr1 p v r).2.2).2 ?_ (x1.ct 264 (by omega) (by omega)) (s1.up (by omega)) (by rw [zs.1.1, e12]) (by rw [zs.2.2 15 (by omega) (by omega) (by omega), e15]) (fw_Wv hab (fw_of hab zs) (fw_Wv hab zw hw))
      unfold fo_wr2
      rw [if_pos ⟨by rw [e1]; exact h43.1, h43.2⟩]
  · have hσ : fo_wr2 p v r = (fo_cnt 264 (fo_wr1 p v r).2.2.1, (fo_wr1 p v r).2.2.2) := by
      unfold fo_wr2
      rw [if_neg (fun h => h43 ⟨by rw [e1] at h; exact h.1, h.2⟩)]
    have hf := hfin M27 (fo_wr1 p v r).2.2 hσ (w1.ct 264 (by omega) (by omega)) (g1.up (by omega)) e12 e15 (fw_Wv hab zw hw)
    split
    · exact hf
    · split
      · exact hf
      · exact absurd ⟨by omega, by omega⟩ h43
end FOY
