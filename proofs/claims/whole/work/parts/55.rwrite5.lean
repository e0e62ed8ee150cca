/-! ===== the class's write, whole: which way ===== -/
section FOV
variable {b a : Nat} {K : Int} {M N : ax_M} {σ : fo_S} {r0 : fo_R} {w : Prop}
theorem rl_J193 {p : Nat} {v B : Int} {r : fo_R} {ev : fo_R → Int} (hB : 0 ≤ B) (hab : b + 11 < a) (hp : p < 24) (hI : fo_I r) (hw : fo_Wv a b ev M)
    (hth : ∀ N, fo_cr b N = (fo_wr2 p v r).1 → ∀ i, i < 6 → (f_X0_thingsNow b N) (b + 11) i = fo_things (fo_wr2 p v r).1 i) (hW : fo_WI B σ.1) (s : fo_SI σ.1) (hx : fo_Hx ((p / 4 : Nat) : Int) σ.1)
    (ht : fo_leaf p (fo_pre p r, []) = (5, (fo_log p σ).1, (fo_log p σ).2)) (hK0 : 100 ≤ K) (hK : K + 49 ≤ 1000000)
    (hrl : fo_RL b K M σ r0 False) (hlv : M b 12 = 1073741824 ∨ M b 11 ≤ M b 12) :
    fo_Wd b a (K + 49) 49 ev p v r r0 (fo_log p σ).1 5 M (f_X0_write_J193 b (a : Int) (p : Int) v ((p % 4 : Nat) : Int) M) := by
  obtain ⟨hcr, _⟩ := fo_RL_live hrl hlv
  unfold f_X0_write_J193
  simp only [ax_bd]
  have z1 : fw_Z b a 0 M (ax_up M b 15 5) := fw_b hab (by omega)
  have g1 : fo_RL b K (ax_up M b 15 5) σ r0 False := fo_RL_b (by omega) (by omega) hrl
  have hc1 : fo_cr b (ax_up M b 15 5) = σ.1 := by rw [fo_cr_o (Or.inl (Nat.le_refl _)), hcr]
  have e15 : ax_up M b 15 5 b 15 = 5 := by rw [fo_up_at, fo_u_s]
  have hlv1 : ax_up M b 15 5 b 12 = 1073741824 ∨ ax_up M b 15 5 b 11 ≤ ax_up M b 15 5 b 12 := by
    rw [fo_up_at, fo_u_o (by omega), fo_u_o (by omega)]; exact hlv
  generalize ax_up M b 15 5 = M1 at z1 g1 hc1 e15 hlv1 ⊢
  rw [fc_isHot hp, hc1]
  have lm := s.lm
  unfold fo_Lm at lm
  by_cases hh : fo_hot σ.1 p = true
  · have h2 : 1 ≤ σ.1 (268 + Int.toNat 4) := by
      have : σ.1 272 ≠ 0 := by
        have hh' := hh
        unfold fo_hot at hh'
        exact (of_decide_eq_true hh').1
      show 1 ≤ σ.1 272
      have := lm.2.2.2.2.1
      omega
    have el : fo_log p σ = fo_logA 4 σ := by unfold fo_log; rw [if_pos hh]
    rw [if_pos hh, if_neg (by decide), el]
    rw [el] at ht
    exact fo_Wd_up (rl_J211 hB hab hp hI (fw_Wv hab z1 hw) hth (Or.inr rfl) h2 hW s hx ht hK0 hK g1 hlv1 e15) z1 (by omega) (by omega) (Int.le_refl _)
  · have el : fo_log p σ = fo_logA 3 σ := by unfold fo_log; rw [if_neg hh]
    rw [if_neg hh, if_pos rfl, el]
    rw [el] at ht
    exact fo_Wd_up (rl_J211 hB hab hp hI (fw_Wv hab z1 hw) hth (Or.inl rfl) lm.2.2.1 hW s hx ht hK0 hK g1 hlv1 e15) z1 (by omega) (by omega) (Int.le_refl _)
/-- without a run nothing is sealed -/
theorem fc_noseal (h : fo_run (fo_cr b M) = -1) : (f_X0_sealRun b M).2 = M := by
  unfold f_X0_sealRun
  simp only [ax_bd]
  rw [fc_firstRun, h, if_neg (by omega)]
theorem rl_J95 {p c : Nat} {v B : Int} {r : fo_R} {ev : fo_R → Int} (hB : 0 ≤ B) (hab : b + 11 < a) (hp : p < 24) (hI : fo_I r) (hw : fo_Wv a b ev M)
    (hth : ∀ N, fo_cr b N = (fo_wr2 p v r).1 → ∀ i, i < 6 → (f_X0_thingsNow b N) (b + 11) i = fo_things (fo_wr2 p v r).1 i) (hc : c < 16) (hW : fo_WI B σ.1) (hs : σ.1 (4 * c + p % 4) ≤ 0 ∨ (fo_SI σ.1 ∧ fo_Hx ((p / 4 : Nat) : Int) σ.1))
    (ht : fo_leaf p (fo_pre p r, []) = fo_leafA p c σ) (hK0 : 100 ≤ K) (hK : K + 60 ≤ 1000000)
    (hrl : fo_RL b K M σ r0 False) (hlv : M b 12 = 1073741824 ∨ M b 11 ≤ M b 12) :
    fo_Wd b a (K + 60) 60 ev p v r r0 (fo_leafA p c σ).2.1 (fo_leafA p c σ).1 M (f_X0_write_J95 b (a : Int) (p : Int) v ((p / 4 : Nat) : Int) ((p % 4 : Nat) : Int) (c : Int) M) := by
  obtain ⟨hcr, _⟩ := fo_RL_live hrl hlv
  have hl : 4 * c + p % 4 < 64 := by omega
  have e0 : (c : Int) * 4 + ((p % 4 : Nat) : Int) = ((4 * c + p % 4 : Nat) : Int) := by omega
  have hpg := hW.pg _ hl
  have hlvb : ∀ x : Int, ax_up M b 15 x b 12 = 1073741824 ∨ ax_up M b 15 x b 11 ≤ ax_up M b 15 x b 12 := fun x => by
    rw [fo_up_at, fo_u_o (by omega), fo_u_o (by omega)]; exact hlv
  have h15 : ∀ x : Int, ax_up M b 15 x b 15 = x := fun x => by rw [fo_up_at, fo_u_s]
  have z15 : ∀ x : Int, fw_Z b a 0 M (ax_up M b 15 x) := fun x => fw_b hab (by omega)
  have g15 : ∀ x : Int, fo_RL b K (ax_up M b 15 x) σ r0 False := fun x => fo_RL_b (by omega) (by omega) hrl
  have c15 : ∀ x : Int, fo_cr b (ax_up M b 15 x) = σ.1 := fun x => by rw [fo_cr_o (Or.inl (Nat.le_refl _)), hcr]
  unfold f_X0_write_J95
  simp only [ax_bd]
  rw [e0, fc_isEmptyAt hl, hcr, fc_owned, hcr]
  unfold fo_leafA at ht ⊢
  by_cases h2w : σ.1 (4 * c + p % 4) ≤ 0
  · rw [if_pos h2w] at ht ⊢
    have hE : (if σ.1 (4 * c + p % 4) = 0 then (1 : Int) else 0) = 1 := if_pos (by omega)
    rw [hE, if_neg (show ¬ ((1 : Int) = 0) by decide)]
    have q := rl_J268 (v := v) (t := (2, 4 * (c : Int) + ((p % 4 : Nat) : Int), σ)) (j8 := ((4 * c + p % 4 : Nat) : Int)) hab hp hI (fw_Wv hab (z15 2) hw) hth ht hK0 (by omega) (g15 2) (h15 2) (fun _ => by dsimp only; omega)
    exact fo_Wd_up q (z15 2) (by omega) (by omega) (by omega)
  · obtain ⟨s, hx⟩ := hs.resolve_left h2w
    rw [if_neg h2w] at ht ⊢
    have hE : (if σ.1 (4 * c + p % 4) = 0 then (1 : Int) else 0) = 0 := if_neg (by omega)
    rw [hE, if_pos (show (0 : Int) = 0 from rfl)]
    by_cases h3w : p % 4 = 0
    · rw [if_pos h3w] at ht ⊢
      rw [if_neg (show ¬ (((p % 4 : Nat) : Int) ≠ 0) by omega)]
      obtain ⟨w1, w2, w3, w4, w5⟩ := fo_seal3_ok hB hW s
      have g2 : fo_RL b (K + 6) (f_X0_sealRun b (ax_up M b 15 3)).2 (if 0 ≤ fo_run σ.1 then (fo_seal σ).2 else σ) r0 False ∧ fw_Z b a 6 M (f_X0_sealRun b (ax_up M b 15 3)).2 ∧ (f_X0_sealRun b (ax_up M b 15 3)).2 b 15 = 3 := by
        rcases fo_run_spec σ.1 with ⟨er, g⟩ | ⟨n, er, hn, hkn⟩
        · rw [if_neg (by omega), fc_noseal (by rw [c15, er])]
          exact ⟨(g15 3).up (by omega), fw_tr (fw_rf (c := 6) (by omega)) (z15 3) (by omega) (by omega), h15 3⟩
        · rw [if_pos (by omega)]
          obtain ⟨s1, _⟩ := rl_seal hB hn hkn hW s hK0 (by omega) (g15 3)
          have es : fo_seal σ = fo_sealA n (σ.1 (208 + n)).toNat σ := by
            unfold fo_seal
            rw [er, fo_t0]
          rw [← es] at s1
          have zs := fz_seal (b := b) (M := ax_up M b 15 3)
          exact ⟨s1, fw_tr (fw_of hab zs) (z15 3) (by omega) (by omega), by rw [zs.2.2 15 (by omega) (by omega) (by omega), h15]⟩
      generalize (if 0 ≤ fo_run σ.1 then (fo_seal σ).2 else σ) = τ at w1 w2 w3 w4 w5 g2 ht ⊢
      generalize (f_X0_sealRun b (ax_up M b 15 3)).2 = M2 at g2 ⊢
      obtain ⟨g3, z3, k3⟩ := g2
      have hfr := w2.free w1
      have zt := fw_of hab (fz_take (b := b) (M := M2) (k := 2) (o := ((p / 4 : Nat) : Int)))
      have eb : (f_X0_take b 2 ((p / 4 : Nat) : Int) M2).2 b = M2 b := fz_take_b
      have g4 := rl_take (b := b) (M := M2) (k := 2) (k' := 2) (o := ((p / 4 : Nat) : Int)) (o' := ((p / 4 : Nat) : Int)) hfr (fun _ => ⟨rfl, rfl⟩) (by omega) g3
      have z4 := fw_tr zt z3 (by omega) (Int.le_refl _)
      have q := rl_J268 (v := v) (t := (3, 4 * fo_free τ.1, (fo_take 2 ((p / 4 : Nat) : Int) τ.1, τ.2))) (j8 := (f_X0_take b 2 ((p / 4 : Nat) : Int) M2).1 * 4) hab hp hI (fw_Wv hab z4 hw) hth ht (by omega) (by omega) g4 (by rw [eb, k3]) (fun hl' => by
        rw [eb] at hl'
        rw [rl_take1 (fo_RL_live g3 hl').1]
        dsimp only
        omega)
      exact fo_Wd_up q z4 (by omega) (by omega) (by omega)
    · rw [if_neg h3w] at ht ⊢
      rw [if_pos (show ((p % 4 : Nat) : Int) ≠ 0 by omega)]
      have hx5 := rl_J193 (v := v) (K := K) (M := M) (σ := σ) (r0 := r0) hB hab hp hI hw hth hW s hx
      by_cases h4w : 0 ≤ fo_run σ.1 ∧ σ.1 (208 + (fo_run σ.1).toNat) = ((p / 4 : Nat) : Int) ∧ fo_fill σ.1 (fo_run σ.1).toNat = p % 4
      · rw [if_pos h4w] at ht ⊢
        obtain ⟨a1, a2, a3⟩ := h4w
        rcases fo_run_spec σ.1 with ⟨e, g⟩ | ⟨n, e, hn, hk⟩
        · omega
        · rw [e, fo_t0] at a2 a3
          have eo : fo_blk σ.1 2 ((p / 4 : Nat) : Int) = (n : Int) := fo_blk_of hn hk a2 (fun d hd b1 _ => s.ru d n hd hn b1 hk)
          rw [e] at ht ⊢
          rw [eo, if_neg (show ¬ ((n : Int) = -1) by omega), fc_filled' hn (by rw [hcr]; exact hW.pg), hcr, a3, if_neg (show ¬ (((p % 4 : Nat) : Int) ≠ ((p % 4 : Nat) : Int)) from fun h => h rfl)]
          have q := rl_J268 (v := v) (t := (4, 4 * (n : Int) + ((p % 4 : Nat) : Int), σ)) (j8 := (n : Int) * 4 + ((p % 4 : Nat) : Int)) hab hp hI (fw_Wv hab (z15 4) hw) hth ht hK0 (by omega) (g15 4) (h15 4) (fun _ => by dsimp only; omega)
          exact fo_Wd_up q (z15 4) (by omega) (by omega) (by omega)
      · rw [if_neg h4w] at ht ⊢
        have q := hx5 ht hK0 (by omega) hrl hlv
        have q' := fo_Wd_up (e := 60) (K' := K + 60) q (fw_rf (c := 0) (by omega)) (by omega) (by omega) (by omega)
        by_cases hb1 : fo_blk σ.1 2 ((p / 4 : Nat) : Int) = -1
        · rw [if_pos hb1]
          exact q'
        · rw [if_neg hb1]
          rcases fo_blk_spec σ.1 2 ((p / 4 : Nat) : Int) with ⟨e, _⟩ | ⟨n, e, hn, b1, b2⟩
          · exact absurd e hb1
          · have er : fo_run σ.1 = (n : Int) := by
              rcases fo_run_spec σ.1 with ⟨e', g⟩ | ⟨m, e', hm, hk⟩
              · exact absurd b1 (g n hn)
              · rw [e', s.ru m n hm hn hk b1]
            rw [e, fc_filled' hn (by rw [hcr]; exact hW.pg), hcr, if_pos]
            · exact q'
            · intro hf
              refine h4w ⟨by omega, ?_, ?_⟩
              · rw [er, fo_t0]; exact b2
              · rw [er, fo_t0]; omega
end FOV
