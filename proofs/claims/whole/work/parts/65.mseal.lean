/-! ===== the model seals and clears ===== -/
section FOMS
variable {a n0 : Nat} {M0 M : ax_M} {σ : fo_S}
theorem fo_al_n {r : fo_R} : fo_al (-1) r = r := by
  unfold fo_al
  rw [if_pos (by omega)]
theorem fo_allL_s {r : fo_R} {b n : Nat} : fo_allL r b (n + 1) = (fo_allL r b n && fo_isL r (4 * b + n)) := by
  unfold fo_allL
  rw [List.range_succ, List.all_append]
  simp
theorem fm_sealL {b f : Nat} {B : Int} (kx : Int → Int → Prop × Int × ax_M) (hb : b < 16) (hB : B ≤ 2147483647) (hW : fo_WI B (M a)) (hC : ∀ k, k < 3 → M a (4 * b + k) = 0 → M a (4 * b + k + 1) = 0) : ∀ (n i : Nat) (v : Int), i + n = 4 → i ≤ fo_fill (M a) b → v = (if fo_allL (M a) b i = true then 1 else 0) →
    (f_X3_sealsRun_L19 a (b : Int) (f : Int) M n i v kx).2 = (kx ((fo_fill (M a) b : Nat) : Int) (if fo_allL (M a) b (fo_fill (M a) b) = true then 1 else 0)).2 ∧ ((kx ((fo_fill (M a) b : Nat) : Int) (if fo_allL (M a) b (fo_fill (M a) b) = true then 1 else 0)).1 → (f_X3_sealsRun_L19 a (b : Int) (f : Int) M n i v kx).1) := by
  obtain ⟨f1, f2, f3⟩ := fo_fill_spec hW.pg hb hC
  intro n
  induction n with
  | zero =>
    intro i v hi hf hv
    have e : i = fo_fill (M a) b := by omega
    rw [hv, e]
    exact ⟨rfl, id⟩
  | succ n ih =>
    intro i v hi hf hv
    have e4 : (4 : Int) * (b : Int) + (i : Int) = ((4 * b + i : Nat) : Int) := by omega
    simp only [f_X3_sealsRun_L19, f_X3_sealsRun_B19]
    rw [e4]
    have hw : f_X3_isWritten a ((4 * b + i : Nat) : Int) M = if M a (4 * b + i) ≤ 0 then 0 else 1 := by
      unfold f_X3_isWritten
      rw [fo_t0]
    have hq : (0 : Int) ≤ ((4 * b + i : Nat) : Int) ∧ ((4 * b + i : Nat) : Int) ≤ 63 := by omega
    rw [hw]
    unfold ax_rq
    dsimp only
    by_cases hif : i < fo_fill (M a) b
    · have h2 := f2 i hif
      have hwr : (if M a (4 * b + i) ≤ 0 then (0 : Int) else 1) = 1 := if_neg (by omega)
      rw [hwr, if_neg (show ¬ ((1 : Int) = 0) by decide)]
      by_cases hv0 : v = 0
      · rw [if_pos hv0]
        have hal : fo_allL (M a) b i = false := by
          rw [hv0] at hv
          by_cases h : fo_allL (M a) b i = true
          · rw [if_pos h] at hv; exact absurd hv (by decide)
          · exact Bool.eq_false_iff.mpr h
        obtain ⟨q1, q2⟩ := ih (i + 1) 0 (by omega) hif (by rw [fo_allL_s, hal]; rfl)
        exact ⟨q1, fun h => ⟨hq, q2 h⟩⟩
      · rw [if_neg hv0]
        have hal : fo_allL (M a) b i = true := by
          by_cases h : fo_allL (M a) b i = true
          · exact h
          · rw [if_neg h] at hv; exact absurd hv hv0
        rw [fm_isLatest (show 4 * b + i < 64 by omega) hW.pg (hW.st hB)]
        by_cases hl : fo_isL (M a) (4 * b + i) = true
        · rw [if_pos hl, if_neg (show ¬ ((1 : Int) = 0) by decide)]
          obtain ⟨q1, q2⟩ := ih (i + 1) 1 (by omega) hif (by rw [fo_allL_s, hal, hl]; rfl)
          exact ⟨q1, fun h => ⟨hq, hq, q2 h⟩⟩
        · rw [if_neg hl, if_pos (show (0 : Int) = 0 from rfl)]
          obtain ⟨q1, q2⟩ := ih (i + 1) 0 (by omega) hif (by rw [fo_allL_s, Bool.eq_false_iff.mpr hl, Bool.and_false]; rfl)
          exact ⟨q1, fun h => ⟨hq, hq, q2 h⟩⟩
    · have e : i = fo_fill (M a) b := by omega
      have h3 := f3 i (by omega) (by omega)
      have hwr : (if M a (4 * b + i) ≤ 0 then (0 : Int) else 1) = 0 := if_pos (by omega)
      rw [hwr, if_pos (show (0 : Int) = 0 from rfl), hv, e]
      exact ⟨rfl, fun h => ⟨by rw [e] at hq; exact hq, h⟩⟩
theorem fm_seal (ha : fo_Na a) {B : Int} {b : Nat} (hB0 : 0 ≤ B) (hB : B ≤ 2147483647) (hb : b < 16) (hk : σ.1 (192 + b) = 2) (hW : fo_WI B σ.1) (s : fo_SI σ.1) (g : fo_MR a n0 M0 M σ) :
    (f_X3_sealsRun a M).1 ∧ (f_X3_sealsRun a M).2.1 = (fo_seal σ).1 ∧ fo_MR a n0 M0 (f_X3_sealsRun a M).2.2 (fo_seal σ).2 := by
  obtain ⟨hd, eo⟩ := fo_run_dst hW s hb hk
  have hfr := s.free hW
  have hC := s.cg b hb (by omega)
  have hrun : fo_run σ.1 = (b : Int) := by
    rcases fo_run_spec σ.1 with ⟨_, h⟩ | ⟨c, e, hc, h⟩
    · exact absurd hk (h b hb)
    · rw [e, s.ru c b hc hb h hk]
  have eM : M a = σ.1 := g.1
  obtain ⟨f1, f2, f3⟩ := fo_fill_spec hW.pg hb hC
  have es : fo_seal σ = fo_sealA b (σ.1 (208 + b)).toNat σ := by
    unfold fo_seal
    rw [hrun, fo_t0]
  rw [es]
  unfold f_X3_sealsRun
  simp only [ax_bd]
  rw [fm_theRun, eM, hrun, fo_t208]
  generalize hf : (σ.1 (208 + b)).toNat = f at hd eo ⊢
  rw [eo]
  obtain ⟨q1, q2⟩ := fm_sealL (a := a) (M := M) (b := b) (B := B) (f := f) (fun z11 z12 => f_X3_sealsRun_J69 a (b : Int) (f : Int) z11 z12 M) hb hB (by rw [eM]; exact hW) (by rw [eM]; exact hC) 4 0 1 rfl (Nat.zero_le _) (by unfold fo_allL; simp)
  rw [eM] at q1 q2
  have hJ : (f_X3_sealsRun_J69 a (b : Int) (f : Int) ((fo_fill σ.1 b : Nat) : Int) (if fo_allL σ.1 b (fo_fill σ.1 b) = true then 1 else 0) M).1 ∧ (f_X3_sealsRun_J69 a (b : Int) (f : Int) ((fo_fill σ.1 b : Nat) : Int) (if fo_allL σ.1 b (fo_fill σ.1 b) = true then 1 else 0) M).2.1 = (fo_sealA b f σ).1 ∧ fo_MR a n0 M0 (f_X3_sealsRun_J69 a (b : Int) (f : Int) ((fo_fill σ.1 b : Nat) : Int) (if fo_allL σ.1 b (fo_fill σ.1 b) = true then 1 else 0) M).2.2 (fo_sealA b f σ).2 := by
    obtain ⟨m1, m2, m3, m4⟩ := fo_seal_mid hB0 hd hk f1 hW
    unfold f_X3_sealsRun_J69 fo_sealA
    by_cases hA : fo_allL σ.1 b (fo_fill σ.1 b) = true
    · rw [if_pos hA, if_pos hA, if_pos (show (1 : Int) ≠ 0 by decide)]
      have e4 : f_X3_copiesLatest a (f : Int) ((fo_fill σ.1 b : Nat) : Int) (b : Int) M = f_X3_copiesLatest_L3 a (f : Int) (b : Int) (4 - fo_fill σ.1 b) ((fo_fill σ.1 b : Nat) : Int) M (fun M6 => (True, M6)) := by
        unfold f_X3_copiesLatest
        rw [show (4 - ((fo_fill σ.1 b : Nat) : Int)).toNat = 4 - fo_fill σ.1 b by omega]
      obtain ⟨c1, c2⟩ := fm_clL (h := -1) ha (by decide) hB (4 - fo_fill σ.1 b) (fo_fill σ.1 b) M σ (by omega) hd hW (by rw [fo_al_n]; exact g)
      rw [fo_al_n] at c2
      unfold ax_rc
      rw [e4]
      generalize f_X3_copiesLatest_L3 a (f : Int) (b : Int) (4 - fo_fill σ.1 b) ((fo_fill σ.1 b : Nat) : Int) M (fun M6 => (True, M6)) = Y at c1 c2 ⊢
      have hkk : ∀ j, 192 ≤ j → j ≠ 265 → (fo_cl f b (4 - fo_fill σ.1 b) (fo_fill σ.1 b) σ).1 j = σ.1 j := fun j hj h5 => fo_cl_hi hb hj h5 _ _ _ (by omega)
      have eb : fo_blk (fo_cl f b (4 - fo_fill σ.1 b) (fo_fill σ.1 b) σ).1 1 (f : Int) = fo_blk σ.1 1 (f : Int) := by
        rcases fo_blk_spec σ.1 1 (f : Int) with ⟨e, h⟩ | ⟨c, e, hc, h1, h2⟩
        · rcases fo_blk_spec (fo_cl f b (4 - fo_fill σ.1 b) (fo_fill σ.1 b) σ).1 1 (f : Int) with ⟨e', _⟩ | ⟨d, e', hd', h1', h2'⟩
          · rw [e, e']
          · rw [hkk _ (by omega) (by omega)] at h1' h2'
            exact absurd ⟨h1', h2'⟩ (h d hd')
        · rw [e]
          refine fo_blk_of hc (by rw [hkk _ (by omega) (by omega)]; exact h1) (by rw [hkk _ (by omega) (by omega)]; exact h2) (fun d hd' h1' h2' => ?_)
          rw [hkk _ (by omega) (by omega)] at h1' h2'
          exact s.hu d c hd' hc h1' h1 (by rw [h2', h2])
      dsimp only [ax_bd]
      rw [fm_blockOf, c2.1]
      dsimp only
      rw [eb, fo_t192]
      have g3 := fo_MR_up ha (192 + b) 1 c2
      have g4 := fm_wipeI ha (fo_blk_lt (r := σ.1) (k := 1) (o := (f : Int))).2 m2 g3
      replace g4 : fo_MR a n0 M0 (if fo_blk σ.1 1 (f : Int) < 0 then ax_up Y.2 a (192 + b) 1 else f_X3_wipes a (fo_blk σ.1 1 (f : Int)) (ax_up Y.2 a (192 + b) 1)) (fo_sealS b f (fo_fill σ.1 b) σ) := g4
      have g7 := fm_counts (k := 267) ha (m4.ct 267 (by omega) (by omega)) g4
      have g8 := fm_counts (k := 268) ha (m4.ct 268 (by omega) (by omega)) g4
      by_cases h4 : fo_fill σ.1 b = 4
      · have h4' : ¬ (((fo_fill σ.1 b : Nat) : Int) ≠ 4) := by omega
        rw [if_pos h4, if_pos h4]
        by_cases h1 : fo_blk σ.1 1 (f : Int) < 0
        · rw [if_pos h1] at g7
          rw [if_pos h1, if_neg h4']
          exact ⟨⟨c1, trivial⟩, rfl, g7⟩
        · rw [if_neg h1] at g7
          rw [if_neg h1, if_neg h4']
          exact ⟨⟨c1, trivial⟩, rfl, g7⟩
      · have h4' : ((fo_fill σ.1 b : Nat) : Int) ≠ 4 := by omega
        rw [if_neg h4, if_neg h4]
        by_cases h1 : fo_blk σ.1 1 (f : Int) < 0
        · rw [if_pos h1] at g8
          rw [if_pos h1, if_pos h4']
          exact ⟨⟨c1, trivial⟩, rfl, g8⟩
        · rw [if_neg h1] at g8
          rw [if_neg h1, if_pos h4']
          exact ⟨⟨c1, trivial⟩, rfl, g8⟩
    · rw [if_neg hA, if_neg hA, if_neg (show ¬ ((0 : Int) ≠ 0) by decide)]
      obtain ⟨r1, r2, r3⟩ := fm_merges ha hd.2.1 hB0 hB hfr hW g
      exact ⟨⟨r1, trivial⟩, rfl, r3⟩
  refine ⟨q2 hJ.1, ?_, ?_⟩
  · rw [q1]; exact hJ.2.1
  · rw [q1]; exact hJ.2.2
end FOMS
