/-! ===== the run sealed: the strong invariant; the class's sealRun ===== -/
theorem fo_free_lt {r : fo_R} : -1 ≤ fo_free r ∧ fo_free r < 16 := by
  rcases fo_free_spec r with ⟨h1, _⟩ | ⟨j, h1, h2, _⟩ <;> omega
theorem fo_Tr_cl {r0 : fo_R} {f c : Nat} (hc : c < 16) : ∀ (n i : Nat) (τ : fo_S), i + n ≤ 4 → fo_Tr r0 τ → fo_Tr r0 (fo_cl f c n i τ) := by
  intro n
  induction n with
  | zero => intro i τ _ ht; exact ht
  | succ n ih =>
    intro i τ hi ht
    refine ih (i + 1) _ (by omega) ?_
    unfold fo_copyI
    split
    · exact ht
    · exact fo_Tr_copy (by omega) ht
theorem fo_Tr_wipeI {r0 : fo_R} {y : Int} {τ : fo_S} (ht : fo_Tr r0 τ) : fo_Tr r0 (fo_wipeI y τ) := by
  unfold fo_wipeI
  split
  · exact ht
  · exact fo_Tr_wipe ht
theorem fo_Tr_merge {r0 : fo_R} {f : Nat} {σ : fo_S} (h : fo_Tr r0 σ) : fo_Tr r0 (fo_merge f σ) := by
  have hl := fo_free_lt (r := σ.1)
  have a1 : fo_Tr r0 ((fo_take 1 f σ.1, σ.2) : fo_S) := fo_Tr_o (fun j hj => by unfold fo_take; rw [fo_u_o (by omega), fo_u_o (by omega)]) h
  exact fo_Tr_o (σ := fo_mergeS f σ) (fun j hj => fo_cnt_o (by omega)) (fo_Tr_wipeI (fo_Tr_wipeI (fo_Tr_cl (by omega) 4 0 _ (by omega) a1)))
theorem fo_Tr_seal {r0 : fo_R} {b f : Nat} {σ : fo_S} (hb : b < 16) (hn : fo_fill σ.1 b ≤ 4) (h : fo_Tr r0 σ) : fo_Tr r0 (fo_sealA b f σ).2 := by
  unfold fo_sealA
  split
  · refine fo_Tr_o (σ := fo_sealS b f (fo_fill σ.1 b) σ) (fun j hj => fo_cnt_o (by split <;> omega)) (fo_Tr_wipeI (fo_Tr_o (fun j hj => fo_u_o (by omega)) (fo_Tr_cl hb _ _ _ (by omega) h)))
  · exact fo_Tr_merge h
theorem fo_seal_ex {b f : Nat} {σ : fo_S} : ∃ t, (fo_sealA b f σ).2.2 = σ.2 ++ t := by
  unfold fo_sealA
  split
  · obtain ⟨t1, h1⟩ := fo_cl_ex (f := f) (b := b) (4 - fo_fill σ.1 b) (fo_fill σ.1 b) σ
    obtain ⟨t2, h2⟩ := fo_wipeI_ex (x := fo_blk σ.1 1 f) (σ := fo_sealM b f (fo_fill σ.1 b) σ)
    refine ⟨t1 ++ t2, ?_⟩
    show (fo_wipeI _ (fo_sealM b f (fo_fill σ.1 b) σ)).2 = _
    rw [h2]
    simp only [fo_sealM]
    rw [h1]
    simp
  · exact fo_merge_ex
/-- the run's folder has a page that is written -/
theorem fo_run_ex {B : Int} {b : Nat} {r : fo_R} (h : fo_WI B r) (s : fo_SI r) (hb : b < 16) (hk : r (192 + b) = 2) : ∃ l, l < 64 ∧ r l ≠ 0 ∧ (r l - 1) / 4 = r (208 + b) := by
  have h0 := s.r0 b hb hk
  have ho := h.on (4 * b) (by omega) h0 (Or.inr (by rw [show 4 * b / 4 = b by omega]; exact hk))
  rw [show 4 * b / 4 = b by omega, show 4 * b % 4 = 0 by omega] at ho
  exact ⟨4 * b, by omega, h0, by omega⟩
theorem fo_SI_cnt {r : fo_R} {w : Nat} (h0 : 264 ≤ w) (h1 : w < 270) (s : fo_SI r) : fo_SI (fo_cnt w r) := by
  have e : ∀ j, j < 264 ∨ 270 ≤ j → fo_cnt w r j = r j := fun j hj => fo_cnt_o (by omega)
  have em : ∀ k, fo_many (fo_cnt w r) k = fo_many r k := fun k => fo_many_congr (fun c hc => by rw [e _ (by omega)])
  refine ⟨fun b c hb hc => ?_, fun b c hb hc => ?_, fun b c hb hc => ?_, fun b hb => ?_, fun b hb => ?_, ?_, fun b hb e1 k hk => ?_, fun b hb => ?_, fun l hl => ?_, fun b hb => ?_, fun k o hk ho hm => ?_⟩
  · rw [e _ (by omega), e _ (by omega), e _ (by omega), e _ (by omega)]; exact s.hu b c hb hc
  · rw [e _ (by omega), e _ (by omega)]; exact s.ru b c hb hc
  · rw [e _ (by omega), e _ (by omega), e _ (by omega), e _ (by omega)]; exact s.lu b c hb hc
  · rw [e _ (by omega), e _ (by omega)]; exact s.or b hb
  · rw [e _ (by omega), e _ (by omega), em]; exact s.lo b hb
  · have := s.lm
    unfold fo_Lm at this ⊢
    rw [em, em, e _ (by omega), e _ (by omega), e _ (by omega)]
    exact this
  · rw [e _ (by omega)] at e1
    rw [e _ (by omega), e _ (by omega)]; exact s.cg b hb e1 k hk
  · rw [e _ (by omega), e _ (by omega)]; exact s.r0 b hb
  · rw [e _ (by omega)]
    intro h
    obtain ⟨b, hb, a1, a2⟩ := s.ha l hl h
    exact ⟨b, hb, by rw [e _ (by omega)]; exact a1, by rw [e _ (by omega)]; exact a2⟩
  · rw [e _ (by omega)]
    intro h
    obtain ⟨l, hl, a1, a2⟩ := s.hb b hb h
    exact ⟨l, hl, by rw [e _ (by omega)]; exact a1, by rw [e _ (by omega), e _ (by omega)]; exact a2⟩
  · rw [em] at hm
    obtain ⟨b, hb, a1, a2⟩ := s.ls k o hk ho hm
    exact ⟨b, hb, by rw [e _ (by omega)]; exact a1, by rw [e _ (by omega)]; exact a2⟩
theorem fo_SI_sealS {B : Int} {b f : Nat} {σ : fo_S} (hB : 0 ≤ B) (hd : fo_Dst f b σ.1) (hk : σ.1 (192 + b) = 2) (h : fo_WI B σ.1) (s : fo_SI σ.1) : fo_SI (fo_sealS b f (fo_fill σ.1 b) σ).1 := by
  have hb := hd.1
  have hf := hd.2.1
  have how := hd.2.2.2
  have hC : ∀ k, k < 3 → σ.1 (4 * b + k) = 0 → σ.1 (4 * b + k + 1) = 0 := s.cg b hb (by omega)
  obtain ⟨f1, f2, f3⟩ := fo_fill_spec h.pg hb hC
  obtain ⟨pP, pK, pO, pH⟩ := fo_seal_pt hB hd hk hC h
  have b1 := fo_blk_spec σ.1 1 f
  generalize hρ : (fo_sealS b f (fo_fill σ.1 b) σ).1 = ρ at pP pK pO pH ⊢
  have w1 : ∀ c : Nat, c < 16 → (c : Int) = fo_blk σ.1 1 f → σ.1 (192 + c) = 1 ∧ σ.1 (208 + c) = (f : Int) := by
    intro c hc e
    rcases b1 with ⟨q, _⟩ | ⟨d, q, q1, q2, q3⟩
    · omega
    · have : c = d := by omega
      subst this; exact ⟨q2, q3⟩
  have hom : ∀ c : Nat, c < 16 → σ.1 (192 + c) = 1 → σ.1 (208 + c) = (f : Int) → (c : Int) = fo_blk σ.1 1 f := fun c hc a b => (fo_blk_of hc a b (fun d hd a' b' => s.hu d c hd hc a' a (b'.trans b.symm))).symm
  have nb : (b : Int) ≠ fo_blk σ.1 1 f := fun e => by have := (w1 b hb e).1; omega
  have k1 : ∀ c : Nat, c < 16 → (ρ (192 + c) = 1 ↔ (c = b ∨ (σ.1 (192 + c) = 1 ∧ (c : Int) ≠ fo_blk σ.1 1 f))) := by
    intro c hc
    rw [pK c hc]
    by_cases e1 : (c : Int) = fo_blk σ.1 1 f
    · rw [if_pos e1]
      exact ⟨fun h => absurd h (by decide), fun h => h.elim (fun h => absurd e1 (by rw [h]; exact nb)) (fun h => absurd e1 h.2)⟩
    · rw [if_neg e1]
      by_cases e0 : c = b
      · rw [if_pos e0]; exact ⟨fun _ => Or.inl e0, fun _ => rfl⟩
      · rw [if_neg e0]; exact ⟨fun h => Or.inr ⟨h, e1⟩, fun h => h.elim (fun h => absurd h e0) (fun h => h.1)⟩
  have kk : ∀ c : Nat, c < 16 → ∀ k, k ≠ 0 → k ≠ 1 → (ρ (192 + c) = k ↔ (σ.1 (192 + c) = k ∧ c ≠ b)) := by
    intro c hc k hk0 hk1
    rw [pK c hc]
    by_cases e1 : (c : Int) = fo_blk σ.1 1 f
    · rw [if_pos e1]
      have := (w1 c hc e1).1
      exact ⟨fun h => absurd h.symm hk0, fun h => absurd (h.1.symm.trans this) hk1⟩
    · rw [if_neg e1]
      by_cases e0 : c = b
      · rw [if_pos e0]; exact ⟨fun h => absurd h.symm hk1, fun h => absurd e0 h.2⟩
      · rw [if_neg e0]; exact ⟨fun h => ⟨h, e0⟩, fun h => h.1⟩
  have oo : ∀ c : Nat, c < 16 → (c : Int) ≠ fo_blk σ.1 1 f → ρ (208 + c) = σ.1 (208 + c) := fun c hc e => by rw [pO c hc, if_neg e]
  have ob : ρ (208 + b) = (f : Int) := by rw [oo b hb nb, how]
  have no2 : ∀ c : Nat, c < 16 → ρ (192 + c) ≠ 2 := fun c hc e => by
    obtain ⟨g1, g2⟩ := (kk c hc 2 (by decide) (by decide)).mp e
    exact g2 (s.ru c b hc hb g1 hk)
  have logk : ∀ c : Nat, c < 16 → 3 ≤ ρ (192 + c) → 3 ≤ σ.1 (192 + c) ∧ ρ (192 + c) = σ.1 (192 + c) ∧ (c : Int) ≠ fo_blk σ.1 1 f ∧ c ≠ b := by
    intro c hc hh
    obtain ⟨g1, g2⟩ := (kk c hc _ (by omega) (by omega)).mp rfl
    refine ⟨by omega, by omega, fun e => ?_, g2⟩
    have := (w1 c hc e).1
    omega
  have many : ∀ k, 3 ≤ k → fo_many ρ k = fo_many σ.1 k := fun k hk3 => fo_many_congr (fun c hc => by
    rw [kk c hc k (by omega) (by omega)]
    exact ⟨fun h => h.1, fun h => ⟨h, fun e => by rw [e] at h; omega⟩⟩)
  have pp : ∀ j : Nat, j < 64 → ((j / 4 : Nat) : Int) ≠ fo_blk σ.1 1 f → j / 4 ≠ b → ρ j = σ.1 j := by
    intro j hj e1 e0
    rw [pP j hj, if_neg e1, if_neg (fun h => e0 h.1)]
  refine ⟨fun c d hc hd' e1 e2 e3 => ?_, fun c d hc hd' e1 e2 => absurd e1 (no2 c hc), fun c d hc hd' e1 e2 e3 => ?_, fun c hc e1 => ?_, fun c hc e1 => ?_, ?_, fun c hc e1 k hk3 e2 => ?_, fun c hc e1 => absurd e1 (no2 c hc), fun l hl e1 => ?_, fun c hc e1 => ?_, fun k o hk3 ho hm => ?_⟩
  · rcases (k1 c hc).mp e1 with q1 | ⟨q1, q2⟩
    · rcases (k1 d hd').mp e2 with p1 | ⟨p1, p2⟩
      · omega
      · rw [q1, ob, oo d hd' p2] at e3
        exact absurd (hom d hd' p1 e3.symm) p2
    · rcases (k1 d hd').mp e2 with p1 | ⟨p1, p2⟩
      · rw [p1, ob, oo c hc q2] at e3
        exact absurd (hom c hc q1 e3) q2
      · rw [oo c hc q2, oo d hd' p2] at e3
        exact s.hu c d hc hd' q1 p1 e3
  · obtain ⟨g1, g2, g3, g4⟩ := logk c hc e1
    obtain ⟨p1, p2, p3, p4⟩ := logk d hd' (by omega)
    rw [oo c hc g3, oo d hd' p3] at e3
    exact s.lu c d hc hd' g1 (by omega) e3
  · rcases e1 with e1 | e1
    · rcases (k1 c hc).mp e1 with q | ⟨q1, q2⟩
      · rw [q, ob]; omega
      · rw [oo c hc q2]; exact s.or c hc (Or.inl q1)
    · exact absurd e1 (no2 c hc)
  · obtain ⟨g1, g2, g3, g4⟩ := logk c hc e1
    rw [oo c hc g3, g2, many _ g1]
    exact s.lo c hc g1
  · have := s.lm
    unfold fo_Lm at this ⊢
    rw [many 3 (by decide), many 4 (by decide), pH 271 (by decide) (by decide) (by decide), pH 272 (by decide) (by decide) (by decide), pH 273 (by decide) (by decide) (by decide)]
    exact this
  · have h2 := no2 c hc
    obtain ⟨g1, g2, g3, g4⟩ := logk c hc (by omega)
    rw [pp (4 * c + k) (by omega) (by rw [show (4 * c + k) / 4 = c by omega]; exact g3) (by omega)] at e2
    rw [pp (4 * c + k + 1) (by omega) (by rw [show (4 * c + k + 1) / 4 = c by omega]; exact g3) (by omega)]
    exact s.cg c hc (by omega) k hk3 e2
  · rw [pP l hl] at e1 ⊢
    by_cases c1 : ((l / 4 : Nat) : Int) = fo_blk σ.1 1 f
    · rw [if_pos c1] at e1; exact absurd rfl e1
    · rw [if_neg c1] at e1 ⊢
      by_cases c0 : l / 4 = b ∧ fo_fill σ.1 b ≤ l % 4 ∧ 0 ≤ fo_lat σ.1 (4 * (f : Int) + ((l % 4 : Nat) : Int))
      · rw [if_pos c0]
        refine ⟨b, hb, (k1 b hb).mpr (Or.inl rfl), ?_⟩
        rw [ob]; omega
      · rw [if_neg c0] at e1 ⊢
        obtain ⟨c, hc, a1, a2⟩ := s.ha l hl e1
        by_cases hc1 : (c : Int) = fo_blk σ.1 1 f
        · refine ⟨b, hb, (k1 b hb).mpr (Or.inl rfl), ?_⟩
          rw [ob, ← a2, (w1 c hc hc1).2]
        · exact ⟨c, hc, (k1 c hc).mpr (Or.inr ⟨a1, hc1⟩), by rw [oo c hc hc1, a2]⟩
  · rcases (k1 c hc).mp e1 with q | ⟨q1, q2⟩
    · subst q
      have h0 := s.r0 c hb hk
      have hnf : ¬ (4 * c / 4 = c ∧ fo_fill σ.1 c ≤ 4 * c % 4 ∧ 0 ≤ fo_lat σ.1 (4 * (f : Int) + ((4 * c % 4 : Nat) : Int))) := by
        intro hh
        have := f3 0 (by have := hh.2.1; omega) (by omega)
        rw [Nat.add_zero] at this
        exact h0 this
      have ho := h.on (4 * c) (by omega) h0 (Or.inr (by rw [show 4 * c / 4 = c by omega]; exact hk))
      rw [show 4 * c / 4 = c by omega, show 4 * c % 4 = 0 by omega] at ho
      refine ⟨4 * c, by omega, ?_⟩
      rw [pP _ (by omega), if_neg (by rw [show 4 * c / 4 = c by omega]; exact nb), if_neg hnf, ob]
      exact ⟨h0, by omega⟩
    · obtain ⟨l, hl, g1, g2⟩ := s.hb c hc q1
      have hof : σ.1 (208 + c) ≠ (f : Int) := fun e => q2 (hom c hc q1 e)
      have hon := h.on l hl g1
      have c1 : ((l / 4 : Nat) : Int) ≠ fo_blk σ.1 1 f := fun e => by
        have w := w1 (l / 4) (by omega) e
        have := hon (Or.inl w.1)
        omega
      have c0 : l / 4 ≠ b := fun e => by
        rw [e] at hon
        have := hon (Or.inr hk)
        omega
      refine ⟨l, hl, ?_⟩
      rw [pp l hl c1 c0, oo c hc q2]
      exact ⟨g1, g2⟩
  · rw [many k hk3] at hm
    obtain ⟨c, hc, a1, a2⟩ := s.ls k o hk3 ho hm
    have hcb : c ≠ b := fun e => by rw [e] at a1; omega
    have hcw : (c : Int) ≠ fo_blk σ.1 1 f := fun e => by have := (w1 c hc e).1; omega
    exact ⟨c, hc, (kk c hc k (by omega) (by omega)).mpr ⟨a1, hcb⟩, by rw [oo c hc hcw]; exact a2⟩
/-- the run, and what is known of it -/
theorem fo_run_dst {B : Int} {b : Nat} {r : fo_R} (h : fo_WI B r) (s : fo_SI r) (hb : b < 16) (hk : r (192 + b) = 2) : fo_Dst (r (208 + b)).toNat b r ∧ r (208 + b) = (((r (208 + b)).toNat : Nat) : Int) := by
  have := s.or b hb (Or.inr hk)
  exact ⟨⟨hb, by omega, Or.inr hk, by omega⟩, by omega⟩
theorem fo_WI_seal {B : Int} {b f : Nat} {σ : fo_S} (hB : 0 ≤ B) (hd : fo_Dst f b σ.1) (hk : σ.1 (192 + b) = 2) (h : fo_WI B σ.1) (s : fo_SI σ.1) : fo_WI B (fo_sealA b f σ).2.1 ∧ fo_SI (fo_sealA b f σ).2.1 := by
  have hb := hd.1
  obtain ⟨f1, _, _⟩ := fo_fill_spec h.pg hb (s.cg b hb (by omega))
  unfold fo_sealA
  split
  · refine ⟨fo_WI_cnt ?_ ?_ (fo_seal_mid hB hd hk f1 h).2.2.2, fo_SI_cnt ?_ ?_ (fo_SI_sealS hB hd hk h s)⟩ <;> split <;> omega
  · obtain ⟨l, hl, g1, g2⟩ := fo_run_ex h s hb hk
    exact ⟨fo_WI_merge hd.2.1 hB (s.free h) h, fo_SI_merge hd.2.1 hB h s ⟨l, hl, g1, by rw [g2, hd.2.2.2]⟩⟩
/-- the class's sealRun -/
theorem rl_seal {b c : Nat} {K B : Int} {M : ax_M} {σ : fo_S} {r0 : fo_R} {w : Prop} (hB : 0 ≤ B) (hc : c < 16) (hk : σ.1 (192 + c) = 2) (hW : fo_WI B σ.1) (s : fo_SI σ.1) (hK0 : 100 ≤ K) (hK : K + 6 ≤ 1000000) (h : fo_RL b K M σ r0 w) : fo_RL b (K + 6) (f_X0_sealRun b M).2 (fo_sealA c (σ.1 (208 + c)).toNat σ).2 r0 w ∧ (fo_cr b M = σ.1 → (f_X0_sealRun b M).1 = (fo_sealA c (σ.1 (208 + c)).toNat σ).1) := by
  obtain ⟨hd, eo⟩ := fo_run_dst hW s hc hk
  have hC := s.cg c hc (by omega)
  obtain ⟨f1, f2, f3⟩ := fo_fill_spec hW.pg hc hC
  by_cases hcr : fo_cr b M = σ.1
  · have hrun : fo_run σ.1 = (c : Int) := by
      rcases fo_run_spec σ.1 with ⟨_, g⟩ | ⟨d, g, g1, g2⟩
      · exact absurd hk (g c hc)
      · rw [g, s.ru d c g1 hc g2 hk]
    have ey4 : M (b + 5) c = σ.1 (208 + c) := by rw [← hcr, fo_cr, fo_dOw hc]
    have hall := fc_allL (b := b) (M := M) hc (by rw [hcr]; exact hW.pg) (by rw [hcr]; exact hW.kd) (by rw [hcr]; exact hW.em) (by rw [hcr]; exact hW.on) (by rw [hcr]; exact hC)
    rw [hcr] at hall
    have efill : f_X0_filled b (c : Int) M = ((fo_fill σ.1 c : Nat) : Int) := by rw [fc_filled' hc (by rw [hcr]; exact hW.pg), hcr]
    generalize hfo : (σ.1 (208 + c)).toNat = f at hd eo ⊢
    unfold f_X0_sealRun
    simp only [ax_bd]
    rw [fc_firstRun, hcr, hrun, if_pos (by omega), fo_t0, ey4, efill, eo]
    unfold fo_sealA
    by_cases hA : fo_allL σ.1 c (fo_fill σ.1 c) = true
    · rw [if_pos (hall.mpr hA), if_pos hA, fc_owned, hcr, show (4 - ((fo_fill σ.1 c : Nat) : Int)).toNat = 4 - fo_fill σ.1 c by omega, fz_sealL]
      generalize hn : fo_fill σ.1 c = n at *
      obtain ⟨m1, m2, m3, m4⟩ := fo_seal_mid hB hd hk (by omega) hW
      rw [hn] at m1 m2 m3 m4
      have h2 := rl_cl (B := B) (4 - n) n K M σ (by omega) hd hW hK0 (by omega) h
      have hkk : ∀ j, 192 ≤ j → j ≠ 265 → (fo_cl f c (4 - n) n σ).1 j = σ.1 j := fun j hj h5 => fo_cl_hi hc hj h5 _ _ _ (by omega)
      have h3 : fo_RL b (K + ((4 - n : Nat) : Int)) (ax_up (fo_fold (fz_cp b (f : Int) (c : Int)) (4 - n) n M) (b + 4) c 1) (fo_sealM c f n σ) r0 w := by
        refine fo_RL_o h2 fz_KZ.1 (by rw [ax_up_ne (by omega)]) (by rw [ax_up_ne (by omega)]) (fun j hj => fo_u_o (by omega)) (fun hc' => ?_) (by omega)
        rw [fo_cr_K hc, hc']
      have h4 := rl_wipeI (x := fo_blk σ.1 1 (f : Int)) m3 (fun _ => rfl) m2.wi m2.ct (by omega) (by omega) h3
      by_cases h4n : n = 4
      · rw [if_neg (by omega), if_pos h4n, if_pos h4n]
        have h5 := rl_count (k := 4) (by omega) (by omega) (m4.ct 267 (by omega) (by omega)) (by omega) h4
        exact ⟨h5.up (by omega), fun _ => rfl⟩
      · rw [if_pos (by omega), if_neg h4n, if_neg h4n]
        have h5 := rl_count (k := 5) (by omega) (by omega) (m4.ct 268 (by omega) (by omega)) (by omega) h4
        exact ⟨h5.up (by omega), fun _ => rfl⟩
    · rw [if_neg (fun h => hA (hall.mp h)), if_neg hA]
      obtain ⟨g1, g2⟩ := rl_merge (x := (f : Int)) hd.2.1 hB (s.free hW) hW (fun _ => rfl) hK0 hK h
      exact ⟨g1, fun _ => rfl⟩
  · exact ⟨fo_RL_ne h hcr fz_seal.1 hK (fo_Tr_seal hc f1 h.1) fo_seal_ex, fun h' => absurd h' hcr⟩
