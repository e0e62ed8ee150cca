/-! ===== acts, class and model side by side ===== -/
section PRD
variable {C D : Int} {Mc Mm Nc Nm X Y Z W M : ax_M} {r q q' : fo_R}
theorem tell_o {x : Int} {t : Nat} (h0 : t ≠ 0) (h1 : t ≠ 35) : f_X2_tell x M t = M t := by
  unfold f_X2_tell
  simp only [ax_bd]
  split
  · rfl
  · rw [ax_up_ne h0, ax_up_ne h1]
theorem enters_o {x : Int} {t : Nat} (h0 : t ≠ 0) (h1 : t ≠ 1) : (f_X3_enters x M).2 t = M t := by
  unfold f_X3_enters ax_rq
  simp only [ax_bd]
  rw [ax_up_ne h0, ax_up_ne h1]
theorem enters_0 {x : Int} {f : Nat} (h1 : f ≠ 1) : (f_X3_enters x M).2 0 f = M 0 f := by
  unfold f_X3_enters ax_rq
  simp only [ax_bd]
  rw [fo_up_at, fo_u_o h1, ax_up_ne (by decide)]
/-- an act under way: r the row of before, q that of now -/
def pr_D (C : Int) (r q : fo_R) (Nc Nm : ax_M) : Prop := pr_G C Nc Nm ∧ Nm 7 = q ∧ fo_vw Nc 25 (fo_sl Nc) = r ∧ fo_mw Nm 13 (274 * (Nm 0 24).toNat) = r ∧ (∀ k, 1 ≤ k → k < 7 → Nc 11 k = r (263 + k)) ∧ fo_G C r
theorem pr_P.u (h : pr_P C Mc Mm) : ∃ u : Nat, u ≤ 8 ∧ Mm 0 24 = (u : Int) := ⟨(Mm 0 24).toNat, by have := h.2.2.2.2.1; omega, by have := h.2.2.2.1; omega⟩
theorem pd_begin (h : pr_G C Mc Mm) : (f_X3_putsBy (ax_up Mm 0 0 0)).1 ∧ pr_D C (Mm 7) (Mm 7) (f_X2_begin Mc) (f_X3_putsBy (ax_up Mm 0 0 0)).2 ∧ (∀ t, t ≠ 11 → t ≠ 25 → f_X2_begin Mc t = Mc t) ∧ ∀ f, f ≠ 0 → (f_X3_putsBy (ax_up Mm 0 0 0)).2 0 f = Mm 0 f := by
  obtain ⟨b1, b2, b3, b4⟩ := pb_begin h
  have h' := b1.th (x := 0)
  obtain ⟨u, hu, eu⟩ := h.1.2.1.u
  have e0 : ∀ f, f ≠ 0 → ax_up Mm 0 0 0 0 f = Mm 0 f := fun f hf => by rw [fo_up_at, fo_u_o hf]
  have e7 : ax_up Mm 0 0 0 7 = Mm 7 := ax_up_ne (by decide)
  obtain ⟨p1, p2, p3, p4⟩ := fm_putsBy (M := ax_up Mm 0 0 0) hu (by rw [e0 24 (by decide)]; exact eu) (pr_7hi h'.1.1)
  rw [e7] at p3
  generalize ax_up Mm 0 0 0 = M0 at h' e0 e7 p1 p2 p3 p4 ⊢
  generalize (f_X3_putsBy M0) = P at p1 p2 p3 p4 ⊢
  have hm : mQ M0 P.2 := mQ_of (fun t ht => p2 t (by omega)) (fun f _ => by rw [p2 0 (by decide)]) (fun i hi => p4 i (by rw [e0 24 (by decide), eu] at hi; omega)) (fun j _ => by rw [p2 8 (by decide)])
  have e24 : P.2 0 24 = (u : Int) := by rw [p2 0 (by decide), e0 24 (by decide), eu]
  refine ⟨p1, ⟨⟨pr_U_q cQ.rf hm h'.1, pr_T_cg rfl rfl (by rw [p2 0 (by decide)]) (p2 1 (by decide)) h'.2⟩, by rw [p2 7 (by decide), e7], b2, by rw [e24, fo_t0]; exact p3, b3, h.1.1.2.1⟩, b4, fun f hf => by rw [p2 0 (by decide), e0 f hf]⟩
/-- an act counts, on both sides -/
theorem pa_commit (hU : pr_U C X Y) (hs : fo_vw X 25 (fo_sl X) = q) (hm : fo_mw Y 13 (274 * (Y 0 24).toNat) = q) (hq : fo_G C q) (hZ : cQ (f_X2_keepPast X) Z) (hW : mQ Y W) (hW13 : W 13 = Y 13) (x : Int) :
    (f_X3_adds x W).1 ∧ (f_X3_adds x W).2.1 = x ∧ pr_U C Z (f_X3_adds x W).2.2 ∧ (∀ f, f ≠ 24 → (f_X3_adds x W).2.2 0 f = W 0 f) ∧ ∀ t, t ≠ 13 → t ≠ 0 → (f_X3_adds x W).2.2 t = W t := by
  obtain ⟨u, hu, eu⟩ := hU.2.1.u
  have eW : W 0 24 = (u : Int) := by rw [hW.2.1.1, eu]
  obtain ⟨a1, a2, a3, a4, a5, a6⟩ := fm_adds (M := W) (x := x) hu eW
  have hP := hU.2.1
  obtain ⟨h1, h2, h3, _, _, h6⟩ := hP
  rw [eu] at h1 h6 hm
  rw [fo_t0] at hm
  generalize f_X3_adds x W = Q at a1 a2 a3 a4 a5 a6 ⊢
  have hmA : mA Y Q.2.2 := hW.1.tr ⟨fun f hf => a4 f (by omega), fun s hs => a3 s (by omega) (by omega)⟩
  have hmN : mN Y Q.2.2 := hW.2.2.tr ⟨a3 7 (by decide) (by decide), fun j _ => by rw [a3 8 (by decide) (by decide)]⟩
  have key : cA X (f_X2_keepPast X) ∧ cN X (f_X2_keepPast X) ∧ f_X2_keepPast X 25 = X 25 ∧
      ((u < 8 ∧ f_X2_keepPast X 0 3 = X 0 3 ∧ f_X2_keepPast X 0 4 = (u : Int) + 1) ∨ (u = 8 ∧ f_X2_keepPast X 0 3 = (X 0 3 + 1) % 9 ∧ f_X2_keepPast X 0 4 = 8)) := by
    unfold f_X2_keepPast
    simp only [ax_bd]
    rw [h1]
    by_cases h8 : (8 : Int) ≤ (u : Int)
    · rw [if_pos h8]
      exact ⟨cA_0 (by decide), ⟨fun k k1 k2 => ax_up_ne (by omega), cS.e (ax_up_ne (by decide)), cS.e (ax_up_ne (by decide))⟩, ax_up_ne (by decide), Or.inr ⟨by omega, by rw [fo_up_at, fo_u_s], by rw [fo_up_at, fo_u_o (by decide), h1]; omega⟩⟩
    · rw [if_neg h8]
      exact ⟨cA_0 (by decide), ⟨fun k k1 k2 => ax_up_ne (by omega), cS.e (ax_up_ne (by decide)), cS.e (ax_up_ne (by decide))⟩, ax_up_ne (by decide), Or.inl ⟨by omega, by rw [fo_up_at, fo_u_o (by decide)], by rw [fo_up_at, fo_u_s]⟩⟩
  generalize f_X2_keepPast X = K at key hZ
  obtain ⟨k1, k2, k3, k4⟩ := key
  have hsp := hZ.2.1.2.2
  have z3 := hZ.2.1.1
  have z4 := hZ.2.1.2.1
  refine ⟨a1, a2, pr_U_mk (Int.le_refl _) (k1.tr hZ.1) hmA hU (pr_N_cg (Int.le_refl _) (k2.tr hZ.2.2) hmN hU.1) ?_, a4, a3⟩
  rcases k4 with ⟨u8, c3, c4⟩ | ⟨u8, c3, c4⟩
  · obtain ⟨e24, e13⟩ := a5 u8
    rw [c3, c4] at hsp
    refine ⟨by rw [z4, c4, e24], by rw [z3, c3]; exact h2, by rw [z3, c3]; exact h3, by rw [e24]; omega, by rw [e24]; omega, fun i hi => ?_⟩
    rw [e24] at hi
    rw [z3, c3]
    rw [fo_vw_cg (M := X) (N := Z) (fun j j1 j2 => by rw [hsp j (by
      have : ((X 0 3).toNat + i) % 9 ≠ ((X 0 3).toNat + ((u : Int) + 1).toNat) % 9 := by omega
      omega), k3]), fo_mw_cg (M := Y) (t := 13) (p := 274 * i) (fun j _ => by rw [e13, hW13])]
    by_cases hiu : i = u
    · subst hiu
      refine ⟨?_, by rw [hm]; exact hq⟩
      rw [hm, ← hs]
      unfold fo_sl
      rw [h1, fo_t0]
    · exact h6 i (by omega)
  · obtain ⟨e24, e13⟩ := a6 u8
    rw [c3, c4] at hsp
    refine ⟨by rw [z4, c4, e24], by rw [z3, c3]; omega, by rw [z3, c3]; omega, by rw [e24]; decide, by rw [e24]; decide, fun i hi => ?_⟩
    rw [e24] at hi
    have ei : (((X 0 3 + 1) % 9).toNat + i) % 9 = ((X 0 3).toNat + (i + 1)) % 9 := by omega
    rw [z3, c3, ei]
    rw [fo_vw_cg (M := X) (N := Z) (fun j j1 j2 => by rw [hsp j (by
      have : ((X 0 3).toNat + (i + 1)) % 9 ≠ (((X 0 3 + 1) % 9).toNat + (8 : Int).toNat) % 9 := by omega
      omega), k3]), e13 i (by omega), fo_mw_cg (M := Y) (t := 13) (p := 274 * (i + 1)) (fun j _ => by rw [hW13])]
    by_cases hiu : i + 1 = 8
    · rw [hiu]
      rw [u8] at hm
      refine ⟨?_, by rw [hm]; exact hq⟩
      rw [hm, ← hs]
      unfold fo_sl
      rw [h1, u8]
      rfl
    · exact h6 (i + 1) (by omega)
/-- an act is done: what it leaves -/
theorem pd_gen (h : pr_D C r q Nc Nm) (hCD : C ≤ D) (f0 : X 0 = Nc 0) (f11 : X 11 = Nc 11) (f13 : X 13 = Nc 13) (fs : ∀ s, s = 25 ∨ s = 26 ∨ s = 27 ∨ s = 29 ∨ s = 32 ∨ s = 34 ∨ s = 35 ∨ s = 36 ∨ s = 37 → X s = Nc s)
    (fa : ∀ f, f ≠ 3 → X 28 f = Nc 28 f ∧ X 31 f = Nc 31 f) (s1 : pr_SB D 1 X) (m0 : ∀ f, f = 1 ∨ f = 4 ∨ f = 10 ∨ f = 24 ∨ f = 32 → Y 0 f = Nm 0 f) (ms : ∀ s, s = 1 ∨ s = 2 ∨ s = 3 ∨ s = 8 ∨ s = 13 ∨ s = 17 ∨ s = 18 ∨ s = 20 ∨ s = 21 → Y s = Nm s)
    (hX : fo_cr 1 X = q') (hY : Y 7 = q') (hI : fo_I q') (hc : q' 270 ≤ D) : pr_D D r q' X Y := by
  obtain ⟨⟨hU, hT⟩, h7, hv, hw, hk, hG⟩ := h
  have cAx : cA Nc X := ⟨fun f _ => by rw [f0], fun s hs => fs s (by omega), fa⟩
  have mAx : mA Nm Y := ⟨fun f hf => m0 f (by omega), fun s hs => ms s (by omega)⟩
  have cPx : cP Nc X := ⟨by rw [f0], by rw [f0], fun i _ => by rw [fs 25 (by omega)]⟩
  have mPx : mP Nm Y := ⟨m0 24 (by omega), fun i _ => by rw [ms 13 (by omega)]⟩
  have hN := hU.1
  have hN' : pr_N D X Y := ⟨by rw [hX, hY], by rw [hY]; exact ⟨hI, hc⟩, s1, hN.2.2.2.1.e f13 hCD, fun j hj => by rw [ms 8 (by omega)]; exact hN.2.2.2.2 j hj⟩
  have esl : fo_sl X = fo_sl Nc := by unfold fo_sl; rw [f0]
  refine ⟨⟨pr_U_mk hCD cAx mAx hU hN' (pr_P_cg hCD cPx mPx hU.2.1), pr_T_cg (by rw [f0]) (fs 35 (by omega)) (m0 1 (by omega)) (ms 1 (by omega)) hT⟩, hY, ?_, ?_, fun k k1 k2 => by rw [f11]; exact hk k k1 k2, hG.mono hCD⟩
  · rw [esl, ← hv]
    exact fo_vw_cg (fun i _ _ => by rw [fs 25 (by omega)])
  · rw [m0 24 (by omega), ← hw]
    exact fo_mw_cg (fun j _ => by rw [ms 13 (by omega)])
theorem pr_D.mono (h : pr_D C r q Nc Nm) (hD : C ≤ D) : pr_D D r q Nc Nm := pd_gen h hD rfl rfl rfl (fun _ _ => rfl) (fun _ _ => ⟨rfl, rfl⟩) (h.1.1.1.2.2.1.e rfl hD) (fun _ _ => rfl) (fun _ _ => rfl) (h.1.c.trans h.2.1) h.2.1 (by rw [← h.2.1]; exact h.1.I) (by have := h.1.1.1.2.1.2; rw [h.2.1] at this; omega)
theorem pd_act {n0 : Nat} {M0 : ax_M} {σ : fo_S} (h : pr_D C r q Nc Nm) (hCD : C ≤ D) (hF : fo_Fr 1 Nc X) (hX : fo_cr 1 X = σ.1) (hY : fo_MR 7 n0 M0 Y σ) (hs : ∀ s, s ≠ 0 → M0 s = Nm s) (h0 : ∀ f, f ≠ 21 → M0 0 f = Nm 0 f) (hI : fo_I σ.1) (hc : σ.1 270 ≤ D) (s1 : pr_SB D 1 X) :
    pr_D D r σ.1 X Y ∧ (∀ f, f ≠ 20 → f ≠ 21 → Y 0 f = Nm 0 f) :=
  ⟨pd_gen h hCD (hF.1 0 (by omega)) (hF.1 11 (by omega)) (hF.1 13 (by omega)) (fun s hs => hF.1 s (by omega)) (fun f _ => ⟨by rw [hF.1 28 (by omega)], by rw [hF.1 31 (by omega)]⟩) s1
    (fun f hf => by rw [hY.2.2.2.2 f (by omega), h0 f (by omega)]) (fun s h => by rw [hY.2.2.2.1 s (by omega) (by omega) (by omega), hs s (by omega)]) hX hY.1 hI hc,
    fun f f1 f2 => by rw [hY.2.2.2.2 f f1, h0 f f2]⟩
/-- what an act tells at its end -/
theorem pd_more {n : Nat} (hT : pr_Tn n Z W) (hn : n ≤ 10) (hZ : fo_cr 1 Z = q) (hk : ∀ k, 1 ≤ k → k < 7 → Z 11 k = r (263 + k)) (h7 : W 7 = q) (h26 : W 0 26 = r 265) (h27 : W 0 27 = r 266) :
    (f_X3_entersMore 7 W).1 ∧ pr_Tn (n + 2) (f_X2_tellMore Z) (f_X3_entersMore 7 W).2 ∧ cQ Z (f_X2_tellMore Z) ∧ mQ W (f_X3_entersMore 7 W).2 ∧ (f_X3_entersMore 7 W).2 13 = W 13 := by
  have since : ∀ (V : ax_M) (k : Nat), 1 ≤ k → k < 7 → fo_cr 1 V = q → V 11 k = r (263 + k) → f_X0_since 1 (k : Int) V = ax_wr (q (263 + k) - r (263 + k)) := fun V k k1 k2 e1 e2 => by
    unfold f_X0_since
    rw [if_neg (by omega), if_pos (by omega), fo_t0, fr_ct (b := 1) e1 k1 k2, show V (1 + 10) k = r (263 + k) from e2]
  unfold f_X2_tellMore f_X3_entersMore
  simp only [ax_bd]
  unfold ax_rc
  dsimp only
  rw [show f_X0_since 1 2 Z = ax_wr (q 265 - r 265) from since Z 2 (by decide) (by decide) hZ (hk 2 (by decide) (by decide)), h7, h26]
  obtain ⟨t1, t2⟩ := tn_tell (x := ax_wr (q 265 - r 265)) hT (by omega)
  have c1 := cq_tell (x := ax_wr (q 265 - r 265)) (Mc := Z)
  have c2 := mq_enters (x := ax_wr (q 265 - r 265)) (Mm := W)
  have o1 := tell_o (M := Z) (x := ax_wr (q 265 - r 265)) (t := 11) (by decide) (by decide)
  have o2 := enters_o (M := W) (x := ax_wr (q 265 - r 265)) (t := 13) (by decide) (by decide)
  have o3 := enters_o (M := W) (x := ax_wr (q 265 - r 265)) (t := 7) (by decide) (by decide)
  have o4 := enters_0 (M := W) (x := ax_wr (q 265 - r 265)) (f := 27) (by decide)
  generalize f_X2_tell (ax_wr (q 265 - r 265)) Z = Z1 at t2 c1 o1 ⊢
  generalize f_X3_enters (ax_wr (q 265 - r 265)) W = W1 at t1 t2 c2 o2 o3 o4 ⊢
  rw [show f_X0_since 1 3 Z1 = ax_wr (q 266 - r 266) from since Z1 3 (by decide) (by decide) (c1.cr.trans hZ) (by rw [o1]; exact hk 3 (by decide) (by decide)), o3, h7, o4, h27]
  obtain ⟨t3, t4⟩ := tn_tell (x := ax_wr (q 266 - r 266)) t2 (by omega)
  exact ⟨⟨t1, t3, trivial⟩, t4, c1.tr cq_tell, c2.tr mq_enters, by rw [enters_o (by decide) (by decide), o2]⟩
theorem pd_fin {n : Nat} (h : pr_D C r q X Y) (hZ : cQ (f_X2_keepPast X) Z) (hW : mQ Y W) (hW13 : W 13 = Y 13) (hT : pr_Tn n Z W) (x : Int) :
    (f_X3_adds x W).1 ∧ (f_X3_adds x W).2.1 = x ∧ pr_G C Z (f_X3_adds x W).2.2 := by
  obtain ⟨⟨hU, _⟩, _, hv, hw, _, hG⟩ := h
  obtain ⟨a1, a2, a3, a4, a5⟩ := pa_commit hU hv hw hG hZ hW hW13 x
  exact ⟨a1, a2, a3, pr_T_cg rfl rfl (a4 1 (by decide)) (a5 1 (by decide) (by decide)) hT.1⟩
theorem keepPast_o {t : Nat} (ht : t ≠ 0) : f_X2_keepPast X t = X t := by
  unfold f_X2_keepPast
  simp only [ax_bd]
  split <;> exact ax_up_ne ht
theorem settle_p {x : Int} (hx : 0 ≤ x) : f_X2_settle x X = (1, f_X2_tellAnew (f_X2_keepPast X)) := by
  unfold f_X2_settle
  rw [if_pos hx]
  rfl
theorem settle_n {x : Int} (hx : ¬ 0 ≤ x) : f_X2_settle x X = (0, X) := by
  unfold f_X2_settle
  rw [if_neg hx]
theorem settleMore_p {x : Int} (hx : 0 ≤ x) : f_X2_settleMore x X = (x, f_X2_tellMore (f_X2_tellAnew (f_X2_keepPast X))) := by
  unfold f_X2_settleMore
  rw [settle_p hx]
  rfl
theorem settleMore_n {x : Int} (hx : ¬ 0 ≤ x) : f_X2_settleMore x X = (x, X) := by
  unfold f_X2_settleMore
  rw [settle_n hx]
  rfl
/-- merges, seals, clears: settled -/
theorem pd_told {x : Int} (h : pr_D C r q X Y) (h26 : Y 0 26 = r 265) (h27 : Y 0 27 = r 266) : pq C (True, f_X2_settleMore x X) (f_X3_told x Y) := by
  unfold f_X3_told
  simp only [ax_bd]
  by_cases hx : 0 ≤ x
  · rw [if_pos hx, settleMore_p hx]
    unfold ax_rc
    dsimp only
    have hT : pr_Tn 0 (f_X2_tellAnew (f_X2_keepPast X)) (ax_up Y 0 1 0) := tn_anew
    have c0 : cQ (f_X2_keepPast X) (f_X2_tellAnew (f_X2_keepPast X)) := cq_anew
    have e0 : ∀ t, t ≠ 0 → f_X2_tellAnew (f_X2_keepPast X) t = X t := fun t ht => by
      have : f_X2_tellAnew (f_X2_keepPast X) t = f_X2_keepPast X t := ax_up_ne ht
      rw [this, keepPast_o ht]
    obtain ⟨m1, m2, m3, m4, m5⟩ := pd_more (q := q) (r := r) hT (by decide) (by rw [← h.2.1, ← h.1.1.1.1]; exact fo_cr_same (fun k k1 k2 => e0 _ (by omega))) (fun k k1 k2 => by rw [e0 11 (by decide)]; exact h.2.2.2.2.1 k k1 k2) (by rw [ax_up_ne (by decide)]; exact h.2.1) (by rw [fo_up_at, fo_u_o (by decide)]; exact h26) (by rw [fo_up_at, fo_u_o (by decide)]; exact h27)
    obtain ⟨a1, a2, a3⟩ := pd_fin h (c0.tr m3) ((mQ_0 (by decide)).tr m4) (by rw [m5, ax_up_ne (by decide)]) m2 x
    exact ⟨trivial, ⟨m1, a1, trivial⟩, a2.symm, a3⟩
  · rw [if_neg hx, settleMore_n hx]
    exact ⟨trivial, trivial, rfl, h.1⟩
end PRD
