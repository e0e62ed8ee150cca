/-! ===== law, side by side ===== -/
section LAW
variable {C : Int} {Mc Mm : ax_M}
set_option maxHeartbeats 1000000 in
theorem pq_law {seed : Int} (hC : C < 2000000000) (h : pr_G C Mc Mm) : pq C (f_X2_law seed Mc) (f_X3_law seed Mm) := by
  have hp := rr_other hC (h.th (x := 0))
  unfold f_X2_law f_X3_law
  simp only [ax_bd_e]
  generalize f_X2_readOtherRule Mc = A at hp ⊢
  generalize f_X3_readsRule (ax_up Mm 0 0 0) = B at hp ⊢
  obtain ⟨A1, A2, X⟩ := A
  obtain ⟨B1, B2, Y⟩ := B
  obtain ⟨p1, p2, g, f10, f4, p5⟩ := hp
  refine pq_lc p1 ?_
  refine pq_rc p2 ?_
  dsimp only at g f10 f4 p5 ⊢
  rcases p5 with ⟨l, l1, l2, l3⟩ | ⟨c1, c2, a, b, cs0, cs, hab, k7, k8, l0, w0, kC, kM, l1, w1, kC1, kM1⟩
  · rw [if_neg (show ¬ A2 = -1 by omega), if_neg (show ¬ 0 ≤ B2 by omega)]
    refine ⟨trivial, trivial, ?_, g⟩
    show -10000 - A2 = ax_wr ((B2 + 1) - 10000)
    rw [ax_wr_id (by omega) (by omega)]
    omega
  · rw [if_pos c1, if_pos (show 0 ≤ B2 by omega)]
    have hB0 := pb_B g
    have hbt := (pb_begin g).2.2.2
    generalize f_X2_begin X = X0 at hB0 hbt ⊢
    generalize Y 7 = r at hB0
    rw [show X0 0 8 = (b : Int) by rw [hbt 0 (by decide) (by decide), k8]]
    have ha : a = 28 ∨ a = 31 := by omega
    have hb : b = 28 ∨ b = 31 := by omega
    have kC0 : pr_cC a cs0 X0 := rr_cC_cg (by rw [hbt a (by omega) (by omega)]) (hbt (a + 1) (by omega) (by omega)) kC
    have kCn : pr_cC b cs X0 := rr_cC_cg (by rw [hbt b (by omega) (by omega)]) (hbt (b + 1) (by omega) (by omega)) kC1
    have hwo : fo_Wv a 13 (fo_ev cs0) X0 := fc_Wv (by omega) l0 w0 kC0.1 kC0.2
    have hwn : fo_Wv b 13 (fo_ev cs) X0 := fc_Wv (by omega) l1 w1 kCn.1 kCn.2
    have hmo : fo_Wm (fo_ev cs0) Y := rr_Wm w0 l0 kM
    obtain ⟨v1, v2, ⟨τv, v3⟩, v4, v5⟩ := pq_drawn (a := a) (seed := seed) (n := 40) (by omega) ha (by decide) hB0 hwo hmo
    have hB1 := rr_B' ha v3.1 hB0.1 v4
    clear v1 v3 v4
    generalize hY1 : f_X3_drawnWrites seed 40 Y = Y1 at v2 v5 hB1 ⊢
    refine pq_rc v2 ?_
    obtain ⟨m, em, hm40⟩ : ∃ m : Nat, Y 0 10 = (m : Int) ∧ m ≤ 40 := by
      rcases kM with ⟨e1, _⟩ | ⟨_, e1, _⟩
      · exact ⟨0, e1, by decide⟩
      · exact ⟨cs0.length, e1, l0⟩
    have em1 : Y1.2 0 10 = (m : Int) := by rw [v5.1, em]
    rw [em1]
    refine lw_L (n := m) (by omega) 100 0 Y1.2 em1 (by omega) (by omega) (fun Z z1 z2 _ => ?_)
    have kMZ : (Z 0 11 = 0 ∧ cs = [1000, 4, 2001]) ∨ (cs.length ≠ 0 ∧ ml_S cs Z) := by
      have e4 : Z 4 = Y 4 := by rw [z1 4 (by decide), v5.2.2.1]
      have e11 : Z 0 11 = Y 0 11 := by rw [z1 0 (by decide), v5.2.2.2.1]
      unfold ml_S at *
      rw [e4, e11]
      exact kM1
    obtain ⟨s1, s2, s3⟩ := rr_cM l1 kMZ
    try dsimp only
    generalize f_X3_laysCode 4 (Z 0 11) Z = Y2 at s1 s2 s3 ⊢
    have y2t : ∀ t, t ≠ 0 → t ≠ 3 → t ≠ 19 → Y2 t = Y1.2 t := fun t t0 t3 t19 => by rw [s2 t t0 t3, z1 t t19]
    have y20 : ∀ f, f ≠ 10 → Y2 0 f = Y1.2 0 f := fun f hf => by rw [s3 f hf, z1 0 (by decide)]
    have g2 : pr_G 2000000000 X0 Y2 := rr_G (by omega) (b := 28) (Or.inl rfl) hB1.1 (fun _ _ _ _ _ => rfl) (fun _ _ _ _ => rfl) (fun t t0 t3 _ t19 => y2t t t0 t3 t19) (fun f _ _ _ _ _ f10 _ => y20 f f10) (pr_X_cg rfl rfl (y20 4 (by decide)) (y2t 2 (by decide) (by decide) (by decide)) hB1.1.1.2.2.2.2.1) (fun h => absurd h (by decide))
    have hB2 : pr_B 2000000000 r X0 Y2 := ⟨g2, by rw [y2t 7 (by decide) (by decide) (by decide)]; exact hB1.2.1, hB1.2.2⟩
    obtain ⟨n1, n2, ⟨τn, n3⟩, n4, n5⟩ := pq_drawn (C := 2000000000) (a := b) (seed := seed) (n := 40) (by decide) hb (by decide) hB2 hwn (rr_Wm w1 l1 s1)
    generalize f_X2_tryYears seed 40 (b : Int) X0 = X1 at n1 n3 n4 ⊢
    generalize f_X3_drawnWrites seed 40 Y2 = Y3 at n2 n3 n5 ⊢
    refine pq_lc n1 ?_
    refine pq_rc n2 ?_
    rw [show X1.2 0 7 = (a : Int) by rw [n4.2.2.1 7 (by decide), hbt 0 (by decide) (by decide), k7]]
    have hB0' := rr_B hb hB0 n4
    have kC1a : pr_cC a cs0 X1.2 := rr_cC_cg (by rw [n4.1 a (by omega) (by omega) (by omega) (by omega) (by omega)]) (n4.1 (a + 1) (by omega) (by omega) (by omega) (by omega) (by omega)) kC0
    obtain ⟨o1, o2, ⟨τo, o3⟩, o4, o5⟩ := pq_drawn (a := a) (seed := seed) (n := 40) (by omega) ha (by decide) hB0' (fc_Wv (by omega) l0 w0 kC1a.1 kC1a.2) hmo
    rw [hY1] at o3
    generalize f_X2_tryYears seed 40 (a : Int) X1.2 = X2 at o1 o3 o4 ⊢
    refine pq_lc o1 ?_
    obtain ⟨t1, t2, t3, t4⟩ := ly_code (M := Y3.2) (a1 := 19) (n := m) (by decide) (by decide)
    try dsimp only
    generalize f_X3_laysCode 19 (m : Int) Y3.2 = Y4 at t1 t2 t3 t4 ⊢
    have kM4 : pr_cM cs0 Y4 := by
      rcases kM with ⟨e1, e2⟩ | ⟨e1, e2, e3⟩
      · exact Or.inl ⟨by rw [t3, ← em, e1], e2⟩
      · refine Or.inr ⟨e1, by rw [t3, ← em, e2], fun i hi => ?_⟩
        have him : i < m := by omega
        rw [e3 i hi, t4 i him, n5.2.2.2.2, s2 19 (by decide) (by decide), z2 i (by omega) him, v5.2.1]
    have hB3 := rr_B ha n3.1 o4
    have g3 : pr_G 2000000000 X2.2 Y4 := rr_G (Int.le_refl _) (b := 28) (Or.inl rfl) hB3.1 (fun _ _ _ _ _ => rfl) (fun _ _ _ _ => rfl) (fun t t0 t3 _ _ => t1 t t0 t3) (fun f _ _ _ _ _ f10 _ => t2 f f10) (pr_X_cg rfl rfl (t2 4 (by decide)) (t1 2 (by decide) (by decide)) hB3.1.1.2.2.2.2.1) (fun h => absurd h (by decide))
    have g4 : pr_G C X2.2 Y4 := rr_mix o3.1.1 g3 (fun _ => ⟨a, cs0, ha, by rw [o4.2.2.1 7 (by decide), n4.2.2.1 7 (by decide), hbt 0 (by decide) (by decide), k7], by rw [o4.2.2.1 8 (by decide), n4.2.2.1 8 (by decide), hbt 0 (by decide) (by decide), k8]; omega, l0, w0, rr_cC_cg (o4.2.1 1 (by decide)) (o4.1 (a + 1) (by omega) (by omega) (by omega) (by omega) (by omega)) kC1a, kM4⟩)
    have e1 : f_X0_wear 13 X1.2 = fo_wear τn := by rw [fc_wear (by rw [n3.2.1]; exact n3.2.2.2.2.2.2.2.1.wi), n3.2.1]
    have e2 : f_X0_wear 13 X2.2 = fo_wear τo := by rw [fc_wear (by rw [o3.2.1]; exact o3.2.2.2.2.2.2.2.1.wi), o3.2.1]
    have y48 : Y4 8 = τn := by rw [t1 8 (by decide) (by decide)]; exact n3.2.2.1
    have e3 : f_X3_spreadOf 8 Y4 = fo_wear τn := by rw [fm_spreadOf (by rw [y48]; exact n3.2.2.2.2.2.2.2.1.wi), y48]
    have e4 : f_X3_spreadOf 8 Y1.2 = fo_wear τo := by rw [fm_spreadOf (by rw [o3.2.2.1]; exact o3.2.2.2.2.2.2.2.1.wi), o3.2.2.1]
    have e5 : f_X0_since 13 2 X1.2 = ax_wr (τn 265 - r 265) := pv_since (k := 2) (by decide) (by decide) n3
    have e6 : f_X0_since 13 2 X2.2 = ax_wr (τo 265 - r 265) := pv_since (k := 2) (by decide) (by decide) o3
    have e7 : ax_wr (Y1.2 8 265 - Y1.2 0 26) = ax_wr (τo 265 - r 265) := by rw [o3.2.2.1, o3.2.2.2.2.1]
    have y26 : Y4 0 26 = r 265 := by rw [t2 26 (by decide)]; exact n3.2.2.2.2.1
    rw [e1, e2, e3, e4, e5, e7]
    have s0 := vs_anew (r := r) g4.1 ((t1 7 (by decide) (by decide)).trans n3.1.2.1)
    unfold pq ax_rc
    dsimp only
    generalize f_X2_tellAnew X2.2 = Z0 at s0 ⊢
    generalize ax_up Y4 0 1 0 = W0 at s0 ⊢
    obtain ⟨q1, r1⟩ := vs_tell (x := fo_wear τn) s0 (by decide)
    generalize f_X2_tell (fo_wear τn) Z0 = Z1 at r1 ⊢
    generalize f_X3_enters (fo_wear τn) W0 = y1 at q1 r1 ⊢
    obtain ⟨q2, r2⟩ := vs_tell (x := fo_wear τo) r1 (by decide)
    generalize f_X2_tell (fo_wear τo) Z1 = Z2 at r2 ⊢
    generalize f_X3_enters (fo_wear τo) y1.2 = y2 at q2 r2 ⊢
    rw [show ax_wr (y2.2 8 265 - y2.2 0 26) = ax_wr (τn 265 - r 265) by rw [r2.2.2.1 8 (by decide) (by decide), r2.2.2.2 26 (by decide), y48, y26]]
    obtain ⟨q3, r3⟩ := vs_tell (x := ax_wr (τn 265 - r 265)) r2 (by decide)
    generalize f_X2_tell (ax_wr (τn 265 - r 265)) Z2 = Z3 at r3 ⊢
    generalize f_X3_enters (ax_wr (τn 265 - r 265)) y2.2 = y3 at q3 r3 ⊢
    rw [show f_X0_since 13 2 Z3 = ax_wr (τo 265 - r 265) by
      rw [← e6]
      unfold f_X0_since
      rw [r3.2.1 (13 + 9) (by decide) (by decide), r3.2.1 (13 + 10) (by decide) (by decide)]]
    obtain ⟨q4, r4⟩ := vs_tell (x := ax_wr (τo 265 - r 265)) r3 (by decide)
    exact ⟨trivial, ⟨q1, q2, q3, q4, trivial⟩, rfl, r4.1.g⟩
end LAW
