/-! ===== years drawn; hot pages; side by side ===== -/
def dr_s (s : Int) : Int := ax_wr ((ax_wr (s * 1103515245)) + 12345)
def dr_v (s n : Int) : Int := ax_rem (ax_ushr (dr_s s) 16) n
section PRY
variable {C D : Int} {Mc Mm Nc Nm Zc Zm X Y M : ax_M} {r τ q : fo_R} {val : Int → Int → Int}
theorem fc_draw {n : Int} (hn : 1 ≤ n) : f_X2_draw n M = (dr_v (M 0 16) n, ax_up M 0 16 (dr_s (M 0 16))) := by
  unfold f_X2_draw
  simp only [ax_bd_e]
  rw [if_pos hn]
  show (ax_rem (ax_ushr (ax_up M 0 16 (dr_s (M 0 16)) 0 16) 16) n, _) = _
  rw [fo_up_at, fo_u_s]
  rfl
theorem fm_draws {n : Int} : f_X3_draws n M = (dr_v (M 0 35) n, ax_up M 0 35 (dr_s (M 0 35))) := by
  unfold f_X3_draws
  simp only [ax_bd_e]
  show (ax_rem (ax_ushr (ax_up M 0 35 (dr_s (M 0 35)) 0 35) 16) n, _) = _
  rw [fo_up_at, fo_u_s]
  rfl
theorem ax_ushr16 (y : Int) : 0 ≤ ax_ushr y 16 := by
  have hr : ax_r32 (ax_ushr y 16) := ax_r32_of _
  obtain ⟨n, _, e, _⟩ := fo_mask hr (fun i h1 h2 => by
    unfold fo_bit ax_ushr
    rw [ax_back, show Int32.ofInt (16 : Int) = nI 16 from fo_ofk 16 (by decide), b_ushr 16 (by decide)]
    exact b_big (by omega))
  omega
theorem dr_r {s n : Int} (hn : 1 ≤ n) : 0 ≤ dr_v s n ∧ dr_v s n < n := by
  unfold dr_v ax_rem
  have h := ax_ushr16 (dr_s s)
  rw [Int.tmod_eq_emod_of_nonneg h]
  exact ⟨Int.emod_nonneg _ (by omega), Int.emod_lt_of_pos _ (by omega)⟩
theorem pv_draw {s : Int} (h : pr_V C r τ Nc Nm) : pr_V C r τ (ax_up Nc 0 16 s) (ax_up Nm 0 35 s) := by
  obtain ⟨hB, h1, h2, h3, h4, h5, h6⟩ := h
  refine ⟨pr_B_q (cQ_0 (Or.inr rfl)) (mQ_0 (by decide)) (ax_up_ne (by decide)) (by rw [fo_up_at, fo_u_o (by decide)]) (ax_up_ne (by decide)) (by rw [fo_up_at, fo_u_o (by decide)]) (ax_up_ne (by decide)) hB, by rw [fo_cr_o (by omega)]; exact h1, by rw [ax_up_ne (by decide)]; exact h2, fun k k1 k2 => by rw [ax_up_ne (by decide)]; exact h3 k k1 k2, by rw [fo_up_at, fo_u_o (by decide)]; exact h4, by rw [fo_up_at, fo_u_o (by decide)]; exact h5, h6⟩
/-- what writes drawn leave: of the class, but for a trial; of the model -/
def dr_C (a : Nat) (M N : ax_M) : Prop := (∀ s, (s < 13 ∨ 23 < s) → s ≠ 0 → s ≠ 24 → s ≠ a → s ≠ a + 2 → N s = M s) ∧ (∀ f, f ≠ 3 → N a f = M a f) ∧ (∀ f, f ≠ 16 → N 0 f = M 0 f) ∧ cS 13 M N
def dr_M (M N : ax_M) : Prop := N 0 10 = M 0 10 ∧ N 3 = M 3 ∧ N 4 = M 4 ∧ N 0 11 = M 0 11 ∧ N 19 = M 19
theorem dr_C.tr {a : Nat} {M N O : ax_M} (h : dr_C a M N) (g : dr_C a N O) : dr_C a M O := ⟨fun s s1 s2 s3 s4 s5 => (g.1 s s1 s2 s3 s4 s5).trans (h.1 s s1 s2 s3 s4 s5), fun f hf => (g.2.1 f hf).trans (h.2.1 f hf), fun f hf => (g.2.2.1 f hf).trans (h.2.2.1 f hf), h.2.2.2.tr g.2.2.2⟩
theorem dr_M.tr {M N O : ax_M} (h : dr_M M N) (g : dr_M N O) : dr_M M O := ⟨g.1.trans h.1, g.2.1.trans h.2.1, g.2.2.1.trans h.2.2.1, g.2.2.2.1.trans h.2.2.2.1, g.2.2.2.2.trans h.2.2.2.2⟩
theorem dr_C_16 {a : Nat} {v : Int} (ha : a = 28 ∨ a = 31) : dr_C a M (ax_up M 0 16 v) := ⟨fun s _ s0 _ _ _ => ax_up_ne s0, fun f _ => by rw [ax_up_ne (by omega)], fun f hf => by rw [fo_up_at, fo_u_o hf], cS.e (ax_up_ne (by decide))⟩
theorem dr_M_35 {v : Int} : dr_M M (ax_up M 0 35 v) := ⟨by rw [fo_up_at, fo_u_o (by decide)], ax_up_ne (by decide), ax_up_ne (by decide), by rw [fo_up_at, fo_u_o (by decide)], ax_up_ne (by decide)⟩
theorem dr_Wv {a : Nat} {ev : fo_R → Int} (ha : a = 28 ∨ a = 31) (h : dr_C a M Nc) (hw : fo_Wv a 13 ev M) : fo_Wv a 13 ev Nc := fun O h1 h2 => hw O (by rw [h1, h.2.1 1 (by decide)]) (by rw [h2, h.1 (a + 1) (by omega) (by omega) (by omega) (by omega) (by omega)])
theorem dr_Wm {ev : fo_R → Int} (h : dr_M M Nm) (hw : fo_Wm ev M) : fo_Wm ev Nm := fun O h1 h2 => hw O (by rw [h1, h.1]) (by rw [h2, h.2.1])
def dq (C : Int) (r : fo_R) (a : Nat) (Nc Nm : ax_M) (A B : Prop × ax_M) : Prop := A.1 ∧ B.1 ∧ (∃ τ', pr_V C r τ' A.2 B.2) ∧ dr_C a Nc A.2 ∧ dr_M Nm B.2
/-- one write drawn, page by k -/
theorem pq_drawn1 {a n : Nat} {w w' : Int} {ev : fo_R → Int} (ha : a = 28 ∨ a = 31) {s k : Int} {N1 P1 : ax_M} {F G : ax_M → Prop × ax_M} (k1 : 1 ≤ k) (k2 : k ≤ 24) (hV1 : pr_V C r τ N1 P1) (c1 : N1 0 16 = s) (c2 : P1 0 35 = s) (g1 : dr_C a Nc N1) (g2 : dr_M Nm P1) (hclk : τ 270 + 1 < 2147483647) (hwc : fo_Wv a 13 ev Nc) (hwm : fo_Wm ev Nm)
    (hF : ∀ (τ' : fo_R) (X Y : ax_M), pr_V C r τ' X Y → X 0 16 = Y 0 35 → τ' 270 = τ 270 + 1 → dr_C a Nc X → dr_M Nm Y → dq C r a Nc Nm (F X) (G Y)) :
    dq C r a Nc Nm (ax_rc (f_X0_write 13 (f_X2_draw k N1).1 (f_X2_draw 100 (f_X2_draw k N1).2).1 (a : Int) (f_X2_draw 100 (f_X2_draw k N1).2).2) (fun y7 => F y7.2))
      (ax_rq ((0 ≤ (f_X3_draws k P1).1 ∧ (f_X3_draws k P1).1 ≤ 23)) (ax_rc (f_X3_writesOne 8 (f_X3_draws k P1).1 (f_X3_draws 100 (f_X3_draws k P1).2).1 (f_X3_draws 100 (f_X3_draws k P1).2).2) (fun y8 => G y8.2))) := by
  rw [fc_draw k1, fm_draws, c1, c2]
  dsimp only
  have hV2 := pv_draw (s := dr_s s) hV1
  have c3 : ax_up N1 0 16 (dr_s s) 0 16 = dr_s s := by rw [fo_up_at, fo_u_s]
  have c4 : ax_up P1 0 35 (dr_s s) 0 35 = dr_s s := by rw [fo_up_at, fo_u_s]
  have g3 := g1.tr (dr_C_16 (v := dr_s s) ha)
  have g4 := g2.tr (dr_M_35 (v := dr_s s))
  generalize ax_up N1 0 16 (dr_s s) = N2 at hV2 c3 g3 ⊢
  generalize ax_up P1 0 35 (dr_s s) = P2 at hV2 c4 g4 ⊢
  rw [fc_draw (by decide), fm_draws, c3, c4]
  dsimp only
  have hV3 := pv_draw (s := dr_s (dr_s s)) hV2
  have c5 : ax_up N2 0 16 (dr_s (dr_s s)) 0 16 = dr_s (dr_s s) := by rw [fo_up_at, fo_u_s]
  have c6 : ax_up P2 0 35 (dr_s (dr_s s)) 0 35 = dr_s (dr_s s) := by rw [fo_up_at, fo_u_s]
  have g5 := g3.tr (dr_C_16 (v := dr_s (dr_s s)) ha)
  have g6 := g4.tr (dr_M_35 (v := dr_s (dr_s s)))
  generalize ax_up N2 0 16 (dr_s (dr_s s)) = N3 at hV3 c5 g5 ⊢
  generalize ax_up P2 0 35 (dr_s (dr_s s)) = P3 at hV3 c6 g6 ⊢
  have r1 := dr_r (s := s) k1
  have r2 := dr_r (s := dr_s s) (n := 100) (by decide)
  generalize dr_v (dr_s s) 100 = v at r2 ⊢
  obtain ⟨p, ep⟩ : ∃ p : Nat, dr_v s k = (p : Int) := ⟨(dr_v s k).toNat, by omega⟩
  rw [ep] at r1 ⊢
  obtain ⟨a1, a2, a3, a4, _, _, a7, _, _, a10⟩ := pv_write (v := v) ha (show p < 24 by omega) r2 (by omega) (dr_Wv ha g5 hwc) (dr_Wm g6 hwm) hV3
  obtain ⟨_, i2, _⟩ := fo_write_ok (ev := ev) (v := v) (show p < 24 by omega) hV3.2.2.2.2.2.2
  have hlen := lq_write (ev := ev) (v := v) (show p < 24 by omega) hV3.2.2.2.2.2.2
  generalize f_X0_write 13 (p : Int) v (a : Int) N3 = X at a1 a3 a4 a7 ⊢
  generalize f_X3_writesOne 8 (p : Int) v P3 = Y at a2 a3 a10 ⊢
  have g7 : dr_C a Nc X.2.2 := g5.tr ⟨fun s s1 s2 s3 s4 s5 => a4.1 s (by omega) s3 s4 s5, a4.2.1, fun f _ => by rw [a4.1 0 (by omega) (by omega) (by omega) (by omega)], cS.w (a4.2.2 12 (by omega)) (by rw [a7]; omega) (by rw [a7]; omega)⟩
  have g8 : dr_M Nm Y.2.2 := g6.tr ⟨a10.1, a10.2.1, a10.2.2.2.1, a10.2.2.2.2.1, a10.2.2.2.2.2⟩
  obtain ⟨z1, z2, z3, z4, z5⟩ := hF _ X.2.2 Y.2.2 a3 (by rw [a4.1 0 (by omega) (by omega) (by omega) (by omega), c5, a10.2.2.1, c6]) i2 g7 g8
  exact ⟨⟨a1, z1⟩, ⟨⟨by omega, by omega⟩, a2, z2⟩, z3, z4, z5⟩
theorem pq_drawnL {a : Nat} {w w' : Int} {ev : fo_R → Int} {Nc Nm : ax_M} (ha : a = 28 ∨ a = 31) (hwc : fo_Wv a 13 ev Nc) (hwm : fo_Wm ev Nm) : ∀ (n i : Nat) (τ : fo_R) (X Y : ax_M), pr_V C r τ X Y → X 0 16 = Y 0 35 → τ 270 + (n : Int) < 2147483647 → dr_C a Nc X → dr_M Nm Y →
    dq C r a Nc Nm (f_X2_tryYears_L12 (a : Int) w n (i : Int) X (fun M11 => (True, M11))) (f_X3_drawnWrites_L11 w' n (i : Int) Y (fun M13 => (True, M13))) := by
  intro n
  induction n with
  | zero => intro i τ X Y hV _ _ g1 g2; exact ⟨trivial, trivial, ⟨τ, hV⟩, g1, g2⟩
  | succ n ih =>
    intro i τ X Y hV he hclk g1 g2
    have fin : ∀ (τ' : fo_R) (X' Y' : ax_M), pr_V C r τ' X' Y' → X' 0 16 = Y' 0 35 → τ' 270 = τ 270 + 1 → dr_C a Nc X' → dr_M Nm Y' → dq C r a Nc Nm (f_X2_tryYears_L12 (a : Int) w n ((i : Int) + 1) X' (fun M11 => (True, M11))) (f_X3_drawnWrites_L11 w' n ((i : Int) + 1) Y' (fun M13 => (True, M13))) := fun τ' X' Y' q1 q2 q3 q4 q5 => by
      rw [show (i : Int) + 1 = ((i + 1 : Nat) : Int) by omega]
      exact ih (i + 1) τ' X' Y' q1 q2 (by omega) q4 q5
    obtain ⟨s, hs⟩ : ∃ s, Y 0 35 = s := ⟨_, rfl⟩
    rw [hs] at he
    have hV1 := pv_draw (s := dr_s s) hV
    have c1 : ax_up X 0 16 (dr_s s) 0 16 = dr_s s := by rw [fo_up_at, fo_u_s]
    have c2 : ax_up Y 0 35 (dr_s s) 0 35 = dr_s s := by rw [fo_up_at, fo_u_s]
    have g3 := g1.tr (dr_C_16 (v := dr_s s) ha)
    have g4 := g2.tr (dr_M_35 (v := dr_s s))
    have d1 : f_X2_draw 4 X = (dr_v s 4, ax_up X 0 16 (dr_s s)) := by rw [fc_draw (by decide), he]
    have d2 : f_X3_draws 4 Y = (dr_v s 4, ax_up Y 0 35 (dr_s s)) := by rw [fm_draws, hs]
    generalize ax_up X 0 16 (dr_s s) = N1 at hV1 c1 g3 d1
    generalize ax_up Y 0 35 (dr_s s) = P1 at hV1 c2 g4 d2
    rw [f_X2_tryYears_L12, f_X3_drawnWrites_L11]
    unfold f_X2_tryYears_B12 f_X3_drawnWrites_B11
    rw [d1, d2]
    have t1 := pq_drawn1 (n := n) (w := w) (w' := w') (ev := ev) (F := fun M9 => f_X2_tryYears_L12 (a : Int) w n ((i : Int) + 1) M9 (fun M11 => (True, M11))) (G := fun M9 => f_X3_drawnWrites_L11 w' n ((i : Int) + 1) M9 (fun M13 => (True, M13))) ha (k := 4) (by decide) (by decide) hV1 c1 c2 g3 g4 (by omega) hwc hwm fin
    have t2 := pq_drawn1 (n := n) (w := w) (w' := w') (ev := ev) (F := fun M9 => f_X2_tryYears_L12 (a : Int) w n ((i : Int) + 1) M9 (fun M11 => (True, M11))) (G := fun M9 => f_X3_drawnWrites_L11 w' n ((i : Int) + 1) M9 (fun M13 => (True, M13))) ha (k := 24) (by decide) (by decide) hV1 c1 c2 g3 g4 (by omega) hwc hwm fin
    simp only [ax_bd_e]
    by_cases h3 : 3 ≤ dr_v s 4
    · rw [if_pos h3, if_pos h3]
      exact t1
    · rw [if_neg h3, if_neg h3]
      exact t2
/-- drawn writes from what is now -/
theorem pq_drawn {a : Nat} {seed n : Int} {ev : fo_R → Int} (hC : C < 2147480000) (ha : a = 28 ∨ a = 31) (hn : 0 ≤ n ∧ n ≤ 60) (hB : pr_B C r Nc Nm) (hwc : fo_Wv a 13 ev Nc) (hwm : fo_Wm ev Nm) :
    (f_X2_tryYears seed n (a : Int) Nc).1 ∧ (f_X3_drawnWrites seed n Nm).1 ∧ (∃ τ', pr_V C r τ' (f_X2_tryYears seed n (a : Int) Nc).2 (f_X3_drawnWrites seed n Nm).2) ∧
    dr_C a Nc (f_X2_tryYears seed n (a : Int) Nc).2 ∧ dr_M Nm (f_X3_drawnWrites seed n Nm).2 := by
  have hB' : pr_B C r Nc (ax_up Nm 0 35 seed) := pr_B_q cQ.rf (mQ_0 (by decide)) rfl rfl rfl (by rw [fo_up_at, fo_u_o (by decide)]) (ax_up_ne (by decide)) hB
  have hV := pv_begin hB'
  have h270 := hB.1.1.1.2.1.2
  rw [hB.2.1] at h270
  have hbt : ∀ t, (t ≤ 13 ∨ 23 < t) → f_X2_beginTrial Nc t = Nc t := fun t ht => bt_o hB.1.1.2.1 ht
  obtain ⟨m1, m2, m3, _, _⟩ := fm_copiesAll (M := ax_up Nm 0 35 seed) (fun j hj => by rw [hB'.1.1.1.2.2.2.2 j hj, pr_7hi hB'.1.1.1 j hj])
  unfold f_X2_tryYears f_X3_drawnWrites
  simp only [ax_bd_e]
  generalize f_X2_beginTrial Nc = T at hV hbt ⊢
  have e35 : f_X3_copiesAll (ax_up Nm 0 35 seed) 0 35 = seed := by rw [m3 35 (by decide) (by decide), fo_up_at, fo_u_s]
  have gm : dr_M Nm (f_X3_copiesAll (ax_up Nm 0 35 seed)) := ⟨by rw [m3 10 (by decide) (by decide), fo_up_at, fo_u_o (by decide)], by rw [m2 3 (by decide) (by decide), ax_up_ne (by decide)], by rw [m2 4 (by decide) (by decide), ax_up_ne (by decide)], by rw [m3 11 (by decide) (by decide), fo_up_at, fo_u_o (by decide)], by rw [m2 19 (by decide) (by decide), ax_up_ne (by decide)]⟩
  generalize f_X3_copiesAll (ax_up Nm 0 35 seed) = S at hV e35 gm ⊢
  have hV' : pr_V C r r (ax_up T 0 16 seed) S := by
    obtain ⟨hB2, h1, h2, h3, h4, h5, h6⟩ := hV
    exact ⟨pr_B_q (cQ_0 (Or.inr rfl)) mQ.rf (ax_up_ne (by decide)) (by rw [fo_up_at, fo_u_o (by decide)]) (ax_up_ne (by decide)) rfl rfl hB2, by rw [fo_cr_o (by omega)]; exact h1, h2, fun k k1 k2 => by rw [ax_up_ne (by decide)]; exact h3 k k1 k2, h4, h5, h6⟩
  have gc : dr_C a Nc (ax_up T 0 16 seed) := ⟨fun s s1 s0 s2 s3 s4 => by
      rw [ax_up_ne s0]
      exact hbt s (by omega), fun f _ => by rw [ax_up_ne (by omega), hbt a (by omega)], fun f hf => by rw [fo_up_at, fo_u_o hf, hbt 0 (by omega)], cS.e (by rw [ax_up_ne (by decide)]; exact hbt 13 (by omega))⟩
  exact pq_drawnL (w := n) (w' := n) (ev := ev) ha hwc hwm (n - 0).toNat 0 r (ax_up T 0 16 seed) S hV' (by rw [fo_up_at, fo_u_s, e35]) (by omega) gc gm
theorem pq_years {seed n : Int} (hC : C < 2000000000) (h : pr_G C Mc Mm) : pq C (f_X2_years seed n Mc) (f_X3_years seed n Mm) := by
  have hG := h.th (x := 0)
  have hB := pb_B hG
  have e7 : ax_up Mm 0 0 0 7 = Mm 7 := ax_up_ne (by decide)
  rw [e7] at hB
  unfold f_X2_years f_X3_years
  simp only [ax_bd_e]
  rw [fm_inE]
  by_cases hn : 1 ≤ n ∧ n ≤ 60
  · rw [if_neg (show ¬ (n < 1) by omega), if_pos hn.2, if_pos hn, if_pos (show (1 : Int) ≠ 0 by decide)]
    generalize f_X2_begin Mc = Nc at hB ⊢
    generalize ax_up Mm 0 0 0 = Nm at hB ⊢
    obtain ⟨a, cs, ha, ea, hwc, hwm⟩ := pr_R.ev (hB.1.1.2.2.2.2.2 hC)
    rw [ea]
    obtain ⟨z1, z2, ⟨τ, z3⟩, _, _⟩ := pq_drawn (seed := seed) (n := n) (by omega) ha (by omega) hB (hwc 13 (by omega)) hwm
    refine pq_lc z1 ?_
    refine pq_rc z2 ?_
    generalize f_X2_tryYears seed n (a : Int) Nc = X at z1 z3 ⊢
    generalize f_X3_drawnWrites seed n Nm = Y at z2 z3 ⊢
    have s0 := vs_anew z3.1.1.1 z3.1.2.1
    have hPg : fo_Pg τ := z3.2.2.2.2.2.2.2.1.pg
    unfold pq ax_rc
    dsimp only
    generalize f_X2_tellAnew X.2 = Z0 at s0 ⊢
    generalize ax_up Y.2 0 1 0 = W0 at s0 ⊢
    rw [show f_X0_since 13 3 Z0 = ax_wr (τ 266 - Mm 7 266) from vs_since (k := 3) z3 s0 (by decide) (by decide), (vs_m z3 s0).1, (vs_m z3 s0).2.2.1]
    obtain ⟨q1, s1⟩ := vs_tell (x := ax_wr (τ 266 - Mm 7 266)) s0 (by decide)
    generalize f_X2_tell (ax_wr (τ 266 - Mm 7 266)) Z0 = Z1 at s1 ⊢
    generalize f_X3_enters (ax_wr (τ 266 - Mm 7 266)) W0 = y1 at q1 s1 ⊢
    rw [show f_X0_since 13 6 Z1 = ax_wr (τ 269 - Mm 7 269) from vs_since (k := 6) z3 s1 (by decide) (by decide), (vs_m z3 s1).1, (vs_m z3 s1).2.2.2]
    obtain ⟨q2, s2⟩ := vs_tell (x := ax_wr (τ 269 - Mm 7 269)) s1 (by decide)
    generalize f_X2_tell (ax_wr (τ 269 - Mm 7 269)) Z1 = Z2 at s2 ⊢
    generalize f_X3_enters (ax_wr (τ 269 - Mm 7 269)) y1.2 = y2 at q2 s2 ⊢
    rw [show f_X0_sumOfLeaves 13 Z2 = f_X3_sumOf 8 y2.2 from pf_sum (by rw [(vs_m z3 s2).1, ← z3.2.1]; exact fo_cr_same (fun k k1 k2 => s2.2.1 _ (by omega) (by omega))) (by rw [(vs_m z3 s2).1]; exact hPg)]
    obtain ⟨q3, s3⟩ := vs_tell (x := f_X3_sumOf 8 y2.2) s2 (by decide)
    generalize f_X2_tell (f_X3_sumOf 8 y2.2) Z2 = Z3 at s3 ⊢
    generalize f_X3_enters (f_X3_sumOf 8 y2.2) y2.2 = y3 at q3 s3 ⊢
    rw [show f_X0_since 13 2 Z3 = ax_wr (τ 265 - Mm 7 265) from vs_since (k := 2) z3 s3 (by decide) (by decide), (vs_m z3 s3).1, (vs_m z3 s3).2.1]
    exact ⟨trivial, ⟨q1, q2, q3, trivial⟩, rfl, s3.1.g⟩
  · rw [if_neg hn, if_neg (show ¬ ((0 : Int) ≠ 0) by decide)]
    by_cases h3 : n < 1
    · rw [if_pos h3]
      exact ⟨trivial, trivial, rfl, hG⟩
    · rw [if_neg h3, if_neg (by omega)]
      exact ⟨trivial, trivial, rfl, hG⟩
theorem pq_hotL {r : fo_R} (hc : fo_cr 1 Nc = r) (hm : Nm 7 = r) {kc : Int → Int → Int × ax_M} {km : Int → Int → Prop × Int × ax_M} : ∀ (n i : Nat) (v1 : Int) (v2 : Nat), i + n = 24 → v2 < 24 →
    ∃ (w1 : Int) (w2 : Nat), w2 < 24 ∧ f_X2_hot_L6 Nc n i v1 (v2 : Int) kc = kc w1 (w2 : Int) ∧ f_X3_hot_L11 Nm n i v1 (v2 : Int) km = km w1 (w2 : Int) := by
  intro n
  induction n with
  | zero => intro i v1 v2 _ h2; exact ⟨v1, v2, h2, rfl, rfl⟩
  | succ n ih =>
    intro i v1 v2 hi h2
    simp only [f_X2_hot_L6, f_X2_hot_B6, f_X3_hot_L11, f_X3_hot_B11, ax_bd_e]
    rw [fc_isHot (by omega), hc, fm_isHot, hm, fo_t240, fo_t240, fo_t0, show Nc 8 i = r (240 + i) from fr_ht (b := 1) hc (by omega), show Nc 8 v2 = r (240 + v2) from fr_ht (b := 1) hc h2]
    by_cases hh : fo_hot r i = true
    · rw [if_pos hh, if_neg (show ¬ ((1 : Int) = 0) by decide), if_neg (show ¬ ((1 : Int) = 0) by decide)]
      by_cases hle : r (240 + i) ≤ r (240 + v2)
      · rw [if_pos hle, if_pos hle]
        exact ih (i + 1) _ v2 (by omega) h2
      · rw [if_neg hle, if_neg hle]
        exact ih (i + 1) _ i (by omega) (by omega)
    · rw [if_neg hh, if_pos rfl, if_pos rfl]
      by_cases hle : r (240 + i) ≤ r (240 + v2)
      · rw [if_pos hle, if_pos hle]
        exact ih (i + 1) _ v2 (by omega) h2
      · rw [if_neg hle, if_neg hle]
        exact ih (i + 1) _ i (by omega) (by omega)
theorem pq_hot (h : pr_G C Mc Mm) : pq C (True, f_X2_hot Mc) (f_X3_hot Mm) := by
  have e7 : ax_up Mm 0 0 0 7 = Mm 7 := ax_up_ne (by decide)
  unfold f_X2_hot f_X3_hot
  simp only [ax_bd_e]
  obtain ⟨w1, w2, hw, e1, e2⟩ := pq_hotL (Nc := Mc) (Nm := ax_up Mm 0 0 0) h.c e7 (kc := fun z7 z8 => (z7, f_X2_tell (f_X2_tell z8 (f_X2_tell (f_J_bitCount z7 (f_X2_tellAnew Mc)) (f_X2_tellAnew Mc)) 8 z8.toNat) (f_X2_tell z8 (f_X2_tell (f_J_bitCount z7 (f_X2_tellAnew Mc)) (f_X2_tellAnew Mc)))))
    (km := fun z8 z9 => ax_rc (f_X3_enters (f_J_bitCount z8 (ax_up (ax_up Mm 0 0 0) 0 1 0)) (ax_up (ax_up Mm 0 0 0) 0 1 0)) (fun M12 => ax_rc (f_X3_enters z9 M12) (fun M13 => ax_rc (f_X3_enters (M13 7 (240 + z9).toNat) M13) (fun M14 => (True, (z8, M14)))))) 24 0 0 0 rfl (by decide)
  have e1' : f_X2_hot_L6 Mc 24 0 0 0 _ = _ := e1
  have e2' : f_X3_hot_L11 (ax_up Mm 0 0 0) 24 0 0 0 _ = _ := e2
  rw [e1', e2']
  have s0 := h.a
  rw [show f_J_bitCount w1 (f_X2_tellAnew Mc) = f_J_bitCount w1 (ax_up (ax_up Mm 0 0 0) 0 1 0) from rfl]
  generalize f_J_bitCount w1 (ax_up (ax_up Mm 0 0 0) 0 1 0) = bb
  unfold pq ax_rc
  dsimp only
  rw [fo_t240, fo_t0]
  generalize f_X2_tellAnew Mc = Z0 at s0 ⊢
  generalize ax_up (ax_up Mm 0 0 0) 0 1 0 = W0 at s0 ⊢
  generalize Mm 7 = r at s0
  obtain ⟨q1, s1⟩ := ps_tell (x := bb) s0 (by decide)
  generalize f_X2_tell (bb) Z0 = Z1 at s1 ⊢
  generalize f_X3_enters (bb) W0 = y1 at q1 s1 ⊢
  obtain ⟨q2, s2⟩ := ps_tell (x := (w2 : Int)) s1 (by decide)
  generalize f_X2_tell ((w2 : Int)) Z1 = Z2 at s2 ⊢
  generalize f_X3_enters ((w2 : Int)) y1.2 = y2 at q2 s2 ⊢
  rw [show Z2 8 w2 = r (240 + w2) from fr_ht (b := 1) s2.c hw, s2.m]
  obtain ⟨q3, s3⟩ := ps_tell (x := r (240 + w2)) s2 (by decide)
  generalize f_X2_tell (r (240 + w2)) Z2 = Z3 at s3 ⊢
  generalize f_X3_enters (r (240 + w2)) y2.2 = y3 at q3 s3 ⊢
  exact ⟨trivial, ⟨q1, q2, q3, trivial⟩, rfl, s3.g⟩
end PRY
