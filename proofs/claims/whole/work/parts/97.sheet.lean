/-! ===== sign, sheet, side by side ===== -/
theorem and255 (a : Int) : 0 ≤ ax_and a 255 ∧ ax_and a 255 ≤ 255 := by
  unfold ax_and
  have h : (Int32.ofInt a &&& Int32.ofInt 255).toBitVec.toNat ≤ 255 := by
    rw [Int32.toBitVec_and, BitVec.toNat_and]
    exact Nat.le_trans Nat.and_le_right (by decide)
  rw [show (Int32.ofInt a &&& Int32.ofInt 255).toInt = (Int32.ofInt a &&& Int32.ofInt 255).toBitVec.toInt from rfl, BitVec.toInt_eq_toNat_cond, if_pos (by omega)]
  omega
theorem i2c_255 : ∀ k : Nat, k < 256 → ax_i2c (k : Int) = (k : Int) := by decide +kernel
theorem sg_byte {k : Nat} (hk : k ≤ 24) (x : Int) : ax_i2c (ax_and (ax_ushr x (k : Int)) 255) = ax_and (ax_shr x (k : Int)) 255 := by
  have e : ax_and (ax_ushr x (k : Int)) 255 = ax_and (ax_shr x (k : Int)) 255 := by
    refine fo_bit_ext (fo_and_r _ _) (fo_and_r _ _) (fun f hf => ?_)
    rw [fo_bit_and, fo_bit_and]
    have e8 : fo_bit 255 f = decide (f < 8) := b_255 f
    rw [e8]
    by_cases h8 : f < 8
    · have e1 : fo_bit (ax_ushr x (k : Int)) f = bt (Int32.ofInt x) (k + f) := by
        unfold fo_bit ax_ushr
        rw [ax_back, fo_ofk k (by omega), b_ushr k (by omega)]
      have e2 : fo_bit (ax_shr x (k : Int)) f = bt (Int32.ofInt x) (k + f) := by
        unfold fo_bit ax_shr
        rw [ax_back, fo_ofk k (by omega), b_sshr k (by omega) _ hf, if_pos (by omega)]
      rw [e1, e2]
    · rw [decide_eq_false h8, Bool.and_false, Bool.and_false]
  rw [e]
  have r := and255 (ax_shr x (k : Int))
  generalize ax_and (ax_shr x (k : Int)) 255 = v at r
  obtain ⟨n, rfl⟩ : ∃ n : Nat, v = (n : Int) := ⟨v.toNat, by omega⟩
  exact i2c_255 n (by omega)
section PRS
variable {C D : Int} {Mc Mm Nc Nm Zc Zm X Y M : ax_M} {r q : fo_R}
theorem pq_lq {c : Prop} {A B : Prop × Int × ax_M} (hc : c) (h : pq C A B) : pq C (ax_rq c A) B := ⟨⟨hc, h.1⟩, h.2.1, h.2.2.1, h.2.2.2⟩
theorem pq_sign {x : Int} (h : pr_G C Mc Mm) : pq C (f_X2_sign x Mc) (f_X3_sign x Mm) := by
  have hG := h.th (x := 0)
  obtain ⟨⟨hN, hP, hK, hH, hX, hR⟩, hT⟩ := h
  obtain ⟨x1, x2, x3, x4⟩ := hX
  obtain ⟨t, et⟩ : ∃ t : Nat, Mm 0 4 = (t : Int) := ⟨(Mm 0 4).toNat, by omega⟩
  have c10 : Mc 0 10 = (t : Int) := by rw [x1, et]
  have m4 : ax_up Mm 0 0 0 0 4 = (t : Int) := by rw [fo_up_at, fo_u_o (by decide), et]
  unfold f_X2_sign f_X3_sign
  simp only [ax_bd_e]
  by_cases ht : t ≤ 76
  · rw [c10, m4, if_pos (by omega), if_pos (by omega)]
    have w0 : ax_i2c (ax_and (ax_ushr x 24) 255) = ax_and (ax_shr x 24) 255 := sg_byte (k := 24) (by decide) x
    have w1 : ax_i2c (ax_and (ax_ushr x 16) 255) = ax_and (ax_shr x 16) 255 := sg_byte (k := 16) (by decide) x
    have w2 : ax_i2c (ax_and (ax_ushr x 8) 255) = ax_and (ax_shr x 8) 255 := sg_byte (k := 8) (by decide) x
    have w3 : ax_i2c (ax_and (ax_ushr x 0) 255) = ax_and (ax_shr x 0) 255 := sg_byte (k := 0) (by decide) x
    have r0 := and255 (ax_shr x 24)
    have r1 := and255 (ax_shr x 16)
    have r2 := and255 (ax_shr x 8)
    have r3 := and255 (ax_shr x 0)
    simp only [f_X3_sign_L18, f_X3_sign_B18, ax_bd_e]
    rw [show (24 - (8 * ((0 : Nat) : Int))) = 24 from rfl, show (24 - (8 * ((0 + 1 : Nat) : Int))) = 16 from rfl, show (24 - (8 * ((0 + 1 + 1 : Nat) : Int))) = 8 from rfl, show (24 - (8 * ((0 + 1 + 1 + 1 : Nat) : Int))) = 0 from rfl]
    rw [w0, w1, w2, w3]
    clear w0 w1 w2 w3
    generalize ax_and (ax_shr x 24) 255 = B0 at r0 ⊢
    generalize ax_and (ax_shr x 16) 255 = B1 at r1 ⊢
    generalize ax_and (ax_shr x 8) 255 = B2 at r2 ⊢
    generalize ax_and (ax_shr x 0) 255 = B3 at r3 ⊢
    -- the class
    rw [fo_t0]
    have p0a : ax_up Mc 34 t B0 0 10 = (t : Int) := by rw [ax_up_ne (by decide), c10]
    rw [p0a]
    clear p0a
    rw [show (t : Int) + 1 = ((t + 1 : Nat) : Int) by omega]
    refine pq_lq (by omega) (pq_lq (by omega) (pq_lq (by omega) ?_))
    have c1 : ax_up (ax_up Mc 34 t B0) 0 10 ((t + 1 : Nat) : Int) 0 10 = ((t + 1 : Nat) : Int) := by rw [fo_up_at, fo_u_s]
    have f1 : ∀ s, s ≠ 0 → s ≠ 34 → ax_up (ax_up Mc 34 t B0) 0 10 ((t + 1 : Nat) : Int) s = Mc s := fun s s0 s1 => by rw [ax_up_ne s0, ax_up_ne s1]
    have g1 : ∀ f, f ≠ 10 → ax_up (ax_up Mc 34 t B0) 0 10 ((t + 1 : Nat) : Int) 0 f = Mc 0 f := fun f f0 => by rw [fo_up_at, fo_u_o f0, ax_up_ne (by decide)]
    have k1 : ∀ j, ax_up (ax_up Mc 34 t B0) 0 10 ((t + 1 : Nat) : Int) 34 j = if j = t then B0 else Mc 34 j := fun j => by rw [ax_up_ne (by decide), fo_up_at, fo_u_eq]
    generalize ax_up (ax_up Mc 34 t B0) 0 10 ((t + 1 : Nat) : Int) = N1 at c1 f1 g1 k1 ⊢
    rw [c1, fo_t0]
    have p1a : ax_up N1 34 (t + 1) B1 0 10 = ((t + 1 : Nat) : Int) := by rw [ax_up_ne (by decide), c1]
    rw [p1a]
    clear p1a
    rw [show ((t + 1 : Nat) : Int) + 1 = ((t + 2 : Nat) : Int) by omega]
    refine pq_lq (by omega) (pq_lq (by omega) (pq_lq (by omega) ?_))
    have c2 : ax_up (ax_up N1 34 (t + 1) B1) 0 10 ((t + 2 : Nat) : Int) 0 10 = ((t + 2 : Nat) : Int) := by rw [fo_up_at, fo_u_s]
    have f2 : ∀ s, s ≠ 0 → s ≠ 34 → ax_up (ax_up N1 34 (t + 1) B1) 0 10 ((t + 2 : Nat) : Int) s = Mc s := fun s s0 s1 => by rw [ax_up_ne s0, ax_up_ne s1, f1 s s0 s1]
    have g2 : ∀ f, f ≠ 10 → ax_up (ax_up N1 34 (t + 1) B1) 0 10 ((t + 2 : Nat) : Int) 0 f = Mc 0 f := fun f f0 => by rw [fo_up_at, fo_u_o f0, ax_up_ne (by decide), g1 f f0]
    have k2 : ∀ j, ax_up (ax_up N1 34 (t + 1) B1) 0 10 ((t + 2 : Nat) : Int) 34 j = if j = t + 1 then B1 else N1 34 j := fun j => by rw [ax_up_ne (by decide), fo_up_at, fo_u_eq]
    generalize ax_up (ax_up N1 34 (t + 1) B1) 0 10 ((t + 2 : Nat) : Int) = N2 at c2 f2 g2 k2 ⊢
    rw [c2, fo_t0]
    have p2a : ax_up N2 34 (t + 2) B2 0 10 = ((t + 2 : Nat) : Int) := by rw [ax_up_ne (by decide), c2]
    rw [p2a]
    clear p2a
    rw [show ((t + 2 : Nat) : Int) + 1 = ((t + 3 : Nat) : Int) by omega]
    refine pq_lq (by omega) (pq_lq (by omega) (pq_lq (by omega) ?_))
    have c3 : ax_up (ax_up N2 34 (t + 2) B2) 0 10 ((t + 3 : Nat) : Int) 0 10 = ((t + 3 : Nat) : Int) := by rw [fo_up_at, fo_u_s]
    have f3 : ∀ s, s ≠ 0 → s ≠ 34 → ax_up (ax_up N2 34 (t + 2) B2) 0 10 ((t + 3 : Nat) : Int) s = Mc s := fun s s0 s1 => by rw [ax_up_ne s0, ax_up_ne s1, f2 s s0 s1]
    have g3 : ∀ f, f ≠ 10 → ax_up (ax_up N2 34 (t + 2) B2) 0 10 ((t + 3 : Nat) : Int) 0 f = Mc 0 f := fun f f0 => by rw [fo_up_at, fo_u_o f0, ax_up_ne (by decide), g2 f f0]
    have k3 : ∀ j, ax_up (ax_up N2 34 (t + 2) B2) 0 10 ((t + 3 : Nat) : Int) 34 j = if j = t + 2 then B2 else N2 34 j := fun j => by rw [ax_up_ne (by decide), fo_up_at, fo_u_eq]
    generalize ax_up (ax_up N2 34 (t + 2) B2) 0 10 ((t + 3 : Nat) : Int) = N3 at c3 f3 g3 k3 ⊢
    rw [c3, fo_t0]
    have p3a : ax_up N3 34 (t + 3) B3 0 10 = ((t + 3 : Nat) : Int) := by rw [ax_up_ne (by decide), c3]
    rw [p3a]
    clear p3a
    rw [show ((t + 3 : Nat) : Int) + 1 = ((t + 4 : Nat) : Int) by omega]
    refine pq_lq (by omega) (pq_lq (by omega) (pq_lq (by omega) ?_))
    have c4 : ax_up (ax_up N3 34 (t + 3) B3) 0 10 ((t + 4 : Nat) : Int) 0 10 = ((t + 4 : Nat) : Int) := by rw [fo_up_at, fo_u_s]
    have f4 : ∀ s, s ≠ 0 → s ≠ 34 → ax_up (ax_up N3 34 (t + 3) B3) 0 10 ((t + 4 : Nat) : Int) s = Mc s := fun s s0 s1 => by rw [ax_up_ne s0, ax_up_ne s1, f3 s s0 s1]
    have g4 : ∀ f, f ≠ 10 → ax_up (ax_up N3 34 (t + 3) B3) 0 10 ((t + 4 : Nat) : Int) 0 f = Mc 0 f := fun f f0 => by rw [fo_up_at, fo_u_o f0, ax_up_ne (by decide), g3 f f0]
    have k4 : ∀ j, ax_up (ax_up N3 34 (t + 3) B3) 0 10 ((t + 4 : Nat) : Int) 34 j = if j = t + 3 then B3 else N3 34 j := fun j => by rw [ax_up_ne (by decide), fo_up_at, fo_u_eq]
    generalize ax_up (ax_up N3 34 (t + 3) B3) 0 10 ((t + 4 : Nat) : Int) = N4 at c4 f4 g4 k4 ⊢
    -- the model
    have n0 : ax_up Mm 0 0 0 0 4 = (t : Int) := m4
    clear m4
    generalize hP0 : ax_up Mm 0 0 0 = P0 at n0 ⊢
    rw [n0, show (t : Int) + ((0 : Nat) : Int) = (t : Int) by omega, fo_t0]
    refine pq_rq (by omega) ?_
    have n1 : ax_up P0 2 t B0 0 4 = (t : Int) := by rw [ax_up_ne (by decide), n0]
    have h1 : ∀ s, s ≠ 2 → ax_up P0 2 t B0 s = P0 s := fun s s0 => by rw [ax_up_ne s0]
    have i1 : ∀ j, ax_up P0 2 t B0 2 j = if j = t then B0 else P0 2 j := fun j => by rw [fo_up_at, fo_u_eq]
    generalize ax_up P0 2 t B0 = P1 at n1 h1 i1 ⊢
    rw [n1, show (t : Int) + ((0 + 1 : Nat) : Int) = ((t + 1 : Nat) : Int) by omega, fo_t0]
    refine pq_rq (by omega) ?_
    have n2 : ax_up P1 2 (t + 1) B1 0 4 = (t : Int) := by rw [ax_up_ne (by decide), n1]
    have h2 : ∀ s, s ≠ 2 → ax_up P1 2 (t + 1) B1 s = P0 s := fun s s0 => by rw [ax_up_ne s0, h1 s s0]
    have i2 : ∀ j, ax_up P1 2 (t + 1) B1 2 j = if j = t + 1 then B1 else P1 2 j := fun j => by rw [fo_up_at, fo_u_eq]
    generalize ax_up P1 2 (t + 1) B1 = P2 at n2 h2 i2 ⊢
    rw [n2, show (t : Int) + ((0 + 1 + 1 : Nat) : Int) = ((t + 2 : Nat) : Int) by omega, fo_t0]
    refine pq_rq (by omega) ?_
    have n3 : ax_up P2 2 (t + 2) B2 0 4 = (t : Int) := by rw [ax_up_ne (by decide), n2]
    have h3 : ∀ s, s ≠ 2 → ax_up P2 2 (t + 2) B2 s = P0 s := fun s s0 => by rw [ax_up_ne s0, h2 s s0]
    have i3 : ∀ j, ax_up P2 2 (t + 2) B2 2 j = if j = t + 2 then B2 else P2 2 j := fun j => by rw [fo_up_at, fo_u_eq]
    generalize ax_up P2 2 (t + 2) B2 = P3 at n3 h3 i3 ⊢
    rw [n3, show (t : Int) + ((0 + 1 + 1 + 1 : Nat) : Int) = ((t + 3 : Nat) : Int) by omega, fo_t0]
    refine pq_rq (by omega) ?_
    have n4 : ax_up P3 2 (t + 3) B3 0 4 = (t : Int) := by rw [ax_up_ne (by decide), n3]
    have h4 : ∀ s, s ≠ 2 → ax_up P3 2 (t + 3) B3 s = P0 s := fun s s0 => by rw [ax_up_ne s0, h3 s s0]
    have i4 : ∀ j, ax_up P3 2 (t + 3) B3 2 j = if j = t + 3 then B3 else P3 2 j := fun j => by rw [fo_up_at, fo_u_eq]
    generalize ax_up P3 2 (t + 3) B3 = P4 at n4 h4 i4 ⊢
    rw [n4, c4]
    refine pq_rq (by omega) ?_
    have p0 : ∀ f, f ≠ 0 → P0 0 f = Mm 0 f := fun f f0 => by rw [← hP0, fo_up_at, fo_u_o f0]
    have ps : ∀ s, s ≠ 0 → P0 s = Mm s := fun s s0 => by rw [← hP0, ax_up_ne s0]
    have e4 : ax_up P4 0 4 ((t : Int) + 4) 0 4 = (t : Int) + 4 := by rw [fo_up_at, fo_u_s]
    have m0 : ∀ f, f ≠ 0 → f ≠ 4 → ax_up P4 0 4 ((t : Int) + 4) 0 f = Mm 0 f := fun f f0 f4 => by rw [fo_up_at, fo_u_o f4, h4 0 (by decide), p0 f f0]
    have ms : ∀ s, s ≠ 0 → s ≠ 2 → ax_up P4 0 4 ((t : Int) + 4) s = Mm s := fun s s0 s2 => by rw [ax_up_ne s0, h4 s s2, ps s s0]
    have m2 : ax_up P4 0 4 ((t : Int) + 4) 2 = P4 2 := ax_up_ne (by decide)
    rw [e4]
    generalize ax_up P4 0 4 ((t : Int) + 4) = P5 at e4 m0 ms m2 ⊢
    have hX' : pr_X N4 P5 := by
      refine ⟨c4.trans (by rw [e4]; omega), by rw [e4]; omega, by rw [e4]; omega, fun i hi => ?_⟩
      rw [e4] at hi
      rw [m2, k4, k3, k2, k1, i4, i3, i2, i1]
      by_cases q3 : i = t + 3
      · rw [if_pos q3, if_pos q3]; exact ⟨rfl, r3⟩
      rw [if_neg q3, if_neg q3]
      by_cases q2 : i = t + 2
      · rw [if_pos q2, if_pos q2]; exact ⟨rfl, r2⟩
      rw [if_neg q2, if_neg q2]
      by_cases q1 : i = t + 1
      · rw [if_pos q1, if_pos q1]; exact ⟨rfl, r1⟩
      rw [if_neg q1, if_neg q1]
      by_cases q0 : i = t
      · rw [if_pos q0, if_pos q0]; exact ⟨rfl, r0⟩
      rw [if_neg q0, if_neg q0, ps 2 (by decide)]
      exact x4 i (by omega)
    refine pq_i (X := N4) (Y := P5) (by omega) ?_
    exact ⟨⟨pr_N_cg (Int.le_refl _) ⟨fun k _ _ => f4 k (by omega) (by omega), cS.e (f4 1 (by decide) (by decide)), cS.e (f4 13 (by decide) (by decide))⟩ ⟨ms 7 (by decide) (by decide), fun j _ => by rw [ms 8 (by decide) (by decide)]⟩ hN,
      pr_P_cg (Int.le_refl _) ⟨g4 3 (by decide), g4 4 (by decide), fun i _ => by rw [f4 25 (by decide) (by decide)]⟩ ⟨m0 24 (by decide) (by decide), fun i _ => by rw [ms 13 (by decide) (by decide)]⟩ hP,
      pr_K_cg (Int.le_refl _) (f4 27 (by decide) (by decide)) (f4 26 (by decide) (by decide)) (ms 20 (by decide) (by decide)) (ms 21 (by decide) (by decide)) hK,
      pr_H_cg (g4 15 (by decide)) (f4 36 (by decide) (by decide)) (f4 37 (by decide) (by decide)) (m0 32 (by decide) (by decide)) (ms 17 (by decide) (by decide)) (ms 18 (by decide) (by decide)) hH,
      hX',
      pr_R_cg2 (g4 7 (by decide)) (g4 8 (by decide)) (fun f _ => ⟨by rw [f4 28 (by decide) (by decide)], by rw [f4 31 (by decide) (by decide)]⟩) (f4 29 (by decide) (by decide)) (f4 32 (by decide) (by decide)) (m0 10 (by decide) (by decide)) (ms 3 (by decide) (by decide)) hR⟩,
      pr_T_cg (g4 12 (by decide)) (f4 35 (by decide) (by decide)) (m0 1 (by decide) (by decide)) (ms 1 (by decide) (by decide)) hT⟩
  · rw [c10, m4, if_neg (by omega), if_neg (by omega)]
    exact ⟨trivial, trivial, rfl, hG⟩
/-! sheets -/
theorem fo_wipes_I (hI : fo_I r) (o : ∀ j, j < 224 ∨ 240 ≤ j → q j = r j) (hw : fo_Wi q) : fo_I q := by
  obtain ⟨c0, hW, hs⟩ := hI
  have em : ∀ k, fo_many q k = fo_many r k := fun k => fo_many_congr (fun c hc => by rw [o _ (by omega)])
  refine ⟨by rw [o 270 (by omega)]; exact c0, ?_, ?_⟩
  · rw [o 270 (by omega)]
    refine ⟨fun j hj => ?_, fun j hj => ?_, fun c hc => ?_, fun c hc => ?_, hw, fun j hj => ?_, fun j hj => ?_, fun j m hj hm => ?_, fun q a c => ?_, fun q hq => ?_⟩
    · rw [o j (by omega)]; exact hW.pg j hj
    · rw [o _ (by omega)]; exact hW.sb j hj
    · rw [o _ (by omega)]; exact hW.kd c hc
    · rw [o _ (by omega)]; exact hW.ow c hc
    · rw [o _ (by omega), o j (by omega)]; exact hW.em j hj
    · rw [o j (by omega), o (192 + j / 4) (by omega), o (208 + j / 4) (by omega)]; exact hW.on j hj
    · rw [o j (by omega), o m (by omega), o _ (by omega), o _ (by omega), o _ (by omega), o _ (by omega)]; exact hW.sv j m hj hm
    · rw [o q (by omega)]; exact hW.ct q a c
    · rw [o _ (by omega)]; exact hW.ht q hq
  · refine ⟨fun b c hb hc => ?_, fun b c hb hc => ?_, fun b c hb hc => ?_, fun b hb => ?_, fun b hb => ?_, ?_, fun b hb e1 k hk => ?_, fun b hb => ?_, fun l hl => ?_, fun b hb => ?_, fun k p hk3 ho hm => ?_⟩
    · rw [o _ (by omega), o _ (by omega), o _ (by omega), o _ (by omega)]; exact hs.hu b c hb hc
    · rw [o _ (by omega), o _ (by omega)]; exact hs.ru b c hb hc
    · rw [o _ (by omega), o _ (by omega), o _ (by omega), o _ (by omega)]; exact hs.lu b c hb hc
    · rw [o _ (by omega), o _ (by omega)]; exact hs.or b hb
    · rw [o _ (by omega), o _ (by omega), em]; exact hs.lo b hb
    · have lm := hs.lm
      unfold fo_Lm at lm ⊢
      rw [em, em, o 271 (by omega), o 272 (by omega), o 273 (by omega)]
      exact lm
    · rw [o _ (by omega)] at e1
      rw [o _ (by omega), o _ (by omega)]; exact hs.cg b hb e1 k hk
    · rw [o _ (by omega), o _ (by omega)]; exact hs.r0 b hb
    · rw [o l (by omega)]
      intro e
      obtain ⟨c, hc, a1, a2⟩ := hs.ha l hl e
      exact ⟨c, hc, by rw [o _ (by omega)]; exact a1, by rw [o _ (by omega)]; exact a2⟩
    · rw [o _ (by omega)]
      intro e
      obtain ⟨l, hl, a1, a2⟩ := hs.hb b hb e
      exact ⟨l, hl, by rw [o _ (by omega)]; exact a1, by rw [o _ (by omega), o _ (by omega)]; exact a2⟩
    · rw [em] at hm
      obtain ⟨c, hc, a1, a2⟩ := hs.ls k p hk3 ho hm
      exact ⟨c, hc, by rw [o _ (by omega)]; exact a1, by rw [o _ (by omega)]; exact a2⟩
def sh_c (y : Int) : Int := if y ≤ 0 then 0 else if 999 < y then 999 else y
def sh_e (k y : Int) : Int := sh_c (if k = 0 then ax_i2b y else if k = 1 then ax_i2s y else y)
theorem sh_c_r (y : Int) : 0 ≤ sh_c y ∧ sh_c y ≤ 999 := by
  unfold sh_c
  split
  · omega
  · split <;> omega
theorem sh_cc (y : Int) : (if 0 < (if 999 < y then 999 else y) then (if 999 < y then 999 else y) else 0) = sh_c y := by
  unfold sh_c
  by_cases h1 : 999 < y
  · rw [if_pos h1, if_pos (by decide), if_neg (by omega)]
  · rw [if_neg h1]
    by_cases h2 : 0 < y
    · rw [if_pos h2, if_neg (by omega)]
    · rw [if_neg h2, if_pos (by omega)]
theorem sh_cm (y : Int) : (if 0 < (if y < 999 then y else 999) then (if y < 999 then y else 999) else 0) = sh_c y := by
  unfold sh_c
  by_cases h1 : y < 999
  · rw [if_pos h1]
    by_cases h2 : 0 < y
    · rw [if_pos h2, if_neg (by omega), if_neg (by omega)]
    · rw [if_neg h2, if_pos (by omega)]
  · rw [if_neg h1, if_pos (by decide), if_neg (by omega)]
    by_cases h3 : 999 < y
    · rw [if_pos h3]
    · rw [if_neg h3]; omega
theorem fc_entry {k y : Int} : f_X2_sheetEntry k y M = sh_e k y := by
  unfold f_X2_sheetEntry sh_e
  simp only [ax_bd_e, sh_cc]
  by_cases h0 : k = 0
  · rw [if_neg (fun h => h h0), if_pos h0]
  · rw [if_pos h0, if_neg h0]
    by_cases h1 : k = 1
    · rw [if_neg (fun h => h h1), if_pos h1]
    · rw [if_pos h1, if_neg h1]
theorem ax_wr_wr (a b : Int) : ax_wr (ax_wr a + b) = ax_wr (a + b) := by
  unfold ax_wr
  exact Int.bmod_add_bmod
theorem ax_wr_wr2 (a b : Int) : ax_wr (a + ax_wr b) = ax_wr (a + b) := by
  rw [Int.add_comm, ax_wr_wr, Int.add_comm]
/-- what a sheet says of a block -/
def sh_v (k n f s : Int) (i : Nat) : Int := if k = 3 then 0 else if n ≤ (i : Int) then 0 else sh_e k (ax_wr (f + ax_wr ((i : Int) * s)))
theorem sh_v_r {k n f s : Int} {i : Nat} : 0 ≤ sh_v k n f s i ∧ sh_v k n f s i ≤ 999 := by
  unfold sh_v sh_e
  split
  · omega
  · split
    · omega
    · exact sh_c_r _
theorem fc_sheetL {k n f s : Int} (hk : k ≠ 3) {kx : ax_M → Int × ax_M} : ∀ (m i : Nat) (N : ax_M), f_X2_sheet_L46 k n f s m i N kx = kx (fo_fold (fun i N => ax_up N 7 i (sh_v k n f s i)) m i N) := by
  intro m
  induction m with
  | zero => intro i N; rw [fo_fold_z]; rfl
  | succ m ih =>
    intro i N
    simp only [f_X2_sheet_L46, f_X2_sheet_B46, ax_bd_e]
    rw [fo_fold_s, fc_entry]
    unfold sh_v
    by_cases h : n ≤ (i : Int)
    · rw [if_pos h, if_neg hk, if_pos h, ih]
      rfl
    · rw [if_neg h, if_neg hk, if_neg h, ih]
      rfl
theorem fc_fillL : ∀ (m i : Nat) (N : ax_M), f_J_fill_L5 16 7 0 m (i : Int) N (fun M2 => M2) = fo_fold (fun i N => ax_up N 7 i 0) m i N := by
  intro m
  induction m with
  | zero => intro i N; rw [fo_fold_z]; rfl
  | succ m ih =>
    intro i N
    simp only [f_J_fill_L5, f_J_fill_B5, ax_bd_e]
    rw [fo_fold_s, fo_t0, show (i : Int) + 1 = ((i + 1 : Nat) : Int) by omega, ih]
theorem fm_sheetL {k n f s : Int} {kx : ax_M → Int × ax_M} (hf : ax_r32 f) : ∀ (m i : Nat) (v : Int) (P : ax_M), v = ax_wr (f + ax_wr ((i : Int) * s)) → f_X3_sheet_L43 k n s m i v P kx = kx (fo_fold (fun i P => ax_up P 7 (224 + i) (sh_v k n f s i)) m i P) := by
  intro m
  induction m with
  | zero => intro i v P _; rw [fo_fold_z]; rfl
  | succ m ih =>
    intro i v P hv
    have hn : ax_wr (v + s) = ax_wr (f + ax_wr (((i + 1 : Nat) : Int) * s)) := by
      rw [hv, ax_wr_wr, ax_wr_wr2, show f + ax_wr ((i : Int) * s) + s = f + s + ax_wr ((i : Int) * s) by omega, ax_wr_wr2]
      congr 1
      rw [show ((i + 1 : Nat) : Int) = (i : Int) + 1 by omega, Int.add_mul]
      omega
    simp only [f_X3_sheet_L43, f_X3_sheet_B43, ax_bd_e, sh_cm]
    rw [fo_fold_s, fo_t224]
    have e3 : k = 3 → sh_v k n f s i = 0 := fun h => by unfold sh_v; rw [if_pos h]
    have en : k ≠ 3 → ¬ (i : Int) < n → sh_v k n f s i = 0 := fun h h2 => by unfold sh_v; rw [if_neg h, if_pos (by omega)]
    have ey : k ≠ 3 → (i : Int) < n → sh_v k n f s i = sh_e k v := fun h h2 => by unfold sh_v; rw [if_neg h, if_neg (by omega), hv]
    unfold sh_e at ey
    by_cases h0 : k = 0
    · rw [if_neg (fun h => h h0)]
      by_cases hi : (i : Int) < n
      · rw [if_pos hi, ih _ _ _ hn, ey (by omega) hi, if_pos h0]
      · rw [if_neg hi, ih _ _ _ hn, en (by omega) hi]
    rw [if_pos h0]
    by_cases h1 : k = 1
    · rw [if_neg (fun h => h h1)]
      by_cases hi : (i : Int) < n
      · rw [if_pos hi, ih _ _ _ hn, ey (by omega) hi, if_neg h0, if_pos h1]
      · rw [if_neg hi, ih _ _ _ hn, en (by omega) hi]
    rw [if_pos h1]
    by_cases h3 : k = 3
    · rw [if_pos h3, ih _ _ _ hn, e3 h3]
    rw [if_neg h3]
    by_cases hi : (i : Int) < n
    · rw [if_pos hi, ih _ _ _ hn, ey h3 hi, if_neg h0, if_neg h1]
    · rw [if_neg hi, ih _ _ _ hn, en h3 hi]
/-- both loops leave the same row -/
theorem pq_sheetF {e : Nat → Int} (he : ∀ i, 0 ≤ e i ∧ e i ≤ 999) : ∀ (m i : Nat) (N P : ax_M), i + m = 16 → fo_cr 1 N = P 7 →
    fo_cr 1 (fo_fold (fun i N => ax_up N 7 i (e i)) m i N) = (fo_fold (fun i P => ax_up P 7 (224 + i) (e i)) m i P) 7 ∧ (∀ s, s ≠ 7 → fo_fold (fun i N => ax_up N 7 i (e i)) m i N s = N s) ∧ (∀ s, s ≠ 7 → fo_fold (fun i P => ax_up P 7 (224 + i) (e i)) m i P s = P s) ∧
    ∀ j, (fo_fold (fun i P => ax_up P 7 (224 + i) (e i)) m i P) 7 j = if 224 + i ≤ j ∧ j < 240 then e (j - 224) else P 7 j := by
  intro m
  induction m with
  | zero =>
    intro i N P hi h
    rw [fo_fold_z, fo_fold_z]
    exact ⟨h, fun _ _ => rfl, fun _ _ => rfl, fun j => by rw [if_neg (by omega)]⟩
  | succ m ih =>
    intro i N P hi h
    rw [fo_fold_s, fo_fold_s]
    obtain ⟨q1, q2, q3, q4⟩ := ih (i + 1) (ax_up N 7 i (e i)) (ax_up P 7 (224 + i) (e i)) (by omega) (by
      rw [show ax_up N 7 i (e i) = ax_up N (1 + 6) i (e i) from rfl, fo_cr_W (by omega), h, fo_up_at])
    refine ⟨q1, fun s hs => by rw [q2 s hs, ax_up_ne hs], fun s hs => by rw [q3 s hs, ax_up_ne hs], fun j => ?_⟩
    rw [q4 j, fo_up_at, fo_u_eq]
    by_cases h1 : j = 224 + i
    · rw [if_neg (by omega), if_pos h1, if_pos (by omega), show j - 224 = i by omega]
    · rw [if_neg h1]
      by_cases h2 : 224 + (i + 1) ≤ j ∧ j < 240
      · rw [if_pos h2, if_pos (by omega)]
      · rw [if_neg h2, if_neg (by omega)]
theorem pq_sheetG {e : Nat → Int} (he : ∀ i, 0 ≤ e i ∧ e i ≤ 999) (h : pr_G C Mc Mm) : pr_G C (fo_fold (fun i N => ax_up N 7 i (e i)) 16 0 Mc) (fo_fold (fun i P => ax_up P 7 (224 + i) (e i)) 16 0 Mm) ∧ fo_cr 1 (fo_fold (fun i N => ax_up N 7 i (e i)) 16 0 Mc) = (fo_fold (fun i P => ax_up P 7 (224 + i) (e i)) 16 0 Mm) 7 := by
  obtain ⟨q1, q2, q3, q4⟩ := pq_sheetF he 16 0 Mc Mm rfl h.c
  generalize fo_fold (fun i N => ax_up N 7 i (e i)) 16 0 Mc = N at q1 q2 ⊢
  generalize fo_fold (fun i P => ax_up P 7 (224 + i) (e i)) 16 0 Mm = P at q1 q3 q4 ⊢
  have hN := h.1.1
  have hW : fo_Wi (P 7) := fun b hb => by rw [q4, if_pos (by omega)]; exact he _
  have ho : ∀ j, j < 224 ∨ 240 ≤ j → P 7 j = Mm 7 j := fun j hj => by rw [q4, if_neg (by omega)]
  have hN' : pr_N C N P := ⟨q1, ⟨fo_wipes_I h.I ho hW, by rw [ho 270 (by omega)]; exact hN.2.1.2⟩, hN.2.2.1.e (q2 1 (by decide)) (Int.le_refl _), hN.2.2.2.1.e (q2 13 (by decide)) (Int.le_refl _), fun j hj => by rw [q3 8 (by decide)]; exact hN.2.2.2.2 j hj⟩
  exact ⟨⟨pr_U_mk (Int.le_refl _) ⟨fun f _ => by rw [q2 0 (by decide)], fun s hs => q2 s (by omega), fun f _ => ⟨by rw [q2 28 (by decide)], by rw [q2 31 (by decide)]⟩⟩ ⟨fun f _ => by rw [q3 0 (by decide)], fun s hs => q3 s (by omega)⟩ h.1 hN'
    (pr_P_cg (Int.le_refl _) ⟨by rw [q2 0 (by decide)], by rw [q2 0 (by decide)], fun i _ => by rw [q2 25 (by decide)]⟩ ⟨by rw [q3 0 (by decide)], fun i _ => by rw [q3 13 (by decide)]⟩ h.1.2.1), pr_T_cg (by rw [q2 0 (by decide)]) (q2 35 (by decide)) (by rw [q3 0 (by decide)]) (q3 1 (by decide)) h.2⟩, q1⟩
theorem pq_sheet {k n f s : Int} (hf : ax_r32 f) (h : pr_G C Mc Mm) : pq C (True, f_X2_sheet k n f s Mc) (True, f_X3_sheet k n f s Mm) := by
  have hG := h.th (x := 0)
  have hv0 : f = ax_wr (f + ax_wr (((0 : Nat) : Int) * s)) := by
    rw [ax_wr_wr2, show f + ((0 : Nat) : Int) * s = f by rw [show ((0 : Nat) : Int) = 0 from rfl, Int.zero_mul]; omega, ax_wr_id hf.1 hf.2]
  unfold f_X2_sheet f_X3_sheet f_X3_sheet_J37
  simp only [ax_bd_e]
  rw [fm_inE]
  by_cases hk : 0 ≤ k ∧ k ≤ 3
  · rw [if_neg (show ¬ (k < 0) by omega), if_neg (show ¬ (3 < k) by omega), if_pos hk, if_neg (show ¬ ((1 : Int) = 0) by decide)]
    by_cases hn : n ≤ 16
    · rw [if_pos hn, if_pos hn]
      by_cases h3 : k = 3
      · rw [if_neg (fun h => h h3), if_pos h3, fm_sheetL hf 16 0 f _ hv0, if_neg (fun h => h h3)]
        have ev : sh_v k n f s = fun _ => 0 := by
          funext i
          unfold sh_v
          rw [if_pos h3]
        rw [ev]
        have ef : f_J_fill 16 7 0 Mc = fo_fold (fun i N => ax_up N 7 i 0) 16 0 Mc := fc_fillL 16 0 Mc
        rw [ef]
        exact pq_i rfl (pq_sheetG (e := fun _ => 0) (fun _ => ⟨by decide, by decide⟩) hG).1
      · rw [if_pos h3, if_neg h3]
        by_cases h0 : 0 ≤ n
        · rw [if_pos h0, if_pos h0, fm_sheetL hf 16 0 f _ hv0, if_pos h3, fc_sheetL h3]
          obtain ⟨g1, g2⟩ := pq_sheetG (e := sh_v k n f s) (fun _ => sh_v_r) hG
          exact pq_i (pf_wipes g2) g1
        · rw [if_neg h0, if_neg h0]
          exact pq_i rfl hG
    · rw [if_neg hn, if_neg hn]
      exact pq_i rfl hG
  · have hc : ∀ A : Int × ax_M, (if k < 0 then ((-1 : Int), Mc) else if 3 < k then (-1, Mc) else A) = (-1, Mc) := fun A => by
      by_cases h1 : k < 0
      · rw [if_pos h1]
      · rw [if_neg h1, if_pos (by omega)]
    rw [hc, if_neg hk, if_pos rfl]
    exact pq_i rfl hG
end PRS
