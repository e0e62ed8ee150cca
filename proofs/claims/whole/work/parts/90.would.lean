/-! ===== what would be: questions that make trials, side by side ===== -/
def pv_S (C : Int) (n : Nat) (r : fo_R) (Nc Nm Zc Zm : ax_M) : Prop := pr_S C n r Zc Zm ∧ (∀ t, t ≠ 0 → t ≠ 35 → Zc t = Nc t) ∧ (∀ t, t ≠ 0 → t ≠ 1 → Zm t = Nm t) ∧ ∀ f, f ≠ 1 → Zm 0 f = Nm 0 f
section PRT
variable {C D : Int} {Mc Mm Nc Nm Zc Zm X Y M : ax_M} {r τ : fo_R}
theorem vs_anew (h : pr_U C Nc Nm) (h7 : Nm 7 = r) : pv_S C 0 r Nc Nm (f_X2_tellAnew Nc) (ax_up Nm 0 1 0) := by
  refine ⟨?_, fun t h0 _ => ?_, fun t h0 _ => ax_up_ne h0, fun f h1 => by rw [fo_up_at, fo_u_o h1]⟩
  · rw [← h7]; exact ps_anew h
  · show ax_up Nc 0 12 0 t = Nc t
    exact ax_up_ne h0
theorem vs_tell {n : Nat} {x : Int} (h : pv_S C n r Nc Nm Zc Zm) (hn : n < 12) : (f_X3_enters x Zm).1 ∧ pv_S C (n + 1) r Nc Nm (f_X2_tell x Zc) (f_X3_enters x Zm).2 := by
  obtain ⟨a, b⟩ := ps_tell (x := x) h.1 hn
  exact ⟨a, b, fun t h0 h1 => by rw [tell_o h0 h1, h.2.1 t h0 h1], fun t h0 h1 => by rw [enters_o h0 h1, h.2.2.1 t h0 h1], fun f h1 => by rw [enters_0 h1, h.2.2.2 f h1]⟩
theorem vs_since {n k : Nat} (hV : pr_V C r τ Nc Nm) (h : pv_S C n r Nc Nm Zc Zm) (h1 : 1 ≤ k) (h2 : k < 7) : f_X0_since 13 (k : Int) Zc = ax_wr (τ (263 + k) - r (263 + k)) := by
  rw [← pv_since h1 h2 hV]
  unfold f_X0_since
  rw [h.2.1 (13 + 9) (by decide) (by decide), h.2.1 (13 + 10) (by decide) (by decide)]
theorem vs_m {n : Nat} (hV : pr_V C r τ Nc Nm) (h : pv_S C n r Nc Nm Zc Zm) : Zm 8 = τ ∧ Zm 0 26 = r 265 ∧ Zm 0 27 = r 266 ∧ Zm 7 = r :=
  ⟨by rw [h.2.2.1 8 (by decide) (by decide)]; exact hV.2.2.1, by rw [h.2.2.2 26 (by decide)]; exact hV.2.2.2.2.1, by rw [h.2.2.2 27 (by decide)]; exact hV.2.2.2.2.2.1, h.1.m⟩
/-- a write of a trial by the rule that is laid down -/
theorem pv_writeR {p : Nat} {v : Int} (hC : C < 2000000000) (hp : p < 24) (hv : 0 ≤ v ∧ v < 100) (hclk : τ 270 < 2147483647) (h : pr_V C r τ Nc Nm) :
    (f_X0_write 13 (p : Int) v (Nc 0 7) Nc).1 ∧ (f_X3_writesOne 8 (p : Int) v Nm).1 ∧ ∃ τ', pr_V C r τ' (f_X0_write 13 (p : Int) v (Nc 0 7) Nc).2.2 (f_X3_writesOne 8 (p : Int) v Nm).2.2 ∧ τ' 270 = τ 270 + 1 ∧ (τ 265 ≤ τ' 265 ∧ τ' 265 ≤ 99999) ∧
    (f_X0_write 13 (p : Int) v (Nc 0 7) Nc).2.2 13 15 = (f_X3_writesOne 8 (p : Int) v Nm).2.2 0 22 ∧
    (f_X0_write 13 (p : Int) v (Nc 0 7) Nc).2.2 13 16 = (f_X3_writesOne 8 (p : Int) v Nm).2.2 0 23 ∧
    ((f_X0_write 13 (p : Int) v (Nc 0 7) Nc).2.2 13 16 = 0 ∨ (f_X0_write 13 (p : Int) v (Nc 0 7) Nc).2.2 13 16 = 1) ∧
    (f_X0_write 13 (p : Int) v (Nc 0 7) Nc).2.2 0 = Nc 0 ∧ (f_X3_writesOne 8 (p : Int) v Nm).2.2 0 35 = Nm 0 35 ∧ pr_B C r Nc (f_X3_writesOne 8 (p : Int) v Nm).2.2 := by
  obtain ⟨a, cs, ha, e7, hwc, hwm⟩ := pr_R.ev (h.1.1.1.2.2.2.2.2 hC)
  obtain ⟨a1, a2, a3, a4, a5, a6, a7, a8, a9, a10⟩ := pv_write (v := v) ha hp hv hclk (hwc 13 (by omega)) hwm h
  have hI := h.2.2.2.2.2.2
  obtain ⟨_, i2, _⟩ := fo_write_ok (ev := fo_ev cs) (v := v) hp hI
  obtain ⟨⟨x1, x2, x3⟩, _⟩ := xq_write (ev := fo_ev cs) (v := v) hp hI hclk
  rw [e7]
  refine ⟨a1, a2, _, a3, i2, ⟨x1, x3⟩, a5, a6, a9, a4.1 0 (by omega) (by omega) (by omega) (by omega), a10.2.2.1, ?_⟩
  have z := fun t (h : t < 13 ∨ 22 < t) (h1 : t ≠ 24) (h2 : t ≠ a) (h3 : t ≠ a + 2) => (a4.1 t h h1 h2 h3).symm
  refine pr_B_g (Mc := (f_X0_write 13 (p : Int) v (a : Int) Nc).2.2) (Int.le_refl _) ⟨fun f _ => by rw [z 0 (by omega) (by omega) (by omega) (by omega)], fun s hs => z s (by omega) (by omega) (by omega) (by omega), fun f hf => ?_⟩ ⟨by rw [z 0 (by omega) (by omega) (by omega) (by omega)], by rw [z 0 (by omega) (by omega) (by omega) (by omega)], fun i _ => by rw [z 25 (by omega) (by omega) (by omega) (by omega)]⟩ (fun k k1 k2 => z k (by omega) (by omega) (by omega) (by omega)) h.1.1.1.1.2.2.1 h.1.1.1.1.2.2.2.1 mQ.rf (z 25 (by omega) (by omega) (by omega) (by omega)) (by rw [z 0 (by omega) (by omega) (by omega) (by omega)]) (z 35 (by omega) (by omega) (by omega) (by omega)) rfl rfl a3.1
  rcases ha with e | e <;> subst e
  · exact ⟨(a4.2.1 f hf).symm, by rw [z 31 (by omega) (by omega) (by omega) (by omega)]⟩
  · exact ⟨by rw [z 28 (by omega) (by omega) (by omega) (by omega)], (a4.2.1 f hf).symm⟩
theorem pq_rq {c : Prop} {A B : Prop × Int × ax_M} (hc : c) (h : pq C A B) : pq C A (ax_rq c B) := ⟨h.1, ⟨hc, h.2.1⟩, h.2.2.1, h.2.2.2⟩
theorem fm_flag01 {x : Int} (h : x = 0 ∨ x = 1) : f_X3_flag x M = x := by
  rcases h with e | e <;> subst e <;> rfl
theorem pq_costs {x : Int} (hC : C < 2000000000) (h : pr_G C Mc Mm) : pq C (f_X2_costs x Mc) (f_X3_costs x Mm) := by
  have hG := h.th (x := 0)
  have hB := pb_B hG
  have e7 : ax_up Mm 0 0 0 7 = Mm 7 := ax_up_ne (by decide)
  rw [e7] at hB
  have hV := pv_begin hB
  have h270 := h.1.1.2.1.2
  unfold f_X2_costs f_X3_costs
  simp only [ax_bd_e]
  rcases fx_page x with ⟨p, hp, e, h1, h2⟩ | ⟨h1, h2⟩
  · subst e
    rw [h1, h2, if_pos (show (1 : Int) ≠ 0 by decide), if_pos (show (1 : Int) ≠ 0 by decide)]
    generalize f_X2_beginTrial (f_X2_begin Mc) = Tc at hV ⊢
    generalize f_X3_copiesAll (ax_up Mm 0 0 0) = Tm at hV ⊢
    obtain ⟨w1, w2, τ, w3, w4, _, w6, w7, w8, _, _, _⟩ := pv_writeR (v := 0) hC hp (by decide) (by omega) hV
    refine pq_lc w1 ?_
    refine pq_rc w2 ?_
    generalize f_X0_write 13 (p : Int) 0 (Tc 0 7) Tc = X at w1 w3 w6 w7 w8 ⊢
    generalize f_X3_writesOne 8 (p : Int) 0 Tm = Y at w2 w3 w6 w7 ⊢
    unfold pq ax_rc
    dsimp only
    have s0 := vs_anew w3.1.1.1 w3.1.2.1
    generalize f_X2_tellAnew X.2.2 = Z0 at s0 ⊢
    generalize ax_up Y.2.2 0 1 0 = W0 at s0 ⊢
    rw [show f_X0_since 13 3 Z0 = ax_wr (τ 266 - Mm 7 266) from vs_since (k := 3) w3 s0 (by decide) (by decide), (vs_m w3 s0).1, (vs_m w3 s0).2.2.1]
    obtain ⟨q1, s1⟩ := vs_tell (x := ax_wr (τ 266 - Mm 7 266)) s0 (by decide)
    generalize f_X2_tell (ax_wr (τ 266 - Mm 7 266)) Z0 = Z1 at s1 ⊢
    generalize f_X3_enters (ax_wr (τ 266 - Mm 7 266)) W0 = y1 at q1 s1 ⊢
    rw [show Z1 13 15 = Y.2.2 0 22 by rw [s1.2.1 13 (by decide) (by decide)]; exact w6, show y1.2 0 22 = Y.2.2 0 22 from s1.2.2.2 22 (by decide)]
    obtain ⟨q2, s2⟩ := vs_tell (x := Y.2.2 0 22) s1 (by decide)
    generalize f_X2_tell (Y.2.2 0 22) Z1 = Z2 at s2 ⊢
    generalize f_X3_enters (Y.2.2 0 22) y1.2 = y2 at q2 s2 ⊢
    rw [show Z2 13 16 = Y.2.2 0 23 by rw [s2.2.1 13 (by decide) (by decide)]; exact w7, show f_X3_flag (y2.2 0 23) y2.2 = Y.2.2 0 23 by rw [show y2.2 0 23 = Y.2.2 0 23 from s2.2.2.2 23 (by decide)]; exact fm_flag01 (by rw [← w7]; exact w8)]
    obtain ⟨q3, s3⟩ := vs_tell (x := Y.2.2 0 23) s2 (by decide)
    generalize f_X2_tell (Y.2.2 0 23) Z2 = Z3 at s3 ⊢
    generalize f_X3_enters (Y.2.2 0 23) y2.2 = y3 at q3 s3 ⊢
    rw [show f_X0_since 13 2 Z3 = ax_wr (τ 265 - Mm 7 265) from vs_since (k := 2) w3 s3 (by decide) (by decide), (vs_m w3 s3).1, (vs_m w3 s3).2.1]
    exact ⟨trivial, ⟨q1, q2, q3, trivial⟩, rfl, s3.1.g⟩
  · rw [h1, h2, if_neg (fun h => h rfl), if_neg (fun h => h rfl)]
    exact ⟨trivial, trivial, rfl, hG⟩
theorem pq_holds {x : Int} (hC : C ≤ 900000) (h11 : ax_r32 (Mc 13 11)) (h20 : 0 ≤ Mm 0 20 ∧ Mm 0 20 ≤ 400) (h : pr_G C Mc Mm) : pq (C + 1) (True, f_X2_holds x Mc) (f_X3_holds x Mm) := by
  have hG := h.th (x := 0)
  have hG1 := hG.mono (D := C + 1) (by omega)
  have hB := pb_B hG
  have e7 : ax_up Mm 0 0 0 7 = Mm 7 := ax_up_ne (by decide)
  have e20 : ax_up Mm 0 0 0 0 20 = Mm 0 20 := by rw [fo_up_at, fo_u_o (by decide)]
  obtain ⟨_, _, _, hbf⟩ := pb_begin h
  rw [e7] at hB
  have hV := pv_begin hB
  have h270 := h.1.1.2.1.2
  have hI := h.I
  obtain ⟨h0, hW, hs⟩ := hI
  unfold f_X2_holds f_X3_holds
  simp only [ax_bd_e]
  rcases fx_kind x with ⟨k, hk, e, h1, h2⟩ | ⟨h1, h2⟩
  · subst e
    rw [h1, h2, if_pos (show (3 : Int) + (k : Int) ≠ -1 by omega), if_pos (show (1 : Int) ≠ 0 by decide), fc_owned, h.c, fm_kindMany, fm_blockOf, e7]
    have h34 : (3 : Int) + (k : Int) = 3 ∨ (3 : Int) + (k : Int) = 4 := by omega
    rcases fo_blk_spec (Mm 7) (3 + (k : Int)) 0 with ⟨e, hn⟩ | ⟨c, e, hc, k1, k2⟩
    · have hm : ¬ (fo_many (Mm 7) (3 + (k : Int)) ≠ 0) := fun hm => by
        have hp := fo_many_pos (r := Mm 7) (k := 3 + (k : Int))
        obtain ⟨c, hc, a1, a2⟩ := hs.ls (3 + (k : Int)) 0 (by omega) (Int.le_refl 0) (by generalize fo_many (Mm 7) (3 + (k : Int)) = m at *; omega)
        exact hn c hc ⟨a1, a2⟩
      rw [e, if_neg (fun h => h rfl), if_neg hm]
      exact ⟨trivial, trivial, rfl, hG1⟩
    · have hm : fo_many (Mm 7) (3 + (k : Int)) ≠ 0 := fun hm => by
        have := hs.lo c hc (by omega)
        rw [k1, k2, hm] at this
        exact absurd this.2 (Int.lt_irrefl 0)
      rw [e, if_pos (show (c : Int) ≠ -1 by omega), if_pos hm]
      refine pq_rq (by omega) ?_
      rw [fc_foldersIn hc (by rw [h.c]; exact hW.pg) (by rw [h.c]; exact hW.kd) (by rw [h.c]; exact hW.em) (by rw [h.c]; exact hW.on), h.c, fm_foldersIn hc (by rw [e7]; exact hW.pg) (by rw [e7]; exact hW.st (by omega)), e7]
      have ht11 : f_X2_beginTrial (f_X2_begin Mc) 13 11 = Mc 13 11 := by
        obtain ⟨hs1, hs2⟩ := hB.1.1.2.1.sl
        obtain ⟨l1, _⟩ := fc_load (b := 13) (s := 25) (n := 2466) (o := fo_sl (f_X2_begin Mc)) (M := f_X2_begin Mc) (Or.inr (by omega)) hs2
        unfold f_X2_beginTrial
        simp only [ax_bd_e]
        rw [hs1]
        have hm1 : ∀ (L : ax_M) t, t ≠ 23 → f_X0_mark 13 L t = L t := fun L t ht => ax_cp_o ht
        rw [hm1 _ 13 (by decide), l1 13 (by omega), hbf 13 (by decide) (by decide)]
      obtain ⟨m1, m2, m3, m4, m5⟩ := fm_copiesAll (M := ax_up Mm 0 0 0) (fun j hj => by rw [hB.1.1.1.2.2.2.2 j hj, pr_7hi hB.1.1.1 j hj])
      have hm20 : f_X3_copiesAll (ax_up Mm 0 0 0) 0 20 = Mm 0 20 := by rw [m3 20 (by decide) (by decide), e20]
      generalize f_X2_beginTrial (f_X2_begin Mc) = Tc at hV ht11 ⊢
      generalize f_X3_copiesAll (ax_up Mm 0 0 0) = Tm at hV hm20 ⊢
      obtain ⟨c1, c2, c3⟩ := rl_actC (b := 13) (M := Tc) h34 hV.2.1 ⟨h0, hW, hs⟩ hV.1.1.1.1.2.2.2.1.1 (hV.1.1.1.1.2.2.2.1.lim hC)
      have c11 := rl_actC11 (b := 13) (M := Tc) h34 hV.2.1 ⟨h0, hW, hs⟩ hV.1.1.1.1.2.2.2.1.1 (hV.1.1.1.1.2.2.2.1.lim hC)
      obtain ⟨r1, r2, r3⟩ := fm_clear (a := 8) (σ := (Mm 7, [])) ⟨by decide, Or.inl (by decide)⟩ h0 (by omega) hW hs (show 3 ≤ 3 + (k : Int) by omega) e hc k1 k2 (fm_start (a := 8) hV.2.2.1 (by rw [hm20]; exact h20))
      have eA : (fo_actC (3 + (k : Int)) (Mm 7)).2 = fo_clear (3 + (k : Int)) (Mm 7, []) := by
        unfold fo_actC
        rw [if_pos (by omega)]
      rw [eA] at c2
      have hIc := fo_actC_I h34 ⟨h0, hW, hs⟩
      rw [eA] at hIc
      refine pq_rc r1 ?_
      generalize f_X0_clearFirst 13 (3 + (k : Int)) Tc = X at c1 c2 c3 c11 ⊢
      generalize f_X3_clearsLog 8 (3 + (k : Int)) Tm = Y at r1 r2 r3 ⊢
      have hhi : ∀ j, 270 ≤ j → (fo_clear (3 + (k : Int)) (Mm 7, [])).1 j = Mm 7 j := fun j hj => (fo_clear_keep (σ := (Mm 7, [])) h0 hW hs (by omega) e hc k1 k2).2.1 j hj
      have hmq : mQ Tm Y.2.2 := mQ_of (fun t ht => r3.2.2.2.1 t (by omega) (by omega) (by omega)) (fun f hf => r3.2.2.2.2 f (by omega)) (fun i _ => by rw [r3.2.2.2.1 13 (by decide) (by decide) (by decide)]) (fun j hj => by rw [r3.1, hhi j (by omega), hV.2.2.1])
      have hV' : pr_V (C + 1) (Mm 7) (fo_clear (3 + (k : Int)) (Mm 7, [])).1 X.2 Y.2.2 :=
        ⟨pr_B_g (D := C + 1) (by omega) ⟨fun f _ => by rw [c3.1 0 (by omega)], fun s hs => c3.1 s (by omega), fun f _ => ⟨by rw [c3.1 28 (by omega)], by rw [c3.1 31 (by omega)]⟩⟩ ⟨by rw [c3.1 0 (by omega)], by rw [c3.1 0 (by omega)], fun i _ => by rw [c3.1 25 (by omega)]⟩ (fun k k1 k2 => c3.1 k (by omega)) (hV.1.1.1.1.2.2.1.e (c3.1 1 (by omega)) (by omega)) (hV.1.1.1.1.2.2.2.1.act (c3.2 12 (by decide) (by decide) (by decide)) c11) hmq (c3.1 25 (by omega)) (by rw [c3.1 0 (by omega)]) (c3.1 35 (by omega)) (r3.2.2.2.2 1 (by decide)) (r3.2.2.2.1 1 (by decide) (by decide) (by decide)) hV.1, c2, r3.1, fun j j1 j2 => by rw [c3.1 23 (by omega)]; exact hV.2.2.2.1 j j1 j2, by rw [r3.2.2.2.2 26 (by decide)]; exact hV.2.2.2.2.1, by rw [r3.2.2.2.2 27 (by decide)]; exact hV.2.2.2.2.2.1, hIc⟩
      unfold pq ax_rc
      dsimp only
      have s0 := vs_anew hV'.1.1.1 hV'.1.2.1
      generalize f_X2_tellAnew X.2 = Z0 at s0 ⊢
      generalize ax_up Y.2.2 0 1 0 = W0 at s0 ⊢
      generalize fo_clear (3 + (k : Int)) (Mm 7, []) = τ at hV' s0 ⊢
      rw [show f_J_bitCount (fo_fi (Mm 7) c) Z0 = f_J_bitCount (fo_fi (Mm 7) c) W0 from rfl]
      generalize f_J_bitCount (fo_fi (Mm 7) c) W0 = bb
      obtain ⟨q1, s1⟩ := vs_tell (x := bb) s0 (by decide)
      generalize f_X2_tell (bb) Z0 = Z1 at s1 ⊢
      generalize f_X3_enters (bb) W0 = y1 at q1 s1 ⊢
      rw [show f_X0_since 13 2 Z1 = ax_wr (τ.1 265 - Mm 7 265) from vs_since (k := 2) hV' s1 (by decide) (by decide), (vs_m hV' s1).1, (vs_m hV' s1).2.1]
      obtain ⟨q2, s2⟩ := vs_tell (x := ax_wr (τ.1 265 - Mm 7 265)) s1 (by decide)
      generalize f_X2_tell (ax_wr (τ.1 265 - Mm 7 265)) Z1 = Z2 at s2 ⊢
      generalize f_X3_enters (ax_wr (τ.1 265 - Mm 7 265)) y1.2 = y2 at q2 s2 ⊢
      exact ⟨trivial, ⟨q1, q2, trivial⟩, rfl, s2.1.g⟩
  · rw [h1, h2, if_neg (fun h => h rfl), if_neg (fun h => h rfl)]
    exact ⟨trivial, trivial, rfl, hG1⟩
end PRT
