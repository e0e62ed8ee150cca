/-! ===== what is held fast; trials ===== -/
def fo_sl (M : ax_M) : Nat := ((M 0 3).toNat + (M 0 4).toNat) % 9 * 274
section PRV
variable {C : Int} {Mc Mm Nc Nm M N : ax_M} {r τ : fo_R}
theorem cQ_of (h : ∀ t, t = 0 ∨ (1 ≤ t ∧ t ≤ 10) ∨ t = 26 ∨ t = 27 ∨ t = 29 ∨ t = 32 ∨ t = 34 ∨ t = 36 ∨ t = 37 → N t = M t) (h25 : ∀ i, i < fo_sl M ∨ fo_sl M + 274 ≤ i → N 25 i = M 25 i) (h13 : cS 13 M N) (ha : ∀ f, f ≠ 3 → N 28 f = M 28 f ∧ N 31 f = M 31 f) : cQ M N :=
  ⟨⟨fun f _ => by rw [h 0 (Or.inl rfl)], fun s hs => h s (by omega), ha⟩, ⟨by rw [h 0 (Or.inl rfl)], by rw [h 0 (Or.inl rfl)], h25⟩, fun k h1 h2 => h k (by omega), cS.e (h 1 (by omega)), h13⟩
theorem mQ_of (h : ∀ t, t = 2 ∨ t = 3 ∨ t = 7 ∨ t = 17 ∨ t = 18 ∨ t = 20 ∨ t = 21 → N t = M t) (h0 : ∀ f, f = 4 ∨ f = 10 ∨ f = 24 ∨ f = 32 → N 0 f = M 0 f) (h13 : ∀ i : Nat, (i : Int) < 274 * M 0 24 → N 13 i = M 13 i) (h8 : ∀ j, 274 ≤ j → N 8 j = M 8 j) : mQ M N :=
  ⟨⟨fun f hf => h0 f (by omega), fun s hs => h s (by omega)⟩, ⟨h0 24 (by omega), h13⟩, h 7 (by omega), h8⟩
theorem pr_P.sl (h : pr_P C Mc Mm) : f_X2_pastSlot Mc = ((fo_sl Mc : Nat) : Int) ∧ fo_sl Mc + 274 ≤ 2466 := by
  obtain ⟨h1, h2, h3, h4, h5, _⟩ := h
  unfold f_X2_pastSlot fo_sl
  omega
theorem pr_7hi (h : pr_N C Mc Mm) : ∀ j, 274 ≤ j → Mm 7 j = 0 := fun j hj => by rw [← h.1, fo_cr, fo_dec_hi hj]
/-- what is now is held fast -/
theorem pb_begin (h : pr_G C Mc Mm) : pr_G C (f_X2_begin Mc) Mm ∧ fo_vw (f_X2_begin Mc) 25 (fo_sl (f_X2_begin Mc)) = Mm 7 ∧ (∀ k, 1 ≤ k → k < 7 → f_X2_begin Mc 11 k = Mm 7 (263 + k)) ∧ ∀ t, t ≠ 11 → t ≠ 25 → f_X2_begin Mc t = Mc t := by
  obtain ⟨hs1, hs2⟩ := h.1.2.1.sl
  have hm1 : ∀ t, t ≠ 11 → f_X0_mark 1 Mc t = Mc t := fun t ht => ax_cp_o ht
  have hm2 : ∀ k, k < 7 → f_X0_mark 1 Mc 11 k = Mc 10 k := fun k hk => by
    have e : f_X0_mark 1 Mc 11 k = Mc (1 + 9) (0 + (k - 0)) := ax_cp_at (a1 := 11) (dp := 0) (by omega) (by omega)
    rw [e, Nat.zero_add, Nat.sub_zero]
  unfold f_X2_begin
  simp only [ax_bd]
  generalize f_X0_mark 1 Mc = M1 at hm1 hm2 ⊢
  have esl : fo_sl M1 = fo_sl Mc := by unfold fo_sl; rw [hm1 0 (by decide)]
  have hp : f_X2_pastSlot M1 = ((fo_sl Mc : Nat) : Int) := by rw [← hs1]; unfold f_X2_pastSlot; rw [hm1 0 (by decide)]
  rw [hp]
  obtain ⟨q1, q2, q3⟩ := fc_save (b := 1) (s := 25) (n := 2466) (o := fo_sl Mc) (M := M1) (Or.inr (by omega)) hs2
  generalize f_X0_save 1 2466 25 ((fo_sl Mc : Nat) : Int) M1 = O at q1 q2 q3 ⊢
  have hfr : ∀ t, t ≠ 11 → t ≠ 25 → O t = Mc t := fun t h1 h2 => by rw [q1 t h2, hm1 t h1]
  have hq : cQ Mc O := cQ_of (fun t ht => hfr t (by omega) (by omega)) (fun i hi => by rw [q3 i hi, hm1 25 (by decide)]) (cS.e (hfr 13 (by decide) (by decide))) (fun f _ => ⟨by rw [hfr 28 (by decide) (by decide)], by rw [hfr 31 (by decide) (by decide)]⟩)
  have esl' : fo_sl O = fo_sl Mc := by unfold fo_sl; rw [hfr 0 (by decide) (by decide)]
  refine ⟨⟨pr_U_q hq mQ.rf h.1, pr_T_cg (by rw [hfr 0 (by decide) (by decide)]) (hfr 35 (by decide) (by decide)) rfl rfl h.2⟩, ?_, fun k k1 k2 => ?_, hfr⟩
  · rw [esl', q2, ← h.c]
    exact fo_cr_same (fun k k1 k2 => hm1 _ (by omega))
  · rw [q1 11 (by decide), hm2 k k2]
    exact fr_ct (b := 1) h.c k1 k2
def pr_B (C : Int) (r : fo_R) (Nc Nm : ax_M) : Prop := pr_G C Nc Nm ∧ Nm 7 = r ∧ fo_vw Nc 25 (fo_sl Nc) = r
/-- a trial under way, τ its row -/
def pr_V (C : Int) (r τ : fo_R) (Nc Nm : ax_M) : Prop := pr_B C r Nc Nm ∧ fo_cr 13 Nc = τ ∧ Nm 8 = τ ∧ (∀ k, 1 ≤ k → k < 7 → Nc 23 k = r (263 + k)) ∧ Nm 0 26 = r 265 ∧ Nm 0 27 = r 266 ∧ fo_I τ
theorem pb_B (h : pr_G C Mc Mm) : pr_B C (Mm 7) (f_X2_begin Mc) Mm := ⟨(pb_begin h).1, rfl, (pb_begin h).2.1⟩
theorem pr_B.th {x : Int} (h : pr_B C r Nc Nm) : pr_B C r Nc (ax_up Nm 0 0 x) := ⟨h.1.th, by rw [ax_up_ne (by decide)]; exact h.2.1, h.2.2⟩
/-- what leaves all that was told, too -/
theorem pr_B_q (hc : cQ Mc Nc) (hm : mQ Mm Nm) (h25 : Nc 25 = Mc 25) (h0 : Nc 0 12 = Mc 0 12) (h35 : Nc 35 = Mc 35) (m0 : Nm 0 1 = Mm 0 1) (m1 : Nm 1 = Mm 1) (h : pr_B C r Mc Mm) : pr_B C r Nc Nm := by
  refine ⟨⟨pr_U_q hc hm h.1.1, pr_T_cg h0 h35 m0 m1 h.1.2⟩, by rw [hm.2.2.1]; exact h.2.1, ?_⟩
  have e : fo_sl Nc = fo_sl Mc := by unfold fo_sl; rw [hc.2.1.1, hc.2.1.2.1]
  rw [e, ← h.2.2]
  exact fo_vw_cg (fun i _ _ => by rw [h25])
theorem pr_B_g {D : Int} (hD : C ≤ D) (hA : cA Mc Nc) (hP : cP Mc Nc) (h2 : ∀ k, 2 ≤ k → k ≤ 10 → Nc k = Mc k) (s1 : pr_SB D 1 Nc) (s13 : pr_SB D 13 Nc) (hm : mQ Mm Nm) (h25 : Nc 25 = Mc 25) (h0 : Nc 0 12 = Mc 0 12) (h35 : Nc 35 = Mc 35) (m0 : Nm 0 1 = Mm 0 1) (m1 : Nm 1 = Mm 1) (h : pr_B C r Mc Mm) : pr_B D r Nc Nm := by
  have hN := h.1.1.1
  have hcr : fo_cr 1 Nc = fo_cr 1 Mc := fo_cr_same (fun k h1 h3 => h2 (1 + k) (by omega) (by omega))
  have hN' : pr_N D Nc Nm := ⟨by rw [hcr, hm.2.2.1]; exact hN.1, by rw [hm.2.2.1]; exact hN.2.1.mono hD, s1, s13, fun j hj => by rw [hm.2.2.2 j hj]; exact hN.2.2.2.2 j hj⟩
  refine ⟨⟨pr_U_mk hD hA hm.1 h.1.1 hN' (pr_P_cg hD hP hm.2.1 h.1.1.2.1), pr_T_cg h0 h35 m0 m1 h.1.2⟩, by rw [hm.2.2.1]; exact h.2.1, ?_⟩
  have e : fo_sl Nc = fo_sl Mc := by unfold fo_sl; rw [hP.1, hP.2.1]
  rw [e, ← h.2.2]
  exact fo_vw_cg (fun i _ _ => by rw [h25])
theorem pv_begin (h : pr_B C r Nc Nm) : pr_V C r r (f_X2_beginTrial Nc) (f_X3_copiesAll Nm) := by
  obtain ⟨hs1, hs2⟩ := h.1.1.2.1.sl
  have hr7 := h.2.1
  obtain ⟨q1, q2⟩ := fc_load (b := 13) (s := 25) (n := 2466) (o := fo_sl Nc) (M := Nc) (Or.inr (by omega)) hs2
  have hB := h
  unfold f_X2_beginTrial
  simp only [ax_bd]
  rw [hs1]
  generalize f_X0_load 13 2466 25 ((fo_sl Nc : Nat) : Int) Nc = M1 at q1 q2 ⊢
  have hm1 : ∀ t, t ≠ 23 → f_X0_mark 13 M1 t = M1 t := fun t ht => ax_cp_o ht
  have hm2 : ∀ k, k < 7 → f_X0_mark 13 M1 23 k = M1 22 k := fun k hk => by
    have e : f_X0_mark 13 M1 23 k = M1 (13 + 9) (0 + (k - 0)) := ax_cp_at (a1 := 23) (dp := 0) (by omega) (by omega)
    rw [e, Nat.zero_add, Nat.sub_zero]
  generalize f_X0_mark 13 M1 = O at hm1 hm2 ⊢
  have hfr : ∀ t, t ≤ 13 ∨ 23 < t → O t = Nc t := fun t ht => by rw [hm1 t (by omega), q1 t (by omega)]
  have hc13 : fo_cr 13 O = r := by rw [← h.2.2, ← q2]; exact fo_cr_same (fun k k1 k2 => hm1 _ (by omega))
  have hq : cQ Nc O := cQ_of (fun t ht => hfr t (by omega)) (fun i hi => by rw [hfr 25 (by omega)]) (cS.e (hfr 13 (by omega))) (fun f _ => ⟨by rw [hfr 28 (by omega)], by rw [hfr 31 (by omega)]⟩)
  obtain ⟨m1, m2, m3, m4, m5⟩ := fm_copiesAll (M := Nm) (fun j hj => by rw [h.1.1.1.2.2.2.2 j hj, pr_7hi h.1.1.1 j hj])
  generalize f_X3_copiesAll Nm = Om at m1 m2 m3 m4 m5 ⊢
  have hmq : mQ Nm Om := mQ_of (fun t ht => m2 t (by omega) (by omega)) (fun f hf => m3 f (by omega) (by omega)) (fun i _ => by rw [m2 13 (by decide) (by decide)]) (fun j hj => by rw [m1, h.1.1.1.2.2.2.2 j hj, pr_7hi h.1.1.1 j hj])
  refine ⟨pr_B_q hq hmq (hfr 25 (by omega)) (by rw [hfr 0 (by omega)]) (hfr 35 (by omega)) (m3 1 (by decide) (by decide)) (m2 1 (by decide) (by decide)) hB, hc13, by rw [m1]; exact hr7, fun k k1 k2 => ?_, by rw [m4, hr7], by rw [m5, hr7], ?_⟩
  · rw [hm2 k k2, ← hm1 22 (by decide)]
    exact fr_ct (b := 13) hc13 k1 k2
  · rw [← hr7]
    exact h.1.I
/-- a write of a trial -/
theorem pv_write {a p : Nat} {v : Int} {ev : fo_R → Int} (ha : a = 28 ∨ a = 31) (hp : p < 24) (hv : 0 ≤ v ∧ v < 100) (hclk : τ 270 < 2147483647) (hwc : fo_Wv a 13 ev Nc) (hwm : fo_Wm ev Nm) (h : pr_V C r τ Nc Nm) :
    (f_X0_write 13 (p : Int) v (a : Int) Nc).1 ∧ (f_X3_writesOne 8 (p : Int) v Nm).1 ∧
    pr_V C r (fo_write ev p v τ).1 (f_X0_write 13 (p : Int) v (a : Int) Nc).2.2 (f_X3_writesOne 8 (p : Int) v Nm).2.2 ∧
    fo_Fw 13 a Nc (f_X0_write 13 (p : Int) v (a : Int) Nc).2.2 ∧
    (f_X0_write 13 (p : Int) v (a : Int) Nc).2.2 13 15 = (f_X3_writesOne 8 (p : Int) v Nm).2.2 0 22 ∧
    (f_X0_write 13 (p : Int) v (a : Int) Nc).2.2 13 16 = (f_X3_writesOne 8 (p : Int) v Nm).2.2 0 23 ∧
    (f_X0_write 13 (p : Int) v (a : Int) Nc).2.2 13 11 = ((fo_write ev p v τ).2.length : Int) ∧
    ((f_X3_writesOne 8 (p : Int) v Nm).2.2 0 20 = ((fo_write ev p v τ).2.length : Int) ∧ ∀ i q, (fo_write ev p v τ).2[i]? = some q → (f_X3_writesOne 8 (p : Int) v Nm).2.2 9 i = q.1 ∧ (f_X3_writesOne 8 (p : Int) v Nm).2.2 10 i = q.2.1 ∧ (f_X3_writesOne 8 (p : Int) v Nm).2.2 11 i = q.2.2.1 ∧ (f_X3_writesOne 8 (p : Int) v Nm).2.2 12 i = q.2.2.2) ∧
    ((f_X0_write 13 (p : Int) v (a : Int) Nc).2.2 13 16 = 0 ∨ (f_X0_write 13 (p : Int) v (a : Int) Nc).2.2 13 16 = 1) ∧
    ((f_X3_writesOne 8 (p : Int) v Nm).2.2 0 10 = Nm 0 10 ∧ (f_X3_writesOne 8 (p : Int) v Nm).2.2 3 = Nm 3 ∧ (f_X3_writesOne 8 (p : Int) v Nm).2.2 0 35 = Nm 0 35 ∧ (f_X3_writesOne 8 (p : Int) v Nm).2.2 4 = Nm 4 ∧ (f_X3_writesOne 8 (p : Int) v Nm).2.2 0 11 = Nm 0 11 ∧ (f_X3_writesOne 8 (p : Int) v Nm).2.2 19 = Nm 19) := by
  obtain ⟨hB, hc, hm, hmk, h26, h27, hI⟩ := h
  have h12 : Nc 13 12 = 1073741824 := hB.1.1.1.2.2.2.1.1
  obtain ⟨a1, a2, a3, a4, _, a6, a7⟩ := rl_writeU (a := a) (b := 13) (ev := ev) (by omega) hp hv hc hI hclk h12 hwc
  obtain ⟨b1, _, M0', b3, b4⟩ := fm_write (a := 8) (ev := ev) (v := v) ⟨by decide, Or.inl (by decide)⟩ (Or.inr rfl) hm hp hI hclk hwm
  obtain ⟨i1, _, i3⟩ := fo_write_ok (ev := ev) (v := v) hp hI
  have hlen := lq_write (ev := ev) (v := v) hp hI
  have a13 : ∀ k, 23 ≤ k → k < 24 → (f_X0_write 13 (p : Int) v (a : Int) Nc).2.2 k = Nc k := fun k k1 k2 => a2.1 k (by omega) (by omega) (by omega) (by omega)
  generalize f_X0_write 13 (p : Int) v (a : Int) Nc = X at a1 a2 a3 a4 a6 a7 a13 ⊢
  generalize f_X3_writesOne 8 (p : Int) v Nm = Y at b1 b3 ⊢
  have e0 : ∀ f, f ≠ 20 → f ≠ 21 → f ≠ 22 → f ≠ 23 → Y.2.2 0 f = Nm 0 f := fun f f1 f2 f3 f4 => by
    rw [b3.2.2.2.2 f f1, b4.2.1 f f2 f4, fo_up_at, fo_u_o f3, fo_up_at, fo_u_o f1]
  have es : ∀ s, s ≠ 0 → s ≠ 5 → s ≠ 6 → s ≠ 8 → (s < 9 ∨ 12 < s) → Y.2.2 s = Nm s := fun s s1 s2 s3 s4 s5 => by
    rw [b3.2.2.2.1 s s4 s1 s5, b4.1 s s1 s2 s3, ax_up_ne s1, ax_up_ne s1]
  have hq : cQ Nc X.2.2 := cQ_of (fun t ht => a2.1 t (by omega) (by omega) (by omega) (by omega)) (fun i _ => by rw [a2.1 25 (by omega) (by omega) (by omega) (by omega)]) (cS.w (a2.2.2 12 (by omega)) (by rw [a4]; omega) (by rw [a4]; omega)) (fun f hf => by
    rcases ha with e | e <;> subst e
    · exact ⟨a2.2.1 f hf, by rw [a2.1 31 (by omega) (by omega) (by omega) (by omega)]⟩
    · exact ⟨by rw [a2.1 28 (by omega) (by omega) (by omega) (by omega)], a2.2.1 f hf⟩)
  have hmq : mQ Nm Y.2.2 := mQ_of (fun t ht => es t (by omega) (by omega) (by omega) (by omega) (by omega)) (fun f hf => e0 f (by omega) (by omega) (by omega) (by omega)) (fun i _ => by rw [es 13 (by omega) (by omega) (by omega) (by omega) (by omega)]) (fun j hj => by rw [b3.1, i3 j (by omega), hm])
  have hsN : ((fo_write ev p v τ).2.length : Int) ≤ 49 := by omega
  refine ⟨a1, b1, ⟨pr_B_q hq hmq (a2.1 25 (by omega) (by omega) (by omega) (by omega)) (by rw [a2.1 0 (by omega) (by omega) (by omega) (by omega)]) (a2.1 35 (by omega) (by omega) (by omega) (by omega)) (e0 1 (by decide) (by decide) (by decide) (by decide)) (es 1 (by decide) (by decide) (by decide) (by decide) (by decide)) hB, a3, b3.1, fun k k1 k2 => ?_, by rw [e0 26 (by decide) (by decide) (by decide) (by decide)]; exact h26, by rw [e0 27 (by decide) (by decide) (by decide) (by decide)]; exact h27, i1⟩, a2, ?_, ?_, a4, ⟨?_, fun i q hi => ?_⟩, ?_, ?_⟩
  · rw [a13 23 (by omega) (by omega)]
    exact hmk k k1 k2
  · rw [a7, b3.2.2.2.2 22 (by decide), b4.2.1 22 (by decide) (by decide), fo_up_at, fo_u_s]
  · rw [a6.2.1, b3.2.2.2.2 23 (by decide), b4.2.2.1]
  · rw [b3.2.1, if_pos (by omega), Nat.zero_add]
  · have := b3.2.2.1 i q hi (by
      have : i < (fo_write ev p v τ).2.length := by
        rcases Nat.lt_or_ge i (fo_write ev p v τ).2.length with h' | h'
        · exact h'
        · rw [List.getElem?_eq_none h'] at hi; cases hi
      omega)
    rw [Nat.zero_add] at this
    exact this
  · rw [a6.2.1]
    split
    · exact Or.inr rfl
    · exact Or.inl rfl
  · exact ⟨e0 10 (by decide) (by decide) (by decide) (by decide), es 3 (by decide) (by decide) (by decide) (by decide) (by decide), e0 35 (by decide) (by decide) (by decide) (by decide), es 4 (by decide) (by decide) (by decide) (by decide) (by decide), e0 11 (by decide) (by decide) (by decide) (by decide), es 19 (by decide) (by decide) (by decide) (by decide) (by decide)⟩
/-- the rule that is laid down, on both sides -/
theorem pr_R.ev (h : pr_R Nc Nm) : ∃ (a : Nat) (cs : List Int), (a = 28 ∨ a = 31) ∧ Nc 0 7 = (a : Int) ∧ (∀ b, b + 11 < a → fo_Wv a b (fo_ev cs) Nc) ∧ fo_Wm (fo_ev cs) Nm := by
  obtain ⟨a, cs, ha, h1, _, h3, h4, ⟨h5, h6⟩, h7⟩ := h
  refine ⟨a, cs, ha, h1, fun b hb => fc_Wv hb h3 h4 h5 h6, ?_⟩
  rcases h7 with ⟨e1, e2⟩ | ⟨e1, e2, e3⟩
  · rw [e2]
    exact fm_Wm0 e1
  · exact fm_Wm (by omega) e1 h4 e2 e3
/-- counts since the trial began -/
theorem pv_since {k : Nat} (h1 : 1 ≤ k) (h2 : k < 7) (h : pr_V C r τ Nc Nm) : f_X0_since 13 (k : Int) Nc = ax_wr (τ (263 + k) - r (263 + k)) := by
  unfold f_X0_since
  rw [if_neg (by omega), if_pos (by omega), fo_t0, fr_ct (b := 13) h.2.1 h1 h2, show Nc (13 + 10) k = r (263 + k) from h.2.2.2.1 k h1 h2]
end PRV
