/-! ===== class and model side by side ===== -/
def fo_G (C : Int) (r : fo_R) : Prop := fo_I r ∧ r 270 ≤ C
/-- what is told; the text; what was heard; what can be undone; what is kept; rules; the row -/
def pr_T (Mc Mm : ax_M) : Prop := Mc 0 12 = Mm 0 1 ∧ 0 ≤ Mm 0 1 ∧ Mm 0 1 ≤ 12 ∧ ∀ i : Nat, (i : Int) < Mm 0 1 → Mc 35 i = Mm 1 i
def pr_X (Mc Mm : ax_M) : Prop := Mc 0 10 = Mm 0 4 ∧ 0 ≤ Mm 0 4 ∧ Mm 0 4 ≤ 80 ∧ ∀ i : Nat, (i : Int) < Mm 0 4 → Mc 34 i = Mm 2 i ∧ 0 ≤ Mm 2 i ∧ Mm 2 i ≤ 255
def pr_H (Mc Mm : ax_M) : Prop := Mc 0 15 = Mm 0 32 ∧ 0 ≤ Mm 0 32 ∧ Mm 0 32 ≤ 12 ∧ ∀ i : Nat, (i : Int) < Mm 0 32 → Mc 36 i = Mm 17 i ∧ Mc 37 i = Mm 18 i ∧ 0 ≤ Mm 17 i ∧ Mm 17 i ≤ 3 ∧ 0 ≤ Mm 18 i ∧ Mm 18 i ≤ 9 ∧ (Mm 17 i = 3 → Mm 18 i ≤ 5)
def pr_P (C : Int) (Mc Mm : ax_M) : Prop := Mc 0 4 = Mm 0 24 ∧ 0 ≤ Mc 0 3 ∧ Mc 0 3 < 9 ∧ 0 ≤ Mm 0 24 ∧ Mm 0 24 ≤ 8 ∧ ∀ i : Nat, (i : Int) < Mm 0 24 → fo_vw Mc 25 (((Mc 0 3).toNat + i) % 9 * 274) = fo_mw Mm 13 (274 * i) ∧ fo_G C (fo_mw Mm 13 (274 * i))
def pr_K (C : Int) (Mc Mm : ax_M) : Prop := ∀ i : Nat, i < 2 → Mc 27 i = Mm 20 i ∧ (Mm 20 i ≠ 0 → fo_vw Mc 26 (i * 274) = fo_mw Mm 21 (274 * i) ∧ fo_G C (fo_mw Mm 21 (274 * i)))
/-- a code laid down in the class at a; in the model -/
def pr_cC (a : Nat) (cs : List Int) (Mc : ax_M) : Prop := Mc a 1 = (cs.length : Int) ∧ ∀ i, i < cs.length → ∃ c, cs[i]? = some c ∧ Mc (a + 1) i = fo_sgn c
def pr_cM (cs : List Int) (Mm : ax_M) : Prop := (Mm 0 10 = 0 ∧ cs = [1000, 4, 2001]) ∨ (cs.length ≠ 0 ∧ Mm 0 10 = (cs.length : Int) ∧ ∀ i, i < cs.length → cs[i]? = some (Mm 3 i))
def pr_R (Mc Mm : ax_M) : Prop := ∃ (a : Nat) (cs : List Int), (a = 28 ∨ a = 31) ∧ Mc 0 7 = (a : Int) ∧ Mc 0 8 = ((59 - a : Nat) : Int) ∧ cs.length ≤ 40 ∧ fo_wf cs 0 ∧ pr_cC a cs Mc ∧ pr_cM cs Mm
/-- no limit of steps, and not too many of them yet -/
def pr_SB (C : Int) (b : Nat) (M : ax_M) : Prop := M b 12 = 1073741824 ∧ 0 ≤ M b 11 ∧ M b 11 ≤ 1000 * C + 500
def pr_N (C : Int) (Mc Mm : ax_M) : Prop := fo_cr 1 Mc = Mm 7 ∧ fo_G C (Mm 7) ∧ pr_SB C 1 Mc ∧ pr_SB C 13 Mc ∧ ∀ j, 274 ≤ j → Mm 8 j = 0
def pr_U (C : Int) (Mc Mm : ax_M) : Prop := pr_N C Mc Mm ∧ pr_P C Mc Mm ∧ pr_K C Mc Mm ∧ pr_H Mc Mm ∧ pr_X Mc Mm ∧ (C < 2000000000 → pr_R Mc Mm)
def pr_G (C : Int) (Mc Mm : ax_M) : Prop := pr_U C Mc Mm ∧ pr_T Mc Mm
theorem fo_G.mono {C D : Int} {r : fo_R} (h : fo_G C r) (hD : C ≤ D) : fo_G D r := ⟨h.1, by have := h.2; omega⟩
/-! what calls leave as it was -/
def cA (M N : ax_M) : Prop := (∀ f, f = 7 ∨ f = 8 ∨ f = 10 ∨ f = 15 → N 0 f = M 0 f) ∧ (∀ s, s = 26 ∨ s = 27 ∨ s = 29 ∨ s = 32 ∨ s = 34 ∨ s = 36 ∨ s = 37 → N s = M s) ∧ ∀ f, f ≠ 3 → N 28 f = M 28 f ∧ N 31 f = M 31 f
def mA (M N : ax_M) : Prop := (∀ f, f = 4 ∨ f = 10 ∨ f = 32 → N 0 f = M 0 f) ∧ ∀ s, s = 2 ∨ s = 3 ∨ s = 17 ∨ s = 18 ∨ s = 20 ∨ s = 21 → N s = M s
def cP (M N : ax_M) : Prop := N 0 3 = M 0 3 ∧ N 0 4 = M 0 4 ∧ ∀ i, (i < ((M 0 3).toNat + (M 0 4).toNat) % 9 * 274 ∨ ((M 0 3).toNat + (M 0 4).toNat) % 9 * 274 + 274 ≤ i) → N 25 i = M 25 i
def mP (M N : ax_M) : Prop := N 0 24 = M 0 24 ∧ ∀ i : Nat, (i : Int) < 274 * M 0 24 → N 13 i = M 13 i
/-- steps are no more than they were, or few -/
def cS (b : Nat) (M N : ax_M) : Prop := N b 12 = M b 12 ∧ ∀ B : Int, 500 ≤ B → 0 ≤ M b 11 → M b 11 ≤ B → 0 ≤ N b 11 ∧ N b 11 ≤ B
def cN (M N : ax_M) : Prop := (∀ k, 2 ≤ k → k ≤ 10 → N k = M k) ∧ cS 1 M N ∧ cS 13 M N
def mN (M N : ax_M) : Prop := N 7 = M 7 ∧ ∀ j, 274 ≤ j → N 8 j = M 8 j
def cQ (M N : ax_M) : Prop := cA M N ∧ cP M N ∧ cN M N
def mQ (M N : ax_M) : Prop := mA M N ∧ mP M N ∧ mN M N
section PRQ
variable {M N O : ax_M}
theorem cS.rf {b : Nat} : cS b M M := ⟨rfl, fun _ _ h0 h => ⟨h0, h⟩⟩
theorem cS.e {b : Nat} (h : N b = M b) : cS b M N := ⟨by rw [h], fun _ _ h0 h1 => by rw [h]; exact ⟨h0, h1⟩⟩
theorem cS.w {b : Nat} (h : N b 12 = M b 12) (h0 : 0 ≤ N b 11) (h1 : N b 11 ≤ 500) : cS b M N := ⟨h, fun B hB _ _ => ⟨h0, by omega⟩⟩
theorem cS.tr {b : Nat} (h : cS b M N) (g : cS b N O) : cS b M O := ⟨g.1.trans h.1, fun B hB h0 h1 => by
  obtain ⟨a1, a2⟩ := h.2 B hB h0 h1
  exact g.2 B hB a1 a2⟩
theorem pr_SB.e {C D : Int} {b : Nat} (h : pr_SB C b M) (e : N b = M b) (hD : C ≤ D) : pr_SB D b N := by
  unfold pr_SB at *
  rw [e]
  omega
theorem pr_SB.s {C D : Int} {b : Nat} (h : pr_SB C b M) (g : cS b M N) (h0 : 0 ≤ C) (hD : C ≤ D) : pr_SB D b N := by
  unfold pr_SB at *
  obtain ⟨a1, a2⟩ := g.2 (1000 * C + 500) (by omega) h.2.1 h.2.2
  exact ⟨g.1.trans h.1, a1, by omega⟩
theorem pr_SB.lim {C : Int} {b : Nat} (h : pr_SB C b M) (hC : C ≤ 900000) : 0 ≤ M b 11 ∧ M b 11 ≤ 1000000000 := by
  unfold pr_SB at h
  omega
theorem pr_SB.act {C : Int} {b : Nat} (h : pr_SB C b M) (e : N b 12 = M b 12) (g : 0 ≤ N b 11 ∧ N b 11 ≤ M b 11 + 300) : pr_SB (C + 1) b N := by
  unfold pr_SB at *
  exact ⟨e.trans h.1, by omega, by omega⟩
theorem pr_SB.w {C D : Int} {b : Nat} (h : pr_SB C b M) (e : N b 12 = M b 12) (h0 : 0 ≤ N b 11) (h1 : N b 11 ≤ 500) (hD : 0 ≤ D) : pr_SB D b N := by
  unfold pr_SB at *
  exact ⟨e.trans h.1, by omega, by omega⟩
theorem pr_SB.r32 {C : Int} {b : Nat} (h : pr_SB C b M) (hC : C ≤ 1000000) : ax_r32 (M b 11) := by
  unfold pr_SB at h
  unfold ax_r32
  omega
theorem fo_G.nn {C : Int} {r : fo_R} (h : fo_G C r) : 0 ≤ C := Int.le_trans h.1.1 h.2
theorem cA.rf : cA M M := ⟨fun _ _ => rfl, fun _ _ => rfl, fun _ _ => ⟨rfl, rfl⟩⟩
theorem cA.tr (h : cA M N) (g : cA N O) : cA M O := ⟨fun f hf => (g.1 f hf).trans (h.1 f hf), fun s hs => (g.2.1 s hs).trans (h.2.1 s hs), fun f hf => ⟨(g.2.2 f hf).1.trans (h.2.2 f hf).1, (g.2.2 f hf).2.trans (h.2.2 f hf).2⟩⟩
theorem mA.rf : mA M M := ⟨fun _ _ => rfl, fun _ _ => rfl⟩
theorem mA.tr (h : mA M N) (g : mA N O) : mA M O := ⟨fun f hf => (g.1 f hf).trans (h.1 f hf), fun s hs => (g.2 s hs).trans (h.2 s hs)⟩
theorem cP.rf : cP M M := ⟨rfl, rfl, fun _ _ => rfl⟩
theorem cP.tr (h : cP M N) (g : cP N O) : cP M O := ⟨g.1.trans h.1, g.2.1.trans h.2.1, fun i hi => (g.2.2 i (by rw [h.1, h.2.1]; exact hi)).trans (h.2.2 i hi)⟩
theorem mP.rf : mP M M := ⟨rfl, fun _ _ => rfl⟩
theorem mP.tr (h : mP M N) (g : mP N O) : mP M O := ⟨g.1.trans h.1, fun i hi => (g.2 i (by rw [h.1]; exact hi)).trans (h.2 i hi)⟩
theorem cN.rf : cN M M := ⟨fun _ _ _ => rfl, cS.rf, cS.rf⟩
theorem cN.tr (h : cN M N) (g : cN N O) : cN M O := ⟨fun k h1 h2 => (g.1 k h1 h2).trans (h.1 k h1 h2), h.2.1.tr g.2.1, h.2.2.tr g.2.2⟩
theorem mN.rf : mN M M := ⟨rfl, fun _ _ => rfl⟩
theorem mN.tr (h : mN M N) (g : mN N O) : mN M O := ⟨g.1.trans h.1, fun j hj => (g.2 j hj).trans (h.2 j hj)⟩
theorem cQ.rf : cQ M M := ⟨cA.rf, cP.rf, cN.rf⟩
theorem cQ.tr (h : cQ M N) (g : cQ N O) : cQ M O := ⟨h.1.tr g.1, h.2.1.tr g.2.1, h.2.2.tr g.2.2⟩
theorem mQ.rf : mQ M M := ⟨mA.rf, mP.rf, mN.rf⟩
theorem mQ.tr (h : mQ M N) (g : mQ N O) : mQ M O := ⟨h.1.tr g.1, h.2.1.tr g.2.1, h.2.2.tr g.2.2⟩
theorem cN.cr (h : cN M N) : fo_cr 1 N = fo_cr 1 M := fo_cr_same (fun k h1 h2 => h.1 (1 + k) (by omega) (by omega))
theorem cQ.cr (h : cQ M N) : fo_cr 1 N = fo_cr 1 M := h.2.2.cr
/-- a slot that is of no account -/
theorem cA_s {s i : Nat} {v : Int} (hs : s = 1 ∨ s = 25 ∨ s = 30 ∨ s = 33 ∨ s = 35 ∨ (2 ≤ s ∧ s ≤ 24)) : cA M (ax_up M s i v) :=
  ⟨fun f _ => by rw [ax_up_ne (by omega)], fun t _ => ax_up_ne (by omega), fun f _ => ⟨by rw [ax_up_ne (by omega)], by rw [ax_up_ne (by omega)]⟩⟩
theorem cA_0 {f : Nat} {v : Int} (hf : f ≠ 7 ∧ f ≠ 8 ∧ f ≠ 10 ∧ f ≠ 15) : cA M (ax_up M 0 f v) :=
  ⟨fun g _ => by rw [fo_up_at, fo_u_o (by omega)], fun t _ => ax_up_ne (by omega), fun f _ => ⟨by rw [ax_up_ne (by omega)], by rw [ax_up_ne (by omega)]⟩⟩
theorem cQ_s {s i : Nat} {v : Int} (hs : s = 11 ∨ s = 12 ∨ (14 ≤ s ∧ s ≤ 24) ∨ s = 30 ∨ s = 33 ∨ s = 35) : cQ M (ax_up M s i v) :=
  ⟨cA_s (by omega), ⟨by rw [ax_up_ne (by omega)], by rw [ax_up_ne (by omega)], fun i _ => by rw [ax_up_ne (by omega)]⟩, fun k _ _ => ax_up_ne (by omega), cS.e (ax_up_ne (by omega)), cS.e (ax_up_ne (by omega))⟩
theorem cQ_0 {f : Nat} {v : Int} (hf : f = 12 ∨ f = 16) : cQ M (ax_up M 0 f v) :=
  ⟨cA_0 (by omega), ⟨by rw [fo_up_at, fo_u_o (by omega)], by rw [fo_up_at, fo_u_o (by omega)], fun i _ => by rw [ax_up_ne (by omega)]⟩, fun k _ _ => ax_up_ne (by omega), cS.e (ax_up_ne (by omega)), cS.e (ax_up_ne (by omega))⟩
theorem mQ_0 {f : Nat} {v : Int} (hf : f ≠ 4 ∧ f ≠ 10 ∧ f ≠ 24 ∧ f ≠ 32) : mQ M (ax_up M 0 f v) :=
  ⟨⟨fun g _ => by rw [fo_up_at, fo_u_o (by omega)], fun s _ => ax_up_ne (by omega)⟩, ⟨by rw [fo_up_at, fo_u_o (by omega)], fun i _ => by rw [ax_up_ne (by omega)]⟩, ax_up_ne (by omega), fun j _ => by rw [ax_up_ne (by omega)]⟩
theorem mQ_s {s i : Nat} {v : Int} (hs : s = 1 ∨ s = 4 ∨ s = 5 ∨ s = 6 ∨ (9 ≤ s ∧ s ≤ 12) ∨ (14 ≤ s ∧ s ≤ 16) ∨ s = 19) : mQ M (ax_up M s i v) :=
  ⟨⟨fun g _ => by rw [ax_up_ne (by omega)], fun t _ => ax_up_ne (by omega)⟩, ⟨by rw [ax_up_ne (by omega)], fun i _ => by rw [ax_up_ne (by omega)]⟩, ax_up_ne (by omega), fun j _ => by rw [ax_up_ne (by omega)]⟩
end PRQ
section PRU
variable {C D : Int} {Mc Mm Nc Nm : ax_M}
theorem pr_T_cg (h1 : Nc 0 12 = Mc 0 12) (h2 : Nc 35 = Mc 35) (h3 : Nm 0 1 = Mm 0 1) (h4 : Nm 1 = Mm 1) (h : pr_T Mc Mm) : pr_T Nc Nm := by
  unfold pr_T at *
  rw [h1, h2, h3, h4]
  exact h
theorem pr_X_cg (h1 : Nc 0 10 = Mc 0 10) (h2 : Nc 34 = Mc 34) (h3 : Nm 0 4 = Mm 0 4) (h4 : Nm 2 = Mm 2) (h : pr_X Mc Mm) : pr_X Nc Nm := by
  unfold pr_X at *
  rw [h1, h2, h3, h4]
  exact h
theorem pr_H_cg (h1 : Nc 0 15 = Mc 0 15) (h2 : Nc 36 = Mc 36) (h2' : Nc 37 = Mc 37) (h3 : Nm 0 32 = Mm 0 32) (h4 : Nm 17 = Mm 17) (h4' : Nm 18 = Mm 18) (h : pr_H Mc Mm) : pr_H Nc Nm := by
  unfold pr_H at *
  rw [h1, h2, h3, h4, h2', h4']
  exact h
theorem pr_K_cg (hC : C ≤ D) (h1 : Nc 27 = Mc 27) (h2 : Nc 26 = Mc 26) (h3 : Nm 20 = Mm 20) (h4 : Nm 21 = Mm 21) (h : pr_K C Mc Mm) : pr_K D Nc Nm := by
  intro i hi
  obtain ⟨q1, q2⟩ := h i hi
  rw [h1, h3]
  refine ⟨q1, fun hk => ?_⟩
  obtain ⟨q3, q4⟩ := q2 hk
  rw [fo_vw_cg (M := Mc) (fun i _ _ => by rw [h2]), fo_mw_cg (M := Mm) (t := 21) (p := 274 * i) (fun j _ => by rw [h4])]
  exact ⟨q3, q4.mono hC⟩
theorem pr_R_cg (hc : cA Mc Nc) (hm : mA Mm Nm) (h : pr_R Mc Mm) : pr_R Nc Nm := by
  obtain ⟨a, cs, ha, h1, h2, h3, h4, ⟨h5, h6⟩, h7⟩ := h
  have e1 : Nc a 1 = Mc a 1 := by
    obtain ⟨e, e'⟩ := hc.2.2 1 (by decide)
    rcases ha with rfl | rfl
    · exact e
    · exact e'
  have e2 : Nc (a + 1) = Mc (a + 1) := hc.2.1 _ (by omega)
  refine ⟨a, cs, ha, by rw [hc.1 7 (by decide)]; exact h1, by rw [hc.1 8 (by decide)]; exact h2, h3, h4, ⟨by rw [e1]; exact h5, by rw [e2]; exact h6⟩, ?_⟩
  unfold pr_cM at *
  rw [hm.1 10 (by decide), hm.2 3 (by decide)]
  exact h7
theorem pr_P_cg (hC : C ≤ D) (hc : cP Mc Nc) (hm : mP Mm Nm) (h : pr_P C Mc Mm) : pr_P D Nc Nm := by
  obtain ⟨h1, h2, h3, h4, h5, h6⟩ := h
  unfold pr_P
  rw [hc.1, hc.2.1, hm.1]
  refine ⟨h1, h2, h3, h4, h5, fun i hi => ?_⟩
  obtain ⟨q1, q2⟩ := h6 i hi
  have ho : ((Mc 0 3).toNat + i) % 9 * 274 + 274 ≤ ((Mc 0 3).toNat + (Mc 0 4).toNat) % 9 * 274 ∨ ((Mc 0 3).toNat + (Mc 0 4).toNat) % 9 * 274 + 274 ≤ ((Mc 0 3).toNat + i) % 9 * 274 := by
    have : ((Mc 0 3).toNat + i) % 9 ≠ ((Mc 0 3).toNat + (Mc 0 4).toNat) % 9 := by omega
    omega
  rw [fo_vw_cg (M := Mc) (fun j j1 j2 => hc.2.2 j (by omega)), fo_mw_cg (M := Mm) (t := 13) (p := 274 * i) (fun j hj => hm.2 _ (by omega))]
  exact ⟨q1, q2.mono hC⟩
theorem pr_N_cg (hC : C ≤ D) (hc : cN Mc Nc) (hm : mN Mm Nm) (h : pr_N C Mc Mm) : pr_N D Nc Nm := by
  obtain ⟨h1, h2, h3, h4, h5⟩ := h
  refine ⟨by rw [hc.cr, hm.1]; exact h1, by rw [hm.1]; exact h2.mono hC, h3.s hc.2.1 h2.nn hC, h4.s hc.2.2 h2.nn hC, fun j hj => by rw [hm.2 j hj]; exact h5 j hj⟩
theorem pr_U_mk (hC : C ≤ D) (hc : cA Mc Nc) (hm : mA Mm Nm) (h : pr_U C Mc Mm) (n : pr_N D Nc Nm) (p : pr_P D Nc Nm) : pr_U D Nc Nm := by
  obtain ⟨_, _, h3, h4, h5, h6⟩ := h
  exact ⟨n, p, pr_K_cg hC (hc.2.1 27 (by decide)) (hc.2.1 26 (by decide)) (hm.2 20 (by decide)) (hm.2 21 (by decide)) h3,
    pr_H_cg (hc.1 15 (by decide)) (hc.2.1 36 (by decide)) (hc.2.1 37 (by decide)) (hm.1 32 (by decide)) (hm.2 17 (by decide)) (hm.2 18 (by decide)) h4,
    pr_X_cg (hc.1 10 (by decide)) (hc.2.1 34 (by decide)) (hm.1 4 (by decide)) (hm.2 2 (by decide)) h5, fun hD => pr_R_cg hc hm (h6 (by omega))⟩
theorem pr_U_q (hc : cQ Mc Nc) (hm : mQ Mm Nm) (h : pr_U C Mc Mm) : pr_U C Nc Nm :=
  pr_U_mk (Int.le_refl _) hc.1 hm.1 h (pr_N_cg (Int.le_refl _) hc.2.2 hm.2.2 h.1) (pr_P_cg (Int.le_refl _) hc.2.1 hm.2.1 h.2.1)
theorem pr_U.mono (h : pr_U C Mc Mm) (hC : C ≤ D) : pr_U D Mc Mm := pr_U_mk hC cA.rf mA.rf h (pr_N_cg hC cN.rf mN.rf h.1) (pr_P_cg hC cP.rf mP.rf h.2.1)
theorem pr_G.mono (h : pr_G C Mc Mm) (hC : C ≤ D) : pr_G D Mc Mm := ⟨h.1.mono hC, h.2⟩
/-! telling -/
def pr_Tn (n : Nat) (Mc Mm : ax_M) : Prop := pr_T Mc Mm ∧ Mm 0 1 = (n : Int)
theorem tn_anew : pr_Tn 0 (f_X2_tellAnew Mc) (ax_up Mm 0 1 0) := by
  unfold f_X2_tellAnew
  simp only [ax_bd]
  have e1 : ax_up Mc 0 12 0 0 12 = 0 := by rw [fo_up_at, fo_u_s]
  have e2 : ax_up Mm 0 1 0 0 1 = 0 := by rw [fo_up_at, fo_u_s]
  refine ⟨⟨by rw [e1, e2], by rw [e2]; exact Int.le_refl _, by rw [e2]; decide, fun i hi => ?_⟩, e2⟩
  rw [e2] at hi
  omega
theorem cq_anew : cQ Mc (f_X2_tellAnew Mc) := cQ_0 (Or.inl rfl)
theorem cq_tell {x : Int} : cQ Mc (f_X2_tell x Mc) := by
  unfold f_X2_tell
  simp only [ax_bd]
  split
  · exact cQ.rf
  · exact (cQ_s (by omega)).tr (cQ_0 (Or.inl rfl))
theorem mq_enters {x : Int} : mQ Mm (f_X3_enters x Mm).2 := by
  unfold f_X3_enters ax_rq
  simp only [ax_bd]
  exact (mQ_s (by omega)).tr (mQ_0 (by decide))
theorem tn_tell {n : Nat} {x : Int} (h : pr_Tn n Mc Mm) (hn : n < 12) : (f_X3_enters x Mm).1 ∧ pr_Tn (n + 1) (f_X2_tell x Mc) (f_X3_enters x Mm).2 := by
  obtain ⟨⟨h1, h2, h3, h4⟩, h5⟩ := h
  unfold f_X3_enters f_X2_tell ax_rq
  simp only [ax_bd]
  rw [h1, h5, if_neg (by omega), fo_t0]
  have e1 : ax_up Mm 1 n x 0 1 = (n : Int) := by rw [ax_up_ne (by decide), h5]
  have e2 : ax_up Mc 35 n x 0 12 = (n : Int) := by rw [ax_up_ne (by decide), h1, h5]
  rw [e1, e2]
  have k1 : ax_up (ax_up Mm 1 n x) 0 1 ((n : Int) + 1) 0 1 = (n : Int) + 1 := by rw [fo_up_at, fo_u_s]
  have k2 : ax_up (ax_up Mc 35 n x) 0 12 ((n : Int) + 1) 0 12 = (n : Int) + 1 := by rw [fo_up_at, fo_u_s]
  refine ⟨⟨by omega, by omega, trivial⟩, ⟨by rw [k1, k2], by rw [k1]; omega, by rw [k1]; omega, fun i hi => ?_⟩, by rw [k1]; omega⟩
  rw [k1] at hi
  rw [ax_up_ne (M := ax_up Mc 35 n x) (show (35 : Nat) ≠ 0 by decide), ax_up_ne (M := ax_up Mm 1 n x) (show (1 : Nat) ≠ 0 by decide), fo_up_at, fo_up_at, fo_u_eq, fo_u_eq]
  by_cases e : i = n
  · rw [if_pos e, if_pos e]
  · rw [if_neg e, if_neg e]
    exact h4 i (by omega)
/-! a question under way: n are told -/
def pr_S (C : Int) (n : Nat) (r : fo_R) (Mc Mm : ax_M) : Prop := pr_U C Mc Mm ∧ pr_Tn n Mc Mm ∧ Mm 7 = r
theorem ps_anew (h : pr_U C Mc Mm) : pr_S C 0 (Mm 7) (f_X2_tellAnew Mc) (ax_up Mm 0 1 0) :=
  ⟨pr_U_q cq_anew (mQ_0 (by decide)) h, tn_anew, ax_up_ne (by decide)⟩
theorem ps_tell {n : Nat} {x : Int} {r : fo_R} (h : pr_S C n r Mc Mm) (hn : n < 12) : (f_X3_enters x Mm).1 ∧ pr_S C (n + 1) r (f_X2_tell x Mc) (f_X3_enters x Mm).2 := by
  obtain ⟨q1, q2⟩ := tn_tell (x := x) h.2.1 hn
  exact ⟨q1, pr_U_q cq_tell mq_enters h.1, q2, by rw [(mq_enters (x := x) (Mm := Mm)).2.2.1]; exact h.2.2⟩
theorem pr_S.g {n : Nat} {r : fo_R} (h : pr_S C n r Mc Mm) : pr_G C Mc Mm := ⟨h.1, h.2.1.1⟩
theorem pr_S.c {n : Nat} {r : fo_R} (h : pr_S C n r Mc Mm) : fo_cr 1 Mc = r := by rw [h.1.1.1]; exact h.2.2
theorem pr_S.m {n : Nat} {r : fo_R} (h : pr_S C n r Mc Mm) : Mm 7 = r := h.2.2
theorem pr_G.th {x : Int} (h : pr_G C Mc Mm) : pr_G C Mc (ax_up Mm 0 0 x) :=
  ⟨pr_U_q cQ.rf (mQ_0 (by decide)) h.1, pr_T_cg rfl rfl (by rw [fo_up_at, fo_u_o (by decide)]) (ax_up_ne (by decide)) h.2⟩
theorem pr_G.I (h : pr_G C Mc Mm) : fo_I (Mm 7) := h.1.1.2.1.1
theorem pr_G.c (h : pr_G C Mc Mm) : fo_cr 1 Mc = Mm 7 := h.1.1.1
end PRU
