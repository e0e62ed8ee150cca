/-! ===== the class's write ===== -/
section FOU
variable {b a : Nat} {K : Int} {M N : ax_M} {σ : fo_S} {r0 : fo_R} {w : Prop}
theorem fw_trF {M N O : ax_M} (g : fo_Fw b a N O) (h : fo_Fw b a M N) : fo_Fw b a M O :=
  ⟨fun s h1 h2 h3 h4 => (g.1 s h1 h2 h3 h4).trans (h.1 s h1 h2 h3 h4), fun f h1 => (g.2.1 f h1).trans (h.2.1 f h1), fun f h1 => (g.2.2 f h1).trans (h.2.2 f h1)⟩
/-- the row a write begins with, its steps counted from none -/
def fo_r0 (p : Nat) (r : fo_R) : fo_R := fo_u (fo_pre p r) 300 0
theorem rl_pre {p : Nat} {r : fo_R} (hp : p < 24) (hr : fo_cr b M = r) (hI : fo_I r) (hclk : r 270 < 2147483647) (hlim : M b 12 = 1073741824 ∨ (0 ≤ M b 12 ∧ M b 12 ≤ 99)) :
    ∀ N, N = ax_up (ax_up (ax_up (ax_up M b 11 0) b 13 0) (b + 9) 0 (ax_wr ((ax_up (ax_up M b 11 0) b 13 0) (b + 9) 0 + 1))) (b + 7) p (if 99 < ax_wr ((ax_up (ax_up (ax_up M b 11 0) b 13 0) (b + 9) 0 (ax_wr ((ax_up (ax_up M b 11 0) b 13 0) (b + 9) 0 + 1))) (b + 7) p + 1) then 99 else ax_wr ((ax_up (ax_up (ax_up M b 11 0) b 13 0) (b + 9) 0 (ax_wr ((ax_up (ax_up M b 11 0) b 13 0) (b + 9) 0 + 1))) (b + 7) p + 1)) →
      fo_RL b 100 N (fo_pre p r, []) (fo_r0 p r) False ∧ N b 11 = 0 ∧ N b 12 = M b 12 ∧ (a > b + 11 → fo_Fw b a M N) := by
  intro N hN
  have e9 : (ax_up (ax_up M b 11 0) b 13 0) (b + 9) 0 = r 270 := by
    rw [ax_up_ne (by omega), ax_up_ne (by omega), ← hr]; rfl
  rw [e9] at hN
  have e7 : (ax_up (ax_up (ax_up M b 11 0) b 13 0) (b + 9) 0 (ax_wr (r 270 + 1))) (b + 7) p = r (240 + p) := by
    rw [ax_up_ne (by omega), ax_up_ne (by omega), ax_up_ne (by omega), ← hr, fo_cr, fo_dHt hp]
  rw [e7] at hN
  have hht := hI.2.1.ht p hp
  have h0 := hI.1
  rw [ax_wr_id (x := r 270 + 1) (by omega) (by omega), ax_wr_id (x := r (240 + p) + 1) (by omega) (by omega)] at hN
  have ecr : fo_cr b N = fo_pre p r := by
    rw [hN, fo_cr_H hp, fo_cr_Y0, fo_cr_o (Or.inl (Nat.le_refl _)), fo_cr_o (Or.inl (Nat.le_refl _)), hr]
    unfold fo_pre
    congr 1
    split <;> split <;> omega
  have eb : N b = fo_u (fo_u (M b) 11 0) 13 0 := by
    rw [hN, ax_up_ne (by omega), ax_up_ne (by omega), fo_up_at, fo_up_at]
  have e11 : N b 11 = 0 := by rw [eb, fo_u_o (by omega), fo_u_s]
  have e12 : N b 12 = M b 12 := by rw [eb, fo_u_o (by omega), fo_u_o (by omega)]
  have e13 : N b 13 = 0 := by rw [eb, fo_u_s]
  have hL : fo_Lv b N (fo_pre p r, []) False := ⟨ecr, by rw [e13]; simp⟩
  refine ⟨⟨fun j hj => ?_, ?_⟩, e11, e12, fun hab => ⟨fun s h1 h2 h3 h4 => ?_, fun f h1 => ?_, fun f h1 => ?_⟩⟩
  · show fo_pre p r j = fo_r0 p r j
    unfold fo_r0
    rw [fo_u_o (by omega)]
  · rcases hlim with h | h
    · refine Or.inl ⟨⟨by rw [e12]; exact h, hL⟩, ?_⟩
      rw [e11]
      unfold fo_r0
      rw [fo_u_s]
      exact ⟨show (0 : Int) = ax_wr (0 + ((0 : Nat) : Int)) by decide, by decide, by decide, by decide⟩
    · refine Or.inr ⟨by omega, by omega, Or.inl ⟨by rw [e11]; rfl, by omega, hL⟩⟩
  · rw [hN, ax_up_ne (by omega), ax_up_ne (by omega), ax_up_ne (by omega), ax_up_ne (by omega)]
  · rw [hN, ax_up_ne (by omega), ax_up_ne (by omega), ax_up_ne (by omega), ax_up_ne (by omega)]
  · rw [eb, fo_u_o (by omega), fo_u_o (by omega)]
/-- what a write has done, in all -/
def fo_WD (b a : Nat) (ev : fo_R → Int) (p : Nat) (v : Int) (r : fo_R) (M : ax_M) (R : Prop × Int × ax_M) : Prop :=
  R.1 ∧ fo_Fw b a M R.2.2 ∧ fo_RL b 160 R.2.2 (fo_write ev p v r) (fo_r0 p r) False ∧ (M b 12 = 1073741824 → R.2.1 = (fo_leaf p (fo_pre p r, [])).2.1 / 4 ∧ fo_Wf b ev p v r (fo_leaf p (fo_pre p r, [])).2.1 R.2.2 ∧ R.2.2 b 15 = (fo_leaf p (fo_pre p r, [])).1)
theorem rl_write {p : Nat} {v : Int} {r : fo_R} {ev : fo_R → Int} (hab : b + 11 < a) (hp : p < 24) (hv : 0 ≤ v ∧ v < 100) (hr : fo_cr b M = r) (hI : fo_I r) (hclk : r 270 < 2147483647) (hlim : M b 12 = 1073741824 ∨ (0 ≤ M b 12 ∧ M b 12 ≤ 99)) (hw : fo_Wv a b ev M)
    (hth : ∀ N, fo_cr b N = (fo_wr2 p v r).1 → ∀ i, i < 6 → (f_X0_thingsNow b N) (b + 11) i = fo_things (fo_wr2 p v r).1 i) :
    fo_WD b a ev p v r M (f_X0_write b (p : Int) v (a : Int) M) := by
  have hpre := rl_pre (a := a) (M := M) hp hr hI hclk hlim
  unfold f_X0_write
  rw [if_neg (by omega), if_neg (by omega), if_neg (by omega), if_pos (by omega)]
  simp only [ax_bd, fo_t0]
  have ed : (p : Int) / 4 = ((p / 4 : Nat) : Int) := by omega
  have em : (p : Int) % 4 = ((p % 4 : Nat) : Int) := by omega
  rw [ed, em]
  generalize ax_up (ax_up (ax_up (ax_up M b 11 0) b 13 0) (b + 9) 0 (ax_wr ((ax_up (ax_up M b 11 0) b 13 0) (b + 9) 0 + 1))) (b + 7) p (if 99 < ax_wr ((ax_up (ax_up (ax_up M b 11 0) b 13 0) (b + 9) 0 (ax_wr ((ax_up (ax_up M b 11 0) b 13 0) (b + 9) 0 + 1))) (b + 7) p + 1) then 99 else ax_wr ((ax_up (ax_up (ax_up M b 11 0) b 13 0) (b + 9) 0 (ax_wr ((ax_up (ax_up M b 11 0) b 13 0) (b + 9) 0 + 1))) (b + 7) p + 1)) = M8 at hpre ⊢
  obtain ⟨g, e11, e12, fF⟩ := hpre M8 rfl
  have fw := fF hab
  have hlv : M8 b 12 = 1073741824 ∨ M8 b 11 ≤ M8 b 12 := by omega
  obtain ⟨hcr, _⟩ := fo_RL_live g hlv
  obtain ⟨pW, pS⟩ := fo_pre_keep hp hI.2.1 hI.2.2
  have hw8 : fo_Wv a b ev M8 := fun O h1 h2 => hw O (by rw [h1, fw.2.1 1 (by omega)]) (by rw [h2, fw.1 (a + 1) (by omega) (by omega) (by omega) (by omega)])
  have hfin : ∀ (c : Nat) (N : ax_M) (R : Prop × Int × ax_M), fo_Wd b a 160 60 ev p v r (fo_r0 p r) (fo_leaf p (fo_pre p r, [])).2.1 (fo_leaf p (fo_pre p r, [])).1 N R → fo_Fw b a M N → N b 12 = M b 12 → fo_WD b a ev p v r M R :=
    fun c N R h f n12 => ⟨h.1, fw_trF h.2.1.2 f, h.2.2.1, fun h12 => h.2.2.2 (by rw [n12]; exact h12)⟩
  rw [fc_owned, hcr]
  have hlf : fo_leaf p (fo_pre p r, []) = if 0 ≤ fo_blk (fo_pre p r) 1 ((p / 4 : Nat) : Int) then fo_leafA p (fo_blk (fo_pre p r) 1 ((p / 4 : Nat) : Int)).toNat (fo_pre p r, []) else fo_leafA p (fo_free (fo_pre p r)).toNat (fo_take 1 ((p / 4 : Nat) : Int) (fo_pre p r), []) := rfl
  rcases fo_blk_spec (fo_pre p r) 1 ((p / 4 : Nat) : Int) with ⟨e, hn⟩ | ⟨c, e, hc, h1, h2⟩
  · rw [e, if_neg (by omega)] at hlf
    have hfr := pS.free pW
    obtain ⟨n, en, hn16, _⟩ := fo_free_nat hfr
    obtain ⟨r1, r2, r3⟩ := fo_Rdy_take1 hp pW pS hn
    have hz := r3.2.1
    rw [en, fo_t0] at hz hlf
    show fo_WD b a ev p v r M (if fo_blk (fo_pre p r) 1 ((p / 4 : Nat) : Int) ≠ -1 then _ else _)
    rw [e, if_neg (by decide)]
    have zt := fw_of hab (fz_take (b := b) (M := M8) (k := 1) (o := ((p / 4 : Nat) : Int)))
    have eb : (f_X0_take b 1 ((p / 4 : Nat) : Int) M8).2 b = M8 b := fz_take_b
    have g4 := rl_take (b := b) (M := M8) (k := 1) (k' := 1) (o := ((p / 4 : Nat) : Int)) (o' := ((p / 4 : Nat) : Int)) hfr (fun _ => ⟨rfl, rfl⟩) (by omega) g
    have et : (f_X0_take b 1 ((p / 4 : Nat) : Int) M8).1 = (n : Int) := by rw [rl_take1 hcr]; exact en
    rw [et]
    refine hfin n _ _ ?_ (fw_trF zt.2 fw) (by rw [eb, e12])
    have q := rl_J95 (K := 100) (v := v) (c := n) (r0 := fo_r0 p r) (M := (f_X0_take b 1 ((p / 4 : Nat) : Int) M8).2) (σ := (fo_take 1 ((p / 4 : Nat) : Int) (fo_pre p r), [])) hI.1 hab hp hI (fw_Wv hab zt hw8) hth hn16 r1 (Or.inl (by show fo_take 1 ((p / 4 : Nat) : Int) (fo_pre p r) (4 * n + p % 4) ≤ 0; omega)) hlf (by omega) (by omega) g4 (by rw [eb]; exact hlv)
    rw [← hlf] at q
    exact q
  · rw [e, if_pos (by omega), fo_t0] at hlf
    show fo_WD b a ev p v r M (if fo_blk (fo_pre p r) 1 ((p / 4 : Nat) : Int) ≠ -1 then _ else _)
    rw [e, if_pos (show (c : Int) ≠ -1 by omega)]
    refine hfin c _ _ ?_ fw e12
    have q := rl_J95 (K := 100) (v := v) (c := c) (r0 := fo_r0 p r) (M := M8) (σ := (fo_pre p r, [])) hI.1 hab hp hI hw8 hth hc pW (Or.inr ⟨pS, c, hc, h1, h2⟩) hlf (by omega) (by omega) g hlv
    rw [← hlf] at q
    exact q
end FOU
