/-! ===== the model's write is the picture's ===== -/
section FOMV
variable {a n0 : Nat} {M0 M : ax_M} {σ : fo_S}
theorem fm_wipedL : ∀ (n i : Nat) (v : Int), (f_X3_isWiped_L18 M n (i : Int) v (fun z => z) ≠ 0) ↔ (v ≠ 0 ∨ ∃ j, i ≤ j ∧ j < i + n ∧ 64 ≤ M 9 j) := by
  intro n
  induction n with
  | zero =>
    intro i v
    exact ⟨Or.inl, fun h => h.elim id (fun ⟨j, h1, h2, _⟩ => absurd h2 (by omega))⟩
  | succ n ih =>
    intro i v
    have ei : (i : Int) + 1 = ((i + 1 : Nat) : Int) := by omega
    simp only [f_X3_isWiped_L18, f_X3_isWiped_B18]
    rw [fo_t0, ei]
    by_cases hv : v = 0
    · rw [if_neg (fun h => h hv)]
      by_cases h9 : M 9 i < 64
      · rw [if_pos h9, ih]
        constructor
        · rintro (h | ⟨j, h1, h2, h3⟩)
          · exact absurd rfl h
          · exact Or.inr ⟨j, by omega, by omega, h3⟩
        · rintro (h | ⟨j, h1, h2, h3⟩)
          · exact absurd hv h
          · refine Or.inr ⟨j, ?_, by omega, h3⟩
            by_cases e : j = i
            · subst e; omega
            · omega
      · rw [if_neg h9, ih]
        exact ⟨fun _ => Or.inr ⟨i, Nat.le_refl _, by omega, by omega⟩, fun _ => Or.inl (by decide)⟩
    · rw [if_pos hv, ih]
      exact ⟨fun _ => Or.inl hv, fun _ => Or.inl (by decide)⟩
theorem fm_isWiped {x : Int} {n : Nat} (hn : n < 400) (hq : fo_LQ x n σ) (g : fo_MR a 0 M0 M σ) : (f_X3_isWiped x a M ≠ 0) ↔ ∃ q ∈ σ.2, 64 ≤ q.1 := by
  obtain ⟨h1, h2, h3, _⟩ := g
  have hl := hq.1
  rw [if_pos (by omega)] at h2
  have hj : ∀ s0 : Int, f_X3_isWiped_J14 s0 M = f_X3_isWiped_L18 M σ.2.length ((0 : Nat) : Int) s0 (fun z => z) := fun s0 => by
    unfold f_X3_isWiped_J14
    rw [h2, show (((0 + σ.2.length : Nat) : Int) - 0).toNat = σ.2.length by omega]
    rfl
  have hex : (∃ j, 0 ≤ j ∧ j < 0 + σ.2.length ∧ 64 ≤ M 9 j) ↔ ∃ q ∈ σ.2, 64 ≤ q.1 := by
    constructor
    · rintro ⟨j, _, hj2, h6⟩
      have hjl : j < σ.2.length := by omega
      have e : σ.2[j]? = some σ.2[j] := List.getElem?_eq_getElem hjl
      have := (h3 j _ e (by omega)).1
      rw [Nat.zero_add] at this
      exact ⟨σ.2[j], List.getElem_mem hjl, by rw [← this]; exact h6⟩
    · rintro ⟨q, hq', h6⟩
      obtain ⟨j, hjl, e⟩ := List.getElem_of_mem hq'
      have e' : σ.2[j]? = some q := by rw [List.getElem?_eq_getElem hjl, e]
      have := (h3 j q e' (by omega)).1
      rw [Nat.zero_add] at this
      exact ⟨j, Nat.zero_le _, by omega, by rw [this]; exact h6⟩
  unfold f_X3_isWiped
  rw [h1]
  by_cases hc : σ.1 266 ≤ x
  · rw [if_pos hc, hj, fm_wipedL, hex]
    exact ⟨fun h => h.elim (fun h => absurd rfl h) id, Or.inr⟩
  · rw [if_neg hc, hj, fm_wipedL, hex]
    exact ⟨fun _ => hq.2.elim id (fun e => absurd (by omega) hc), Or.inr⟩
/-- the rule, as the model works it out, is worth ev -/
def fo_Wm (ev : fo_R → Int) (M : ax_M) : Prop := ∀ N : ax_M, N 0 10 = M 0 10 → N 3 = M 3 → (f_X3_ruled N).1 ∧ (∀ s, s ≠ 5 → (f_X3_ruled N).2.2 s = N s) ∧ ∀ t : fo_R, (∀ i, i < 6 → N 6 i = t i) → (f_X3_ruled N).2.1 = ev t
theorem fm_isRuled (h7 : a = 7 ∨ a = 8) {ev : fo_R → Int} {B : Int} (hB : B ≤ 2147483647) (hW : fo_WI B (M a)) (hw : fo_Wm ev M) : (f_X3_isRuled a M).1 ∧ (f_X3_isRuled a M).2.1 = (if ev (fo_things (M a)) ≤ 0 then 0 else 1) ∧ ∀ s, s ≠ 5 → s ≠ 6 → (f_X3_isRuled a M).2.2 s = M s := by
  have u : ∀ (N : ax_M) (i : Nat) (v : Int), (∀ s, s ≠ 6 → N s = M s) → ∀ s, s ≠ 6 → ax_up N 6 i v s = M s := fun N i v h s hs => by rw [ax_up_ne hs, h s hs]
  have a6 : a ≠ 6 := by omega
  unfold f_X3_isRuled
  simp only [ax_bd]
  have hm : 0 ≤ fo_most (M a) ∧ fo_most (M a) < 16 := fo_msIn
  have hf : 0 ≤ fo_few (M a) ∧ fo_few (M a) < 16 := fo_msIn
  have wm := hW.wi (fo_most (M a)).toNat (by omega)
  have wf := hW.wi (fo_few (M a)).toNat (by omega)
  have ewear : ax_wr (M a (224 + f_X3_mostWipes a M).toNat - M a (224 + f_X3_fewestWipes a M).toNat) = fo_wear (M a) := by
    rw [fm_mostWipes, fm_fewestWipes]
    have e1 : (224 + fo_most (M a)).toNat = 224 + (fo_most (M a)).toNat := by omega
    have e2 : (224 + fo_few (M a)).toNat = 224 + (fo_few (M a)).toNat := by omega
    rw [e1, e2, ax_wr_id (by omega) (by omega)]
    rfl
  rw [ewear]
  have q1 := u M 0 (fo_wear (M a)) (fun _ _ => rfl)
  generalize hM1 : ax_up M 6 0 (fo_wear (M a)) = M1 at q1 ⊢
  rw [fm_kindMany, q1 a a6]
  have q2 := u M1 1 (fo_many (M a) 0) q1
  generalize hM2 : ax_up M1 6 1 (fo_many (M a) 0) = M2 at q2 ⊢
  rw [q2 a a6]
  have q3 := u M2 2 (ax_rem (M a 264) 10) q2
  generalize hM3 : ax_up M2 6 2 (ax_rem (M a 264) 10) = M3 at q3 ⊢
  rw [q3 a a6]
  have q4 := u M3 3 (ax_rem (M a 265) 10) q3
  generalize hM4 : ax_up M3 6 3 (ax_rem (M a 265) 10) = M4 at q4 ⊢
  rw [fm_kindMany, fm_kindMany, q4 a a6]
  have q5 := u M4 4 (fo_many (M a) 3 + fo_many (M a) 4) q4
  generalize hM5 : ax_up M4 6 4 (fo_many (M a) 3 + fo_many (M a) 4) = M5 at q5 ⊢
  rw [fm_staleMany (by rw [q5 a a6]; exact hW.pg) (by rw [q5 a a6]; exact hW.st hB), q5 a a6]
  have q6 := u M5 5 (fo_stale (M a)) q5
  have hth : ∀ i, i < 6 → ax_up M5 6 5 (fo_stale (M a)) 6 i = fo_things (M a) i := by
    intro i hi
    have d1 := hW.ct 264 (by omega) (by omega)
    have d2 := hW.ct 265 (by omega) (by omega)
    rw [← hM5, ← hM4, ← hM3, ← hM2, ← hM1]
    have er : ∀ x : Int, 0 ≤ x → ax_rem x 10 = x % 10 := fun x hx => Int.tmod_eq_emod_of_nonneg hx
    rw [er _ (by omega), er _ (by omega)]
    simp only [fo_up_at, fo_u, fo_things]
    rcases (by omega : i = 0 ∨ i = 1 ∨ i = 2 ∨ i = 3 ∨ i = 4 ∨ i = 5) with e | e | e | e | e | e <;> subst e <;> rfl
  generalize ax_up M5 6 5 (fo_stale (M a)) = M12 at q6 hth ⊢
  obtain ⟨r1, r2, r3⟩ := hw M12 (by rw [q6 0 (by decide)]) (q6 3 (by decide))
  have ey := r3 _ hth
  generalize f_X3_ruled M12 = y at r1 r2 ey ⊢
  unfold ax_rc
  dsimp only
  rw [ey]
  split
  · exact ⟨⟨r1, trivial⟩, rfl, fun s h5 h6 => by dsimp only; rw [r2 s h5, q6 s h6]⟩
  · exact ⟨⟨r1, trivial⟩, rfl, fun s h5 h6 => by dsimp only; rw [r2 s h5, q6 s h6]⟩
theorem fo_MR_56 (h7 : a = 7 ∨ a = 8) {N : ax_M} (hN : ∀ s, s ≠ 5 → s ≠ 6 → N s = M s) (g : fo_MR a n0 M0 M σ) : fo_MR a n0 (fun s => if s = 5 ∨ s = 6 then N s else M0 s) N σ := by
  obtain ⟨h1, h2, h3, h4, h5⟩ := g
  refine ⟨by rw [hN a (by omega) (by omega)]; exact h1, by rw [hN 0 (by decide) (by decide)]; exact h2, fun i q e hi => ?_, fun s s1 s2 s3 => ?_, fun f hf => ?_⟩
  · rw [hN 9 (by decide) (by decide), hN 10 (by decide) (by decide), hN 11 (by decide) (by decide), hN 12 (by decide) (by decide)]
    exact h3 i q e hi
  · dsimp only
    by_cases h : s = 5 ∨ s = 6
    · rw [if_pos h]
    · rw [if_neg h, hN s (by omega) (by omega)]
      exact h4 s s1 s2 s3
  · dsimp only
    rw [hN 0 (by decide) (by decide), if_neg (by omega)]
    exact h5 f hf
/-- what the model's write leaves of all else -/
def fo_Mf (ev : fo_R → Int) (p : Nat) (v : Int) (r : fo_R) (M0 M0' : ax_M) : Prop :=
  (∀ s, s ≠ 0 → s ≠ 5 → s ≠ 6 → M0' s = M0 s) ∧ (∀ f, f ≠ 21 → f ≠ 23 → M0' 0 f = M0 0 f) ∧ M0' 0 23 = (if fo_wrL ev p v r = true then 1 else 0) ∧ (fo_wrL ev p v r = true → M0' 0 21 = fo_lvl (fo_wr2 p v r).1 1)
theorem fm_J89 (ha : fo_Na a) (h7 : a = 7 ∨ a = 8) {ev : fo_R → Int} {p : Nat} {v l : Int} {r : fo_R} (hp : p < 24) (hI : fo_I r) (hclk : r 270 < 2147483647) (hw : fo_Wm ev M) (hσ : fo_wr2 p v r = (fo_cnt 264 σ.1, σ.2)) (hct : 0 ≤ σ.1 264 ∧ σ.1 264 ≤ 99999) (g : fo_MR a 0 M0 M σ) :
    (f_X3_writesOne_J89 a (r 266) l M).1 ∧ (f_X3_writesOne_J89 a (r 266) l M).2.1 = l ∧ ∃ M0', fo_MR a 0 M0' (f_X3_writesOne_J89 a (r 266) l M).2.2 (fo_write ev p v r) ∧ fo_Mf ev p v r M0 M0' := by
  obtain ⟨w1, w2, _⟩ := fo_wr2_ok (v := v) hp hI
  have hq := lq_wr2 (v := v) hp hI
  have hB0 : 0 ≤ r 270 + 1 := by have := hI.1; omega
  have hB : r 270 + 1 ≤ 2147483647 := by omega
  have g1 := fm_counts (k := 264) ha hct g
  rw [← hσ] at g1
  unfold f_X3_writesOne_J89
  simp only [ax_bd]
  have k1 : ∀ s, s ≠ a → f_X3_counts a 264 M s = M s := fun s hs => by
    unfold f_X3_counts
    simp only [ax_bd]
    rw [ax_up_ne hs]
  have g2 := fo_MR_0 (f := 23) (v := 0) ha (by decide) g1
  have hw2 : fo_Wm ev (ax_up (f_X3_counts a 264 M) 0 23 0) := fun N h1 h2 => hw N (by rw [h1, fo_up_at, fo_u_o (by decide), k1 0 (Ne.symm ha.1)]) (by rw [h2, ax_up_ne (by decide), k1 3 (by omega)])
  replace g2 : fo_MR a 0 (ax_up M0 0 23 0) (ax_up (f_X3_counts a 264 M) 0 23 0) (fo_wr2 p v r) := g2
  generalize ax_up (f_X3_counts a 264 M) 0 23 0 = M12 at g2 hw2 ⊢
  have hwr : fo_wrL ev p v r = (decide ((∃ q ∈ (fo_wr2 p v r).2, 64 ≤ q.1) ∧ 0 < ev (fo_things (fo_wr2 p v r).1)) && fo_lvlOk (fo_wr2 p v r).1) := rfl
  have hwp := fm_isWiped (by omega) hq g2
  have fin0 : fo_wrL ev p v r = false → fo_Mf ev p v r M0 (ax_up M0 0 23 0) := fun h => ⟨fun s h1 _ _ => ax_up_ne h1, fun f _ h2 => by rw [fo_up_at, fo_u_o h2], by rw [fo_up_at, fo_u_s, h]; rfl, fun h' => by rw [h] at h'; exact absurd h' (by decide)⟩
  by_cases hz : f_X3_isWiped (r 266) a M12 = 0
  · rw [if_pos hz]
    have hno : fo_wrL ev p v r = false := by
      rw [hwr, decide_eq_false, Bool.false_and]
      rintro ⟨h1, _⟩
      exact (hwp.mpr h1) hz
    rw [fo_wrL_no hno]
    exact ⟨trivial, rfl, _, g2, fin0 hno⟩
  · rw [if_neg hz]
    have hex := hwp.mp hz
    obtain ⟨r1, r2, r3⟩ := fm_isRuled h7 hB (by rw [g2.1]; exact w1) hw2
    rw [g2.1] at r2
    have g3 := fo_MR_56 h7 r3 g2
    generalize f_X3_isRuled a M12 = y at r1 r2 r3 g3 ⊢
    unfold ax_rc
    dsimp only
    rw [r2]
    have fin1 : fo_wrL ev p v r = false → fo_Mf ev p v r M0 (fun s => if s = 5 ∨ s = 6 then y.2.2 s else ax_up M0 0 23 0 s) := fun h => ⟨fun s h1 h5 h6 => by dsimp only; rw [if_neg (by omega), ax_up_ne h1], fun f _ h2 => by dsimp only; rw [if_neg (by omega), fo_up_at, fo_u_o h2], by dsimp only; rw [if_neg (by omega), fo_up_at, fo_u_s, h]; rfl, fun h' => by rw [h] at h'; exact absurd h' (by decide)⟩
    by_cases he : ev (fo_things (fo_wr2 p v r).1) ≤ 0
    · rw [if_pos he, if_pos (show (0 : Int) = 0 from rfl)]
      have hno : fo_wrL ev p v r = false := by
        rw [hwr, decide_eq_false, Bool.false_and]
        rintro ⟨_, h1⟩
        omega
      rw [fo_wrL_no hno]
      exact ⟨⟨r1, trivial⟩, rfl, _, g3, fin1 hno⟩
    · rw [if_neg he, if_neg (show ¬ ((1 : Int) = 0) by decide)]
      obtain ⟨l1, l2, l3⟩ := fm_level ha hB0 w1 (w2.free w1) g3
      have hwr' : fo_wrL ev p v r = fo_lvlOk (fo_wr2 p v r).1 := by
        rw [hwr, decide_eq_true (⟨hex, by omega⟩), Bool.true_and]
      generalize f_X3_levelsOne a y.2.2 = z at l1 l2 l3 ⊢
      by_cases ok : fo_lvlOk (fo_wr2 p v r).1 = true
      · rw [if_pos ok] at l2 l3
        obtain ⟨h, b, q, p', _⟩ := fo_lvlOk_spec ok
        have hyes : fo_wrL ev p v r = true := by rw [hwr', ok]
        rw [if_neg (by omega), fo_wrL_yes hyes]
        refine ⟨⟨r1, l1, trivial⟩, rfl, _, fo_MR_0 (f := 23) (v := 1) ha (by decide) l3, fun s h1 h5 h6 => ?_, fun f h1 h2 => ?_, ?_, fun _ => ?_⟩
        · rw [ax_up_ne h1, ax_up_ne h1, if_neg (by omega), ax_up_ne h1]
        · rw [fo_up_at, fo_u_o h2, fo_up_at, fo_u_o h1, if_neg (by omega), fo_up_at, fo_u_o h2]
        · rw [fo_up_at, fo_u_s, if_pos hyes]
        · rw [fo_up_at, fo_u_o (by decide), fo_up_at, fo_u_s]
      · rw [if_neg ok] at l2 l3
        have hno : fo_wrL ev p v r = false := by rw [hwr']; exact Bool.eq_false_iff.mpr ok
        have elv : fo_level (fo_wr2 p v r) = fo_wr2 p v r := by
          unfold fo_level
          rw [if_neg ok]
        rw [elv] at l3
        rw [if_pos (by omega), fo_wrL_no hno]
        refine ⟨⟨r1, l1, trivial⟩, rfl, _, fo_MR_0 (f := 23) (v := 0) ha (by decide) l3, fun s h1 h5 h6 => ?_, fun f h1 h2 => ?_, ?_, fun h => ?_⟩
        · rw [ax_up_ne h1, if_neg (by omega), ax_up_ne h1]
        · rw [fo_up_at, fo_u_o h2, if_neg (by omega), fo_up_at, fo_u_o h2]
        · rw [fo_up_at, fo_u_s, hno]; rfl
        · rw [hno] at h; exact absurd h (by decide)
end FOMV
