section FOMU
variable {a n0 : Nat} {M0 M : ax_M} {σ : fo_S}
theorem fm_write (ha : fo_Na a) (h7 : a = 7 ∨ a = 8) {ev : fo_R → Int} {p : Nat} {v : Int} {r : fo_R} (hr : M a = r) (hp : p < 24) (hI : fo_I r) (hclk : r 270 < 2147483647) (hw : fo_Wm ev M) :
    (f_X3_writesOne a (p : Int) v M).1 ∧ (f_X3_writesOne a (p : Int) v M).2.1 = (fo_leaf p (fo_pre p r, [])).2.1 ∧ ∃ M0', fo_MR a 0 M0' (f_X3_writesOne a (p : Int) v M).2.2 (fo_write ev p v r) ∧ fo_Mf ev p v r (ax_up (ax_up M 0 20 0) 0 22 (fo_leaf p (fo_pre p r, [])).1) M0' := by
  obtain ⟨w1, w2, w3, l, el, hl, h4⟩ := fo_wr1_ok (v := v) hp hI
  have hB0 : 0 ≤ r 270 + 1 := by have := hI.1; omega
  have hB : r 270 + 1 ≤ 2147483647 := by omega
  have hht := hI.2.1.ht p hp
  have h0 := hI.1
  obtain ⟨pW, pS⟩ := fo_pre_keep hp hI.2.1 hI.2.2
  have g0 : fo_MR a 0 (ax_up M 0 20 0) (ax_up M 0 20 0) (r, []) :=
    ⟨by rw [ax_up_ne ha.1]; exact hr, by rw [fo_up_at, fo_u_s]; rfl, fun i q e _ => by simp at e, fun _ _ _ _ => rfl, fun _ _ => rfl⟩
  unfold f_X3_writesOne
  simp only [ax_bd]
  have e266 : ax_up M 0 20 0 a 266 = r 266 := by rw [g0.1]
  have e270 : ax_wr (ax_up M 0 20 0 a 270 + 1) = r 270 + 1 := by rw [g0.1]; exact ax_wr_id (x := r 270 + 1) (by omega) (by omega)
  rw [e266, e270, fo_t240]
  have g1 := fo_MR_up ha 270 (r 270 + 1) g0
  have e4 : ax_up (ax_up M 0 20 0) a 270 (r 270 + 1) a 270 = r 270 + 1 := by rw [fo_up_at, fo_u_s]
  have eh : ax_up (ax_up M 0 20 0) a 270 (r 270 + 1) a (240 + p) = r (240 + p) := by rw [g1.1]; dsimp only; rw [fo_u_o (by omega)]
  rw [e4, eh, ax_wr_id (x := r (240 + p) + 1) (by omega) (by omega)]
  have g2 := fo_MR_up ha (240 + p) (if r (240 + p) + 1 < 99 then r (240 + p) + 1 else 99) g1
  have epre : fo_u (fo_u r 270 (r 270 + 1)) (240 + p) (if r (240 + p) + 1 < 99 then r (240 + p) + 1 else 99) = fo_pre p r := by
    unfold fo_pre
    congr 1
    split <;> split <;> omega
  replace g2 : fo_MR a 0 (ax_up M 0 20 0) (ax_up (ax_up (ax_up M 0 20 0) a 270 (r 270 + 1)) a (240 + p) (if r (240 + p) + 1 < 99 then r (240 + p) + 1 else 99)) (fo_pre p r, []) := by
    rw [← epre]
    exact g2
  generalize ax_up (ax_up (ax_up M 0 20 0) a 270 (r 270 + 1)) a (240 + p) (if r (240 + p) + 1 < 99 then r (240 + p) + 1 else 99) = M5 at g2 ⊢
  obtain ⟨f1, f2, f3⟩ := fm_leafFor ha h0 (by omega) hp pW pS g2
  generalize ht : fo_leaf p (fo_pre p r, []) = t at f2 f3 ⊢
  have el' : t.2.1 = (l : Int) := by rw [← ht]; exact el
  have e1 : fo_wr1 p v r = (t.1, t.2.1, fo_put l p v (r 270 + 1) t.2.2) := by
    unfold fo_wr1
    rw [ht, el', fo_t0]
  generalize hM0 : ax_up (ax_up M 0 20 0) 0 22 t.1 = M00 at f3 ⊢
  have h22 : M00 0 22 = t.1 := by rw [← hM0, fo_up_at, fo_u_s]
  have h10 : M00 0 10 = M 0 10 := by rw [← hM0, fo_up_at, fo_u_o (by decide), fo_up_at, fo_u_o (by decide)]
  have h3s : M00 3 = M 3 := by rw [← hM0, ax_up_ne (by decide), ax_up_ne (by decide)]
  have hwN : ∀ (N : ax_M) (τ : fo_S), fo_MR a 0 M00 N τ → fo_Wm ev N := fun N τ g O k1 k2 => hw O (by rw [k1, g.2.2.2.2 10 (by decide), h10]) (by rw [k2, g.2.2.2.1 3 (by omega) (by decide) (by omega), h3s])
  generalize f_X3_leafFor a (p : Int) M5 = y at f1 f2 f3 ⊢
  unfold ax_rc ax_rq
  dsimp only
  rw [f2, el']
  have g3 := fm_puts (l := l) (p := (p : Int)) (v := v) (s := r 270 + 1) ha (by omega) f3
  replace g3 : fo_MR a 0 M00 (f_X3_puts a (l : Int) (p : Int) v (r 270 + 1) y.2.2) (fo_wr1 p v r).2.2 := by
    rw [e1]; exact g3
  generalize f_X3_puts a (l : Int) (p : Int) v (r 270 + 1) y.2.2 = M8 at g3 ⊢
  have e22 : M8 0 22 = t.1 := by rw [g3.2.2.2.2 22 (by decide), h22]
  have hq : (0 : Int) ≤ (l : Int) ∧ (l : Int) ≤ 63 := by omega
  rw [e22]
  by_cases h43 : t.1 = 4 ∧ p % 4 = 3
  · rw [if_neg (fun h => h h43.1), if_neg (show ¬ ((p : Int) % 4 ≠ 3) by omega)]
    obtain ⟨hk, _⟩ := h4 (by rw [e1]; exact h43.1)
    rcases fo_run_spec (fo_wr1 p v r).2.2.1 with ⟨er, g⟩ | ⟨c, er, hc, hkc⟩
    · exact absurd hk (g _ (by omega))
    · obtain ⟨s1, _, s3⟩ := fm_seal ha hB0 hB hc hkc w1 w2 g3
      obtain ⟨hd, eo⟩ := fo_run_dst w1 w2 hc hkc
      obtain ⟨x1, x2⟩ := fo_WI_seal hB0 hd hkc w1 w2
      have es : fo_seal (fo_wr1 p v r).2.2 = fo_sealA c ((fo_wr1 p v r).2.2.1 (208 + c)).toNat (fo_wr1 p v r).2.2 := by
        unfold fo_seal
        rw [er, fo_t0]
      rw [← es] at x1
      have hσ : fo_wr2 p v r = (fo_cnt 264 (fo_seal (fo_wr1 p v r).2.2).2.1, (fo_seal (fo_wr1 p v r).2.2).2.2) := by
        unfold fo_wr2
        rw [if_pos ⟨by rw [e1]; exact h43.1, h43.2⟩]
      obtain ⟨j1, j2, j3⟩ := fm_J89 (l := (l : Int)) ha h7 hp hI hclk (hwN _ _ s3) hσ (x1.ct 264 (by omega) (by omega)) s3
      exact ⟨⟨f1, hq, s1, j1⟩, j2, j3⟩
  · have hσ : fo_wr2 p v r = (fo_cnt 264 (fo_wr1 p v r).2.2.1, (fo_wr1 p v r).2.2.2) := by
      unfold fo_wr2
      rw [if_neg (fun h => h43 ⟨by rw [e1] at h; exact h.1, h.2⟩)]
    obtain ⟨j1, j2, j3⟩ := fm_J89 (l := (l : Int)) ha h7 hp hI hclk (hwN _ _ g3) hσ (w1.ct 264 (by omega) (by omega)) g3
    by_cases h4' : t.1 = 4
    · rw [if_neg (fun h => h h4'), if_pos (show (p : Int) % 4 ≠ 3 by omega)]
      exact ⟨⟨f1, hq, j1⟩, j2, j3⟩
    · rw [if_pos h4']
      exact ⟨⟨f1, hq, j1⟩, j2, j3⟩
end FOMU
