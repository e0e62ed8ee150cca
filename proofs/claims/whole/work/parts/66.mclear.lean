/-! ===== the model clears a log, and levels ===== -/
section FOMC
variable {a n0 : Nat} {M0 M : ax_M} {σ : fo_S}
theorem fm_clrL (ha : fo_Na a) {B : Int} {c : Nat} {r0 : fo_R} (kx : Int → ax_M → Prop × Int × ax_M) (hB0 : 0 ≤ B) (hB : B ≤ 2147483647) (hc : c < 16) : ∀ (n f : Nat) (v : Int) (M : ax_M) (σ : fo_S), f + n = 6 → fo_WI B σ.1 → fo_SI σ.1 → 3 ≤ σ.1 (192 + c) → (∀ g, f ≤ g → g < 6 → fo_hasF σ.1 c g = fo_hasF r0 c g) → fo_MR a n0 M0 M σ →
    ∃ N, (f_X3_clearsLog_L13 a (c : Int) n f v M kx).2 = (kx (fo_fold (fo_cs (fo_hasF r0 c)) n f v) N).2 ∧ ((kx (fo_fold (fo_cs (fo_hasF r0 c)) n f v) N).1 → (f_X3_clearsLog_L13 a (c : Int) n f v M kx).1) ∧ fo_MR a n0 M0 N (fo_clr r0 c n f σ) := by
  intro n
  induction n with
  | zero =>
    intro f v M σ _ _ _ _ _ g
    rw [fo_fold_z]
    exact ⟨M, rfl, id, g⟩
  | succ n ih =>
    intro f v M σ hf hW s hk h1 g
    have hf6 : f < 6 := by omega
    have eM : M a = σ.1 := g.1
    have hq : (0 : Int) ≤ (c : Int) ∧ (c : Int) ≤ 15 := by omega
    have e : fo_clr r0 c (n + 1) f σ = fo_clr r0 c n (f + 1) (if fo_hasF r0 c f = true then fo_merge f σ else σ) := rfl
    have hhas : f_X3_has (f_X3_foldersIn a (c : Int) M) (f : Int) M = if fo_hasF r0 c f = true then 1 else 0 := by
      rw [fm_has (by omega), fm_foldersIn hc (by rw [eM]; exact hW.pg) (by rw [eM]; exact hW.st hB), eM, fo_fi_bit hW.pg hc (by omega), h1 f (Nat.le_refl _) hf6]
    simp only [f_X3_clearsLog_L13, f_X3_clearsLog_B13]
    rw [hhas, fo_fold_s, e]
    unfold ax_rq
    dsimp only
    by_cases hm : fo_hasF r0 c f = true
    · have ev : fo_cs (fo_hasF r0 c) f v = v + 1 := by
        unfold fo_cs
        rw [if_pos hm]
      have hw1 : (if fo_hasF r0 c f = true then (1 : Int) else 0) = 1 := if_pos hm
      rw [hw1, if_neg (show ¬ ((1 : Int) = 0) by decide), ev, if_pos hm]
      have hfr := s.free hW
      have hmσ : fo_hasF σ.1 c f = true := by rw [h1 f (Nat.le_refl _) hf6]; exact hm
      obtain ⟨l1, l2, l3⟩ := fo_merge_log hf6 hB0 hfr hW hc hk
      obtain ⟨r1, r2, r3⟩ := fm_merges ha hf6 hB0 hB hfr hW g
      unfold ax_rc
      dsimp only
      obtain ⟨N, q1, q2, q3⟩ := ih (f + 1) (v + 1) (f_X3_mergesAll a (f : Int) M).2.2 (fo_merge f σ) (by omega) (fo_WI_merge hf6 hB0 hfr hW) (fo_SI_merge hf6 hB0 hW s (fo_hasF_ex hW hc hmσ)) (by rw [l1]; exact hk)
        (fun g hg1 hg2 => by rw [fo_hasF_merge hf6 hB0 hfr hW hc hk (by omega)]; exact h1 g (by omega) hg2) r3
      exact ⟨N, q1, fun h => ⟨hq, r1, q2 h⟩, q3⟩
    · have ev : fo_cs (fo_hasF r0 c) f v = v := by
        unfold fo_cs
        rw [if_neg hm]
      have hw1 : (if fo_hasF r0 c f = true then (1 : Int) else 0) = 0 := if_neg hm
      rw [hw1, if_pos (show (0 : Int) = 0 from rfl), ev, if_neg hm]
      obtain ⟨N, q1, q2, q3⟩ := ih (f + 1) v M σ (by omega) hW s hk (fun g hg1 hg2 => h1 g (by omega) hg2) g
      exact ⟨N, q1, fun h => ⟨hq, q2 h⟩, q3⟩
theorem fm_clear (ha : fo_Na a) {B k : Int} {c : Nat} (hB0 : 0 ≤ B) (hB : B ≤ 2147483647) (hW : fo_WI B σ.1) (s : fo_SI σ.1) (hk : 3 ≤ k) (ec : fo_blk σ.1 k 0 = (c : Int)) (hc : c < 16) (h1 : σ.1 (192 + c) = k) (h2 : σ.1 (208 + c) = 0) (g : fo_MR a n0 M0 M σ) :
    (f_X3_clearsLog a k M).1 ∧ (f_X3_clearsLog a k M).2.1 = fo_clears σ.1 c ∧ fo_MR a n0 M0 (f_X3_clearsLog a k M).2.2 (fo_clear k σ) := by
  obtain ⟨_, _, q3, q4, q5, q6⟩ := fo_clear_ok hB0 hW s hk ec hc h1 h2
  unfold f_X3_clearsLog
  simp only [ax_bd]
  rw [fm_blockOf, g.1, ec]
  obtain ⟨N, e1, e2, e3⟩ := fm_clrL (r0 := σ.1) (M0 := M0) ha (fun z8 M9 => ax_rq ((0 ≤ (c : Int) ∧ (c : Int) ≤ 15)) (True, (z8, f_X3_wipes a (c : Int) M9))) hB0 hB hc 6 0 0 M σ rfl hW s (by omega) (fun g _ _ => rfl) g
  rw [e1]
  have hw := fm_wipes ha hc q3.ow q3.wi (q3.ct 266 (by omega) (by omega)) e3
  have eC : fo_clear k σ = fo_wipe c (fo_clr σ.1 c 6 0 σ) := by
    unfold fo_clear
    rw [ec, fo_t0]
  rw [eC]
  exact ⟨e2 ⟨⟨by omega, by omega⟩, trivial⟩, rfl, hw⟩
theorem fo_MR_0 {f : Nat} {v : Int} (ha : fo_Na a) (hf : f ≠ 20) (g : fo_MR a n0 M0 M σ) : fo_MR a n0 (ax_up M0 0 f v) (ax_up M 0 f v) σ := by
  obtain ⟨h1, h2, h3, h4, h5⟩ := g
  refine ⟨by rw [ax_up_ne ha.1]; exact h1, by rw [fo_up_at, fo_u_o (by omega)]; exact h2, fun i q e hi => ?_, fun s s1 s2 s3 => by rw [ax_up_ne s2, ax_up_ne s2]; exact h4 s s1 s2 s3, fun f' hf' => ?_⟩
  · rw [ax_up_ne (by decide), ax_up_ne (by decide), ax_up_ne (by decide), ax_up_ne (by decide)]
    exact h3 i q e hi
  · rw [fo_up_at, fo_up_at, fo_u_eq, fo_u_eq]
    split
    · rfl
    · exact h5 f' hf'
theorem fm_lvlL (ha : fo_Na a) {h b : Nat} {w4 : Int} (kx : ax_M → Prop × Int × ax_M) (hh : h < 16) (hb : b < 16) (hne : h ≠ b) : ∀ (n k : Nat) (M : ax_M) (σ : fo_S), k + n = 4 → (∀ i, i < 4 → 0 ≤ σ.1 (4 * h + i) ∧ σ.1 (4 * h + i) ≤ 24) → (0 ≤ σ.1 265 ∧ σ.1 265 ≤ 99999) → fo_MR a n0 M0 M σ →
    ∃ N, (f_X3_levelsOne_L52 a (h : Int) (b : Int) w4 n k M kx).2 = (kx N).2 ∧ ((kx N).1 → (f_X3_levelsOne_L52 a (h : Int) (b : Int) w4 n k M kx).1) ∧ fo_MR a n0 M0 N (fo_lvlC h b n k σ) := by
  intro n
  induction n with
  | zero => intro k M σ _ _ _ g; exact ⟨M, rfl, id, g⟩
  | succ n ih =>
    intro k M σ hk hp hct g
    have e : fo_lvlC h b (n + 1) k σ = fo_lvlC h b n (k + 1) (if 0 < σ.1 (4 * h + k) then fo_copy (4 * h + k) (4 * b + k) σ else σ) := rfl
    have e1 : (4 : Int) * (h : Int) + (k : Int) = ((4 * h + k : Nat) : Int) := by omega
    have e2 : (4 : Int) * (b : Int) + (k : Int) = ((4 * b + k : Nat) : Int) := by omega
    have hpk := hp k (by omega)
    simp only [f_X3_levelsOne_L52, f_X3_levelsOne_B52, ax_bd]
    rw [e1, e2, e]
    have hw : f_X3_isWritten a ((4 * h + k : Nat) : Int) M = if σ.1 (4 * h + k) ≤ 0 then 0 else 1 := by
      unfold f_X3_isWritten
      rw [fo_t0, g.1]
    rw [hw]
    by_cases hz : 0 < σ.1 (4 * h + k)
    · have hw1 : (if σ.1 (4 * h + k) ≤ 0 then (0 : Int) else 1) = 1 := if_neg (by omega)
      rw [hw1, if_neg (show ¬ ((1 : Int) = 0) by decide), if_pos hz]
      have g1 := fm_copies ha (g := 4 * h + k) (l := 4 * b + k) hpk (by omega) hct g
      have hct1 : 0 ≤ (fo_copy (4 * h + k) (4 * b + k) σ).1 265 ∧ (fo_copy (4 * h + k) (4 * b + k) σ).1 265 ≤ 99999 := by
        unfold fo_copy
        dsimp only
        unfold fo_cnt
        rw [fo_u_s, fo_put_hi (by omega) (by omega)]
        split <;> omega
      obtain ⟨N, q1, q2, q3⟩ := ih (k + 1) _ (fo_copy (4 * h + k) (4 * b + k) σ) (by omega) (fun i hi => by rw [fo_copy_pg (by omega) (by omega), if_neg (by omega)]; exact hp i hi) hct1 g1
      unfold ax_rq
      exact ⟨N, q1, fun h => ⟨⟨by omega, by omega⟩, q2 h⟩, q3⟩
    · have hw1 : (if σ.1 (4 * h + k) ≤ 0 then (0 : Int) else 1) = 0 := if_pos (by omega)
      rw [hw1, if_pos (show (0 : Int) = 0 from rfl), if_neg hz]
      exact ih (k + 1) M σ (by omega) hp hct g
theorem fm_level (ha : fo_Na a) {B : Int} (hB0 : 0 ≤ B) (hW : fo_WI B σ.1) (hfr : 0 ≤ fo_free σ.1) (g : fo_MR a n0 M0 M σ) :
    (f_X3_levelsOne a M).1 ∧ (f_X3_levelsOne a M).2.1 = (if fo_lvlOk σ.1 = true then fo_lvl σ.1 0 else -1) ∧ fo_MR a n0 (if fo_lvlOk σ.1 = true then ax_up M0 0 21 (fo_lvl σ.1 1) else M0) (f_X3_levelsOne a M).2.2 (fo_level σ) := by
  have eM : M a = σ.1 := g.1
  unfold f_X3_levelsOne
  simp only [ax_bd]
  rw [fm_toLevel (by rw [eM]; exact hW.wi), fm_toLevel (by rw [eM]; exact hW.wi), eM]
  have l0 : ∃ f : Nat, fo_lvl σ.1 0 = (f : Int) ∧ f < 16 ∧ σ.1 (192 + f) = 0 := by
    obtain ⟨n, en, hn, h0⟩ := fo_free_nat hfr
    rcases fo_lvl_spec σ.1 0 with ⟨p, q⟩ | ⟨f, p, p1, p2⟩
    · exact absurd h0 (q n hn)
    · exact ⟨f, p, p1, p2⟩
  obtain ⟨f, ef, hf, hf0⟩ := l0
  unfold fo_level
  by_cases ok : fo_lvlOk σ.1 = true
  · obtain ⟨h, b, q, p, q1, p1, q2, p2, q3⟩ := fo_lvlOk_spec ok
    have hne : h ≠ b := fun e => by rw [e] at q2; omega
    rw [if_pos ok, if_pos ok, if_pos ok, q, p, if_neg (by omega), fo_t224, fo_t224, if_pos q3, fo_t0, fo_t0]
    have g1 := fo_MR_0 (f := 21) (v := (h : Int)) ha (by omega) g
    have e8 : ax_up M 0 21 (h : Int) a (208 + (h : Int)).toNat = σ.1 (208 + h) := by rw [ax_up_ne ha.1, eM, fo_t208]
    rw [e8]
    have hct := hW.ct 265 (by omega) (by omega)
    obtain ⟨N, e1, e2, e3⟩ := fm_lvlL (w4 := σ.1 (208 + h)) (M0 := ax_up M0 0 21 (h : Int)) ha (fun M13 => (True, ((b : Int), f_X3_wipes a (h : Int) (ax_up (ax_up M13 a (192 + (b : Int)).toNat 1) a (208 + (b : Int)).toNat (σ.1 (208 + h)))))) q1 p1 hne 4 0 _ σ rfl (fun i hi => hW.pg _ (by omega)) hct g1
    rw [e1]
    refine ⟨e2 trivial, rfl, ?_⟩
    dsimp only
    rw [fo_t192, fo_t208]
    have g2 := fo_MR_up ha (208 + b) (σ.1 (208 + h)) (fo_MR_up ha (192 + b) 1 e3)
    have hhi : ∀ j, 192 ≤ j → j ≠ 265 → (fo_lvlC h b 4 0 σ).1 j = σ.1 j := fun j hj h5 => fo_lvlC_hi p1 hj h5 4 0 σ (by omega)
    have hoh := hW.ow h q1
    exact fm_wipes (σ := (fo_u (fo_u (fo_lvlC h b 4 0 σ).1 (192 + b) 1) (208 + b) (σ.1 (208 + h)), (fo_lvlC h b 4 0 σ).2)) ha q1 (fun c hc => by
      have := hW.ow c hc
      dsimp only
      rw [fo_u_eq]
      split
      · exact hoh
      · rw [fo_u_o (by omega), hhi _ (by omega) (by omega)]; exact this) (fun c hc => by
      have := hW.wi c hc
      dsimp only
      rw [fo_u_o (by omega), fo_u_o (by omega), hhi _ (by omega) (by omega)]; exact this) (by
      dsimp only
      rw [fo_u_o (by omega), fo_u_o (by omega), hhi _ (by omega) (by omega)]
      exact hW.ct 266 (by omega) (by omega)) g2
  · rw [if_neg ok, if_neg ok, if_neg ok]
    have ok' := ok
    simp only [fo_lvlOk, decide_eq_true_eq] at ok'
    have hno : ∀ X : Prop × Int × ax_M, (if fo_lvl σ.1 1 < 0 then (True, ((-1 : Int), M)) else (if (σ.1 (224 + fo_lvl σ.1 1).toNat) < (σ.1 (224 + fo_lvl σ.1 0).toNat) then X else (True, ((-1), M)))) = (True, ((-1 : Int), M)) := by
      intro X
      rcases fo_lvl_spec σ.1 1 with ⟨q, _⟩ | ⟨h, q, q1, q2⟩
      · rw [if_pos (by omega)]
      · rw [q, ef, fo_t0, fo_t0] at ok'
        rw [q, ef, if_neg (by omega), fo_t224, fo_t224, if_neg (by omega)]
    rw [hno]
    exact ⟨trivial, rfl, g⟩
end FOMC
