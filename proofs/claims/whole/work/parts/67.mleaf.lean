/-! ===== the model's leaf for a page ===== -/
section FOML
variable {a n0 : Nat} {M0 M : ax_M} {σ : fo_S}
theorem fm_logTake (ha : fo_Na a) {k : Int} {τ : fo_S} {R : Prop × Int × ax_M} (hfr : 0 ≤ fo_free τ.1) (g : fo_MR a n0 M0 M τ) (hR : R = (True, (4 * (f_X3_taken a k (f_X3_kindMany a k M) M).1, (f_X3_taken a k (f_X3_kindMany a k M) M).2))) :
    R.1 ∧ R.2.1 = 4 * fo_free τ.1 ∧ fo_MR a n0 M0 R.2.2 (fo_take k (fo_many τ.1 k) τ.1, τ.2) := by
  obtain ⟨t1, t2⟩ := fm_take (k := k) (o := fo_many τ.1 k) ha hfr g
  rw [hR, fm_kindMany, g.1]
  exact ⟨trivial, by dsimp only; rw [t1], t2⟩
theorem fm_logA (ha : fo_Na a) {B k : Int} (hB0 : 0 ≤ B) (hB : B ≤ 2147483647) (hk : k = 3 ∨ k = 4) (hl : 1 ≤ σ.1 (268 + k.toNat)) (hW : fo_WI B σ.1) (s : fo_SI σ.1) (g : fo_MR a n0 M0 M σ) :
    (f_X3_logLeaf_J13 a k M).1 ∧ (f_X3_logLeaf_J13 a k M).2.1 = (fo_logA k σ).1 ∧ fo_MR a n0 M0 (f_X3_logLeaf_J13 a k M).2.2 (fo_logA k σ).2 := by
  have eM : M a = σ.1 := g.1
  have e1 : σ.1 (if k = 4 then 272 else 271) = σ.1 (268 + k.toNat) := by rcases hk with e | e <;> subst e <;> rfl
  obtain ⟨w1, w2, _, w4, w5⟩ := fo_logC_ok hB0 hk hl hW s
  -- where no leaf is left
  have h68 : (f_X3_logLeaf_J68 a k (fo_many σ.1 k) M).1 ∧ (f_X3_logLeaf_J68 a k (fo_many σ.1 k) M).2.1 = 4 * fo_free (fo_logC k σ).1 ∧ fo_MR a n0 M0 (f_X3_logLeaf_J68 a k (fo_many σ.1 k) M).2.2 (fo_take k (fo_many (fo_logC k σ).1 k) (fo_logC k σ).1, (fo_logC k σ).2) := by
    have e68 : f_X3_logLeaf_J68 a k (fo_many σ.1 k) M = f_X3_logLeaf_J85 a k ((268 + k.toNat : Nat) : Int) (fo_many σ.1 k) M := by
      unfold f_X3_logLeaf_J68
      rcases hk with e | e <;> subst e
      · rw [if_pos (by decide)]; rfl
      · rw [if_neg (by decide)]; rfl
    rw [e68]
    unfold f_X3_logLeaf_J85
    rw [fo_t0, eM]
    by_cases hc : fo_many σ.1 k = σ.1 (268 + k.toNat)
    · have eC : fo_logC k σ = fo_clear k σ := by
        unfold fo_logC
        rw [e1, if_pos hc]
      rw [if_neg (fun h => h hc)]
      obtain ⟨c, hc16, a1, a2⟩ := s.ls k 0 (by omega) (Int.le_refl 0) (by rw [hc]; omega)
      have ec : fo_blk σ.1 k 0 = (c : Int) := fo_blk_of hc16 a1 a2 (fun d hd b1 b2 => s.lu d c hd hc16 (by omega) (by omega) (by omega))
      obtain ⟨c1, c2, c3⟩ := fm_clear ha hB0 hB hW s (by omega) ec hc16 a1 a2 g
      rw [eC] at w1 w2 ⊢
      have q := fm_logTake (k := k) (R := (True, (4 * (f_X3_taken a k (f_X3_kindMany a k (f_X3_clearsLog a k M).2.2) (f_X3_clearsLog a k M).2.2).1, (f_X3_taken a k (f_X3_kindMany a k (f_X3_clearsLog a k M).2.2) (f_X3_clearsLog a k M).2.2).2))) ha (w2.free w1) c3 rfl
      unfold ax_rc
      exact ⟨⟨c1, trivial⟩, q.2.1, q.2.2⟩
    · have eC : fo_logC k σ = σ := by
        unfold fo_logC
        rw [e1, if_neg hc]
      rw [if_pos hc]
      rw [eC] at w1 w2 ⊢
      exact fm_logTake (k := k) (R := (True, (4 * (f_X3_taken a k (f_X3_kindMany a k M) M).1, (f_X3_taken a k (f_X3_kindMany a k M) M).2))) ha (w2.free w1) g rfl
  have hA : fo_logA k σ = if 0 ≤ fo_room σ.1 k then (fo_room σ.1 k, σ) else (4 * fo_free (fo_logC k σ).1, (fo_take k (fo_many (fo_logC k σ).1 k) (fo_logC k σ).1, (fo_logC k σ).2)) := rfl
  unfold f_X3_logLeaf_J13
  simp only [ax_bd]
  rw [fm_kindMany, eM, hA]
  unfold fo_room
  by_cases hm : fo_many σ.1 k ≤ 0
  · rw [if_pos hm, if_pos hm, if_neg (by omega)]
    unfold f_X3_logLeaf_J39
    rw [if_pos (by omega)]
    exact h68
  · rw [if_neg hm, if_neg hm]
    obtain ⟨c, hc, a1, a2⟩ := s.ls k (fo_many σ.1 k - 1) (by omega) (by generalize fo_many σ.1 k = m at *; omega) (by generalize fo_many σ.1 k = m at *; omega)
    have ec : fo_blk σ.1 k (fo_many σ.1 k - 1) = (c : Int) := fo_blk_of hc a1 a2 (fun d hd b1 b2 => s.lu d c hd hc (by omega) (by rw [a1, b1]) (by rw [a2, b2]))
    rw [fm_blockOf, eM, ec, fo_t0]
    unfold f_X3_logLeaf_J39
    rw [if_neg (by omega), fm_firstEmpty, eM]
    by_cases hf : fo_fill σ.1 c < 4
    · rw [if_pos hf, if_neg (by omega), if_pos (by omega)]
      exact ⟨trivial, rfl, g⟩
    · rw [if_neg hf, if_pos (by omega), if_neg (by omega)]
      exact h68
theorem fm_log (ha : fo_Na a) {B : Int} {p : Nat} (hB0 : 0 ≤ B) (hB : B ≤ 2147483647) (hW : fo_WI B σ.1) (s : fo_SI σ.1) (g : fo_MR a n0 M0 M σ) :
    (f_X3_logLeaf a (p : Int) M).1 ∧ (f_X3_logLeaf a (p : Int) M).2.1 = (fo_log p σ).1 ∧ fo_MR a n0 M0 (f_X3_logLeaf a (p : Int) M).2.2 (fo_log p σ).2 := by
  have lm := s.lm
  unfold fo_Lm at lm
  unfold f_X3_logLeaf fo_log
  rw [fm_isHot, g.1]
  by_cases hh : fo_hot σ.1 p = true
  · have h2 : 1 ≤ σ.1 (268 + Int.toNat 4) := by
      have : σ.1 272 ≠ 0 := by
        have hh' := hh
        unfold fo_hot at hh'
        exact (of_decide_eq_true hh').1
      show 1 ≤ σ.1 272
      have := lm.2.2.2.2.1
      omega
    rw [if_pos hh, if_pos hh, if_neg (show ¬ ((1 : Int) = 0) by decide)]
    exact fm_logA ha hB0 hB (Or.inr rfl) h2 hW s g
  · rw [if_neg hh, if_neg hh, if_pos (show (0 : Int) = 0 from rfl)]
    exact fm_logA ha hB0 hB (Or.inl rfl) lm.2.2.1 hW s g
theorem ax_up_up {M : ax_M} {s i : Nat} {v w : Int} : ax_up (ax_up M s i v) s i w = ax_up M s i w := by
  funext s' i'
  unfold ax_up
  split <;> rfl
theorem fm_leafA (ha : fo_Na a) {B : Int} {p c : Nat} (hB0 : 0 ≤ B) (hB : B ≤ 2147483647) (hp : p < 24) (hc : c < 16) (hW : fo_WI B σ.1) (hs : σ.1 (4 * c + p % 4) ≤ 0 ∨ fo_SI σ.1) (g : fo_MR a n0 M0 M σ) :
    (f_X3_leafFor_J33 a (p : Int) ((p / 4 : Nat) : Int) ((p % 4 : Nat) : Int) (c : Int) M).1 ∧ (f_X3_leafFor_J33 a (p : Int) ((p / 4 : Nat) : Int) ((p % 4 : Nat) : Int) (c : Int) M).2.1 = (fo_leafA p c σ).2.1 ∧ fo_MR a n0 (ax_up M0 0 22 (fo_leafA p c σ).1) (f_X3_leafFor_J33 a (p : Int) ((p / 4 : Nat) : Int) ((p % 4 : Nat) : Int) (c : Int) M).2.2 (fo_leafA p c σ).2.2 := by
  have g22 : ∀ v : Int, fo_MR a n0 (ax_up M0 0 22 v) (ax_up M 0 22 v) σ := fun v => fo_MR_0 ha (by omega) g
  have e22 : ∀ v : Int, ax_up M 0 22 v a = σ.1 := fun v => (g22 v).1
  have hq : (0 : Int) ≤ ((4 * c + p % 4 : Nat) : Int) ∧ ((4 * c + p % 4 : Nat) : Int) ≤ 63 := by omega
  have e0 : (4 : Int) * (c : Int) + ((p % 4 : Nat) : Int) = ((4 * c + p % 4 : Nat) : Int) := by omega
  have hpg := hW.pg (4 * c + p % 4) (by omega)
  unfold f_X3_leafFor_J33
  simp only [ax_bd, ax_up_up]
  have hw : f_X3_isWritten a ((4 * c + p % 4 : Nat) : Int) (ax_up M 0 22 2) = if σ.1 (4 * c + p % 4) ≤ 0 then 0 else 1 := by
    unfold f_X3_isWritten
    rw [fo_t0, e22]
  rw [e0, hw, fm_theRun, e22]
  unfold ax_rq
  dsimp only
  unfold fo_leafA
  by_cases h2w : σ.1 (4 * c + p % 4) ≤ 0
  · have hE : (if σ.1 (4 * c + p % 4) ≤ 0 then (0 : Int) else 1) = 0 := if_pos h2w
    rw [hE, if_neg (show ¬ ((0 : Int) ≠ 0) from fun h => h rfl), if_pos h2w]
    exact ⟨⟨hq, trivial⟩, by dsimp only; omega, g22 2⟩
  · have s := hs.resolve_left h2w
    have hE : (if σ.1 (4 * c + p % 4) ≤ 0 then (0 : Int) else 1) = 1 := if_neg h2w
    rw [hE, if_pos (show (1 : Int) ≠ 0 by decide), if_neg h2w]
    by_cases h3w : p % 4 = 0
    · rw [if_neg (show ¬ (((p % 4 : Nat) : Int) ≠ 0) by omega), if_pos h3w]
      obtain ⟨w1, w2, _, _, _⟩ := fo_seal3_ok hB0 hW s
      have htk : ∀ (N : ax_M) (τ : fo_S), fo_WI B τ.1 → fo_SI τ.1 → fo_MR a n0 (ax_up M0 0 22 3) N τ → 4 * (f_X3_taken a 2 ((p / 4 : Nat) : Int) N).1 = 4 * fo_free τ.1 ∧ fo_MR a n0 (ax_up M0 0 22 3) (f_X3_taken a 2 ((p / 4 : Nat) : Int) N).2 (fo_take 2 ((p / 4 : Nat) : Int) τ.1, τ.2) := fun N τ hw' hs' gN => by
        obtain ⟨t1, t2⟩ := fm_take (k := 2) (o := ((p / 4 : Nat) : Int)) ha (hs'.free hw') gN
        exact ⟨by rw [t1], t2⟩
      rcases fo_run_spec σ.1 with ⟨er, _⟩ | ⟨n, er, hn, hkn⟩
      · have hlt : fo_run σ.1 < 0 := by omega
        have hE3 : (if 0 ≤ fo_run σ.1 then (fo_seal σ).2 else σ) = σ := if_neg (by omega)
        rw [if_pos hlt, hE3]
        obtain ⟨t1, t2⟩ := htk _ σ hW s (g22 3)
        exact ⟨⟨hq, trivial⟩, t1, t2⟩
      · have hge : ¬ (fo_run σ.1 < 0) := by omega
        have hE3 : (if 0 ≤ fo_run σ.1 then (fo_seal σ).2 else σ) = (fo_seal σ).2 := if_pos (by omega)
        rw [hE3] at w1 w2
        rw [if_neg hge, hE3]
        obtain ⟨s1, _, s3⟩ := fm_seal ha hB0 hB hn hkn hW s (g22 3)
        unfold ax_rc
        obtain ⟨t1, t2⟩ := htk _ _ w1 w2 s3
        exact ⟨⟨hq, s1, trivial⟩, t1, t2⟩
    · rw [if_pos (show ((p % 4 : Nat) : Int) ≠ 0 by omega), if_neg h3w]
      obtain ⟨l1, l2, l3⟩ := fm_log (p := p) ha hB0 hB hW s (g22 5)
      have e45 : ax_up (ax_up M 0 22 4) 0 22 5 = ax_up M 0 22 5 := ax_up_up
      rcases fo_run_spec σ.1 with ⟨er, _⟩ | ⟨n, er, hn, hkn⟩
      · have hlt : fo_run σ.1 < 0 := by omega
        have h4 : ¬ (0 ≤ fo_run σ.1 ∧ σ.1 (208 + (fo_run σ.1).toNat) = ((p / 4 : Nat) : Int) ∧ fo_fill σ.1 (fo_run σ.1).toNat = p % 4) := fun h => by omega
        rw [if_pos hlt, if_neg h4]
        unfold ax_rc
        exact ⟨⟨hq, l1, trivial⟩, l2, l3⟩
      · have hge : ¬ (fo_run σ.1 < 0) := by omega
        rw [if_neg hge, er, fo_t208, fo_t0, fm_firstEmpty, e22]
        by_cases ho : σ.1 (208 + n) = ((p / 4 : Nat) : Int)
        · rw [if_neg (fun h => h ho)]
          by_cases hfl : fo_fill σ.1 n = p % 4
          · rw [if_neg (show ¬ (((fo_fill σ.1 n : Nat) : Int) ≠ ((p % 4 : Nat) : Int)) by omega), if_pos ⟨by omega, ho, hfl⟩]
            exact ⟨⟨hq, trivial⟩, rfl, g22 4⟩
          · rw [if_pos (show ((fo_fill σ.1 n : Nat) : Int) ≠ ((p % 4 : Nat) : Int) by omega), if_neg (fun h => hfl h.2.2)]
            unfold ax_rc
            exact ⟨⟨hq, l1, trivial⟩, l2, l3⟩
        · rw [if_pos ho, if_neg (fun h => ho h.2.1)]
          unfold ax_rc
          exact ⟨⟨hq, l1, trivial⟩, l2, l3⟩
theorem fm_leafFor (ha : fo_Na a) {B : Int} {p : Nat} (hB0 : 0 ≤ B) (hB : B ≤ 2147483647) (hp : p < 24) (hW : fo_WI B σ.1) (s : fo_SI σ.1) (g : fo_MR a n0 M0 M σ) :
    (f_X3_leafFor a (p : Int) M).1 ∧ (f_X3_leafFor a (p : Int) M).2.1 = (fo_leaf p σ).2.1 ∧ fo_MR a n0 (ax_up M0 0 22 (fo_leaf p σ).1) (f_X3_leafFor a (p : Int) M).2.2 (fo_leaf p σ).2.2 := by
  unfold f_X3_leafFor fo_leaf
  simp only [ax_bd]
  have ed : (p : Int) / 4 = ((p / 4 : Nat) : Int) := by omega
  have em : (p : Int) % 4 = ((p % 4 : Nat) : Int) := by omega
  rw [ed, em, fm_blockOf, g.1]
  rcases fo_blk_spec σ.1 1 ((p / 4 : Nat) : Int) with ⟨e, hn⟩ | ⟨c, e, hc, h1, h2⟩
  · have hlt : ¬ (0 ≤ fo_blk σ.1 1 ((p / 4 : Nat) : Int)) := by omega
    rw [if_neg hlt, if_neg hlt]
    have hfr := s.free hW
    obtain ⟨n, en, hn16, _⟩ := fo_free_nat hfr
    obtain ⟨r1, r2, r3⟩ := fo_Rdy_take1 hp hW s hn
    have hz := r3.2.1
    obtain ⟨t1, t2⟩ := fm_take (k := 1) (o := ((p / 4 : Nat) : Int)) ha hfr g
    rw [en, fo_t0] at hz
    rw [t1, en, fo_t0]
    exact fm_leafA ha hB0 hB hp hn16 r1 (Or.inl (by show fo_take 1 ((p / 4 : Nat) : Int) σ.1 (4 * n + p % 4) ≤ 0; omega)) t2
  · have hge : 0 ≤ fo_blk σ.1 1 ((p / 4 : Nat) : Int) := by omega
    rw [if_pos hge, if_pos hge, e, fo_t0]
    exact fm_leafA ha hB0 hB hp hc hW (Or.inr s) g
end FOML
