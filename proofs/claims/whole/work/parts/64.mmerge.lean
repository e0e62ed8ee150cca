/-! ===== the model's merge ===== -/
/-- the home that is to be wiped bears no folder meanwhile -/
def fo_al (h : Int) (r : fo_R) : fo_R := if h < 0 then r else fo_u r (208 + h.toNat) 6
section FOAL
variable {h : Int} {r : fo_R}
theorem fo_al_o {j : Nat} (hh : h < 16) (hj : j < 208 ∨ 224 ≤ j) : fo_al h r j = r j := by
  unfold fo_al
  split
  · rfl
  · rw [fo_u_o (by omega)]
theorem fo_u_comm {i k : Nat} {v w : Int} (hik : i ≠ k) : fo_u (fo_u r i v) k w = fo_u (fo_u r k w) i v := by
  funext j
  simp only [fo_u_eq]
  by_cases h1 : j = k
  · rw [if_pos h1, if_neg (by omega), if_pos h1]
  · rw [if_neg h1]
    by_cases h2 : j = i
    · rw [if_pos h2, if_pos h2]
    · rw [if_neg h2, if_neg h2, if_neg h1]
theorem fo_al_u {i : Nat} {v : Int} (hh : h < 16) (hi : i < 208 ∨ 224 ≤ i) : fo_u (fo_al h r) i v = fo_al h (fo_u r i v) := by
  unfold fo_al
  split
  · rfl
  · exact fo_u_comm (by omega)
theorem fo_al_cnt {k : Nat} (hh : h < 16) (hk : 224 ≤ k) : fo_cnt k (fo_al h r) = fo_al h (fo_cnt k r) := by
  unfold fo_cnt
  rw [fo_al_o hh (Or.inr hk), fo_al_u hh (Or.inr hk)]
theorem fo_al_put {l : Nat} {p v s : Int} {t : List fo_T} (hh : h < 16) (hl : l < 64) : fo_put l p v s (fo_al h r, t) = (fo_al h (fo_put l p v s (r, t)).1, (fo_put l p v s (r, t)).2) := by
  unfold fo_put
  dsimp only
  rw [fo_al_u hh (by omega), fo_al_u hh (by omega), fo_al_u hh (by omega)]
theorem fo_al_copy {g m l : Nat} {t : List fo_T} (hh : h < 16) (hl : l < 64) (hg : g < 64) (hm : m < 64) (h1 : r g = r m) (h2 : r (64 + g) = r (64 + m)) (h3 : r (128 + g) = r (128 + m)) : fo_copy g l (fo_al h r, t) = (fo_al h (fo_copy m l (r, t)).1, (fo_copy m l (r, t)).2) := by
  unfold fo_copy
  dsimp only
  rw [fo_al_o hh (by omega), fo_al_o hh (by omega), fo_al_o hh (by omega), h1, h2, h3, fo_al_put hh hl]
  dsimp only
  rw [fo_al_cnt hh (by omega)]
theorem fo_al_wp {b : Nat} (hb : b < 16) (hk : r (192 + b) < 3) : fo_wp b (fo_al (b : Int) r) = fo_wp b r := by
  funext j
  have e1 : fo_al (b : Int) r (192 + b) = r (192 + b) := fo_al_o (by omega) (by omega)
  have ej : j < 208 ∨ 224 ≤ j → fo_al (b : Int) r j = r j := fun h => fo_al_o (by omega) h
  have ek : j ≠ 208 + b → fo_al (b : Int) r j = r j := fun h => by
    unfold fo_al
    rw [if_neg (by omega), fo_t0, fo_u_o h]
  simp only [fo_wp]
  rw [e1]
  by_cases h1 : j < 192
  · rw [if_pos h1, if_pos h1, ej (by omega)]
  · rw [if_neg h1, if_neg h1]
    by_cases h2 : j < 208
    · rw [if_pos h2, if_pos h2, ej (by omega)]
    · rw [if_neg h2, if_neg h2]
      by_cases h3 : j < 224
      · rw [if_pos h3, if_pos h3]
        by_cases h4 : j = 208 + b
        · rw [if_pos h4, if_pos h4]
        · rw [if_neg h4, if_neg h4, if_neg (fun h => by omega), if_neg (fun h => by omega), ek h4]
      · rw [if_neg h3, if_neg h3, ej (by omega)]
theorem fo_al_wipe {b : Nat} {t : List fo_T} (hb : b < 16) (hk : r (192 + b) < 3) : fo_wipe b (fo_al (b : Int) r, t) = fo_wipe b (r, t) := by
  unfold fo_wipe
  dsimp only
  rw [fo_al_wp hb hk]
end FOAL
section FOMM
variable {a n0 : Nat} {M0 M : ax_M} {σ : fo_S}
theorem fm_clL (ha : fo_Na a) {B h : Int} {f c : Nat} (hh : h < 16) (hB : B ≤ 2147483647) : ∀ (n i : Nat) (M : ax_M) (σ : fo_S), i + n ≤ 4 → fo_Dst f c σ.1 → fo_WI B σ.1 → fo_MR a n0 M0 M (fo_al h σ.1, σ.2) →
    (f_X3_copiesLatest_L3 a (f : Int) (c : Int) n (i : Int) M (fun M6 => (True, M6))).1 ∧ fo_MR a n0 M0 (f_X3_copiesLatest_L3 a (f : Int) (c : Int) n (i : Int) M (fun M6 => (True, M6))).2 (fo_al h (fo_cl f c n i σ).1, (fo_cl f c n i σ).2) := by
  intro n
  induction n with
  | zero => intro i M σ _ _ _ g; exact ⟨trivial, g⟩
  | succ n ih =>
    intro i M σ hi hd hW g
    have hc := hd.1
    have hf := hd.2.1
    have hPg : fo_Pg (M a) := fun l hl => by rw [g.1]; dsimp only; rw [fo_al_o hh (by omega)]; exact hW.pg l hl
    have hSt : fo_St (M a) := fun l hl => by rw [g.1]; dsimp only; rw [fo_al_o hh (by omega)]; exact hW.st hB l hl
    have ep : ax_wr (ax_wr (4 * (f : Int)) + (i : Int)) = 4 * (f : Int) + (i : Int) := by
      rw [ax_wr_id (x := 4 * (f : Int)) (by omega) (by omega), ax_wr_id (by omega) (by omega)]
    have ec : ax_wr (ax_wr (4 * (c : Int)) + (i : Int)) = ((4 * c + i : Nat) : Int) := by
      rw [ax_wr_id (x := 4 * (c : Int)) (by omega) (by omega), ax_wr_id (by omega) (by omega)]
      omega
    have ecl : fo_cl f c (n + 1) i σ = fo_cl f c n (i + 1) (fo_copyI (fo_lat σ.1 (4 * (f : Int) + (i : Int))) (4 * c + i) σ) := rfl
    have ei : (i : Int) + 1 = ((i + 1 : Nat) : Int) := by omega
    simp only [f_X3_copiesLatest_L3, f_X3_copiesLatest_B3, ax_bd]
    rw [ep, ec, fm_latest (by omega) hPg hSt, g.1, ecl, ei]
    dsimp only
    have hdn := hd.o (q := (fo_copyI (fo_lat σ.1 (4 * (f : Int) + (i : Int))) (4 * c + i) σ).1) (fo_copyI_hi (by omega) (by omega) (by omega)) (fo_copyI_hi (by omega) (by omega) (by omega))
    have hWn := fo_WI_stp hd (show i < 4 by omega) hW
    rcases fo_lat_same (r := σ.1) (q := fo_al h σ.1) (p := 4 * (f : Int) + (i : Int)) (fun j hj => fo_al_o hh (by omega)) with ⟨l1, l2⟩ | ⟨l, m, l1, l2, l3, l4, l5, l6, l7⟩
    · have e0 : fo_copyI (fo_lat σ.1 (4 * (f : Int) + (i : Int))) (4 * c + i) σ = σ := by
        rw [l2]
        unfold fo_copyI
        rw [if_pos (by omega)]
      rw [l1, if_pos (by omega)]
      rw [e0] at hdn hWn ⊢
      exact ih (i + 1) M σ (by omega) hdn hWn g
    · have e0 : fo_copyI (fo_lat σ.1 (4 * (f : Int) + (i : Int))) (4 * c + i) σ = fo_copy m (4 * c + i) σ := by
        rw [l2]
        unfold fo_copyI
        rw [if_neg (by omega), fo_t0]
      rw [l1, if_neg (by omega)]
      rw [e0] at hdn hWn ⊢
      have hct := hW.ct 265 (by omega) (by omega)
      have g1 := fm_copies (σ := (fo_al h σ.1, σ.2)) ha (g := l) (l := 4 * c + i) (by dsimp only; rw [fo_al_o hh (by omega)]; exact hW.pg l l3) (by omega) (by dsimp only; rw [fo_al_o hh (by omega)]; exact hct) g
      rw [fo_al_copy (m := m) hh (by omega) l3 l4 (by rw [l5, l6]) (hW.sv l m l3 l4 (by omega) (by rw [l5, l6]) l7) l7] at g1
      obtain ⟨r1, r2⟩ := ih (i + 1) _ (fo_copy m (4 * c + i) σ) (by omega) hdn hWn g1
      unfold ax_rq
      exact ⟨⟨⟨by omega, by omega⟩, r1⟩, r2⟩
theorem fm_take (ha : fo_Na a) {k o : Int} (hfr : 0 ≤ fo_free σ.1) (g : fo_MR a n0 M0 M σ) : (f_X3_taken a k o M).1 = fo_free σ.1 ∧ fo_MR a n0 M0 (f_X3_taken a k o M).2 (fo_take k o σ.1, σ.2) := by
  obtain ⟨n, e, hn, _⟩ := fo_free_nat hfr
  unfold f_X3_taken
  simp only [ax_bd]
  rw [fm_nextFree, g.1, e, fo_t192, fo_t208]
  refine ⟨rfl, ?_⟩
  unfold fo_take
  rw [e, fo_t0]
  exact fo_MR_up ha _ _ (fo_MR_up ha _ _ g)
/-- a wipe of a block that may not be -/
theorem fm_wipeI (ha : fo_Na a) {B x : Int} (hx : x < 16) (hW : fo_WI B σ.1) (g : fo_MR a n0 M0 M σ) : fo_MR a n0 M0 (if x < 0 then M else f_X3_wipes a x M) (fo_wipeI x σ) := by
  unfold fo_wipeI
  by_cases h : x < 0
  · rw [if_pos h, if_pos h]; exact g
  · rw [if_neg h, if_neg h]
    obtain ⟨c, ec⟩ : ∃ c : Nat, x = (c : Int) := ⟨x.toNat, by omega⟩
    subst ec
    rw [fo_t0]
    exact fm_wipes ha (by omega) hW.ow hW.wi (hW.ct 266 (by omega) (by omega)) g
/-- the home's wipe, however it was marked -/
theorem fm_wipeH (ha : fo_Na a) {B x : Int} (hx : x = -1 ∨ ∃ n : Nat, x = (n : Int) ∧ n < 16 ∧ σ.1 (192 + n) < 3) (hW : fo_WI B σ.1) (g : fo_MR a n0 M0 M (fo_al x σ.1, σ.2)) : fo_MR a n0 M0 (if x < 0 then M else f_X3_wipes a x M) (fo_wipeI x σ) := by
  rcases hx with hx | ⟨n, hx, hn, hk⟩
  · subst hx
    rw [if_pos (by omega)]
    have e : fo_al (-1) σ.1 = σ.1 := by unfold fo_al; rw [if_pos (by omega)]
    rw [e] at g
    have e2 : fo_wipeI (-1) σ = σ := by unfold fo_wipeI; rw [if_pos (by omega)]
    rw [e2]
    exact g
  · subst hx
    rw [if_neg (by omega)]
    have e2 : fo_wipeI (n : Int) σ = fo_wipe n (fo_al (n : Int) σ.1, σ.2) := by
      rw [fo_al_wipe hn hk]
      unfold fo_wipeI
      rw [if_neg (by omega), fo_t0]
    rw [e2]
    refine fm_wipes ha hn (fun b hb => ?_) (fun b hb => ?_) ?_ g
    · have := hW.ow b hb
      dsimp only
      unfold fo_al
      rw [if_neg (by omega), fo_t0, fo_u_eq]
      split <;> omega
    · dsimp only
      rw [fo_al_o (by omega) (by omega)]
      exact hW.wi b hb
    · dsimp only
      rw [fo_al_o (by omega) (by omega)]
      exact hW.ct 266 (by omega) (by omega)
theorem fm_merges (ha : fo_Na a) {B : Int} {f : Nat} (hf : f < 6) (hB0 : 0 ≤ B) (hB : B ≤ 2147483647) (hfr : 0 ≤ fo_free σ.1) (hW : fo_WI B σ.1) (g : fo_MR a n0 M0 M σ) :
    (f_X3_mergesAll a (f : Int) M).1 ∧ (f_X3_mergesAll a (f : Int) M).2.1 = fo_free σ.1 ∧ fo_MR a n0 M0 (f_X3_mergesAll a (f : Int) M).2.2 (fo_merge f σ) := by
  obtain ⟨m1, m2, m3, m4⟩ := fo_merge_mid hf hB0 hfr hW
  obtain ⟨p1, p2, p3, p4⟩ := fo_merge_pre hf hfr hW
  obtain ⟨n, en, hn, _⟩ := fo_free_nat hfr
  have hcl := fo_blk_lt (r := σ.1) (k := 1) (o := (f : Int))
  have hrl := fo_blk_lt (r := σ.1) (k := 2) (o := (f : Int))
  obtain ⟨t1, t2⟩ := fm_take (k := 1) (o := (f : Int)) ha hfr g
  unfold f_X3_mergesAll
  simp only [ax_bd]
  rw [fm_blockOf, fm_blockOf, g.1, t1]
  have hJ : ∀ N, fo_MR a n0 M0 N (fo_al (fo_blk σ.1 1 f) (fo_take 1 f σ.1), σ.2) → (f_X3_mergesAll_J36 a (f : Int) (fo_blk σ.1 1 f) (fo_blk σ.1 2 f) (fo_free σ.1) N).1 ∧ (f_X3_mergesAll_J36 a (f : Int) (fo_blk σ.1 1 f) (fo_blk σ.1 2 f) (fo_free σ.1) N).2.1 = fo_free σ.1 ∧ fo_MR a n0 M0 (f_X3_mergesAll_J36 a (f : Int) (fo_blk σ.1 1 f) (fo_blk σ.1 2 f) (fo_free σ.1) N).2.2 (fo_merge f σ) := by
    intro N gN
    rw [en, fo_t0] at p1 p3 m1 m2 m3
    obtain ⟨c1, c2⟩ := fm_clL ha hcl.2 hB 4 0 N (fo_take 1 f σ.1, σ.2) (by omega) p1 p2 gN
    have e4 : f_X3_copiesLatest a (f : Int) 0 (fo_free σ.1) N = f_X3_copiesLatest_L3 a (f : Int) (n : Int) 4 ((0 : Nat) : Int) N (fun M6 => (True, M6)) := by
      rw [en]; rfl
    unfold f_X3_mergesAll_J36
    unfold ax_rc
    rw [e4]
    generalize f_X3_copiesLatest_L3 a (f : Int) (n : Int) 4 ((0 : Nat) : Int) N (fun M6 => (True, M6)) = Y at c1 c2 ⊢
    have w1 := fm_wipeH ha m1 p3 c2
    have w2 := fm_wipeI ha hrl.2 m2 w1
    have eS : fo_wipeI (fo_blk σ.1 2 f) (fo_wipeI (fo_blk σ.1 1 f) (fo_cl f n 4 0 (fo_take 1 f σ.1, σ.2))) = fo_mergeS f σ := by
      unfold fo_mergeS
      rw [en, fo_t0]
    rw [eS] at w2
    have w3 := fm_counts (k := 269) ha (m4.ct 269 (by omega) (by omega)) w2
    dsimp only [ax_bd]
    by_cases h1 : fo_blk σ.1 1 (f : Int) < 0
    · rw [if_pos h1] at w3
      rw [if_pos h1]
      by_cases h2 : fo_blk σ.1 2 (f : Int) < 0
      · rw [if_pos h2] at w3
        rw [if_pos h2]
        exact ⟨⟨c1, trivial⟩, rfl, w3⟩
      · rw [if_neg h2] at w3
        rw [if_neg h2]
        exact ⟨⟨c1, trivial⟩, rfl, w3⟩
    · rw [if_neg h1] at w3
      rw [if_neg h1]
      by_cases h2 : fo_blk σ.1 2 (f : Int) < 0
      · rw [if_pos h2] at w3
        rw [if_pos h2]
        exact ⟨⟨c1, trivial⟩, rfl, w3⟩
      · rw [if_neg h2] at w3
        rw [if_neg h2]
        exact ⟨⟨c1, trivial⟩, rfl, w3⟩
  by_cases h1 : fo_blk σ.1 1 (f : Int) < 0
  · rw [if_pos h1]
    refine hJ _ ?_
    unfold fo_al
    rw [if_pos h1]
    exact t2
  · rw [if_neg h1]
    refine hJ _ ?_
    unfold fo_al
    rw [if_neg h1]
    have e208 : (208 + fo_blk σ.1 1 (f : Int)).toNat = 208 + (fo_blk σ.1 1 (f : Int)).toNat := by omega
    rw [e208]
    exact fo_MR_up ha _ _ t2
end FOMM
