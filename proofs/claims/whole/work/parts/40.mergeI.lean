/-! ===== a full merge, place by place; it keeps the strong invariant ===== -/
theorem fo_wipeI_pg {x : Int} {j : Nat} {σ : fo_S} (hx : x < 16) (hj : j < 64) : (fo_wipeI x σ).1 j = if ((j / 4 : Nat) : Int) = x then 0 else σ.1 j := by
  unfold fo_wipeI
  split
  · rw [if_neg (by omega)]
  · simp only [fo_wipe]
    rw [fo_cnt_o (by omega), fo_wp_pg hj]
    by_cases e : j / 4 = x.toNat
    · rw [if_pos e, if_pos (by omega)]
    · rw [if_neg e, if_neg (by omega)]
theorem fo_wipeI_vl {x : Int} {j : Nat} {σ : fo_S} (hx : x < 16) (hj : j < 64) : (fo_wipeI x σ).1 (64 + j) = if ((j / 4 : Nat) : Int) = x then 0 else σ.1 (64 + j) := by
  unfold fo_wipeI
  split
  · rw [if_neg (by omega)]
  · simp only [fo_wipe]
    rw [fo_cnt_o (by omega), fo_wp_vl hj]
    by_cases e : j / 4 = x.toNat
    · rw [if_pos e, if_pos (by omega)]
    · rw [if_neg e, if_neg (by omega)]
theorem fo_wipeI_st {x : Int} {j : Nat} {σ : fo_S} (hx : x < 16) (hj : j < 64) : (fo_wipeI x σ).1 (128 + j) = if ((j / 4 : Nat) : Int) = x then 0 else σ.1 (128 + j) := by
  unfold fo_wipeI
  split
  · rw [if_neg (by omega)]
  · simp only [fo_wipe]
    rw [fo_cnt_o (by omega), fo_wp_st hj]
    by_cases e : j / 4 = x.toNat
    · rw [if_pos e, if_pos (by omega)]
    · rw [if_neg e, if_neg (by omega)]
theorem fo_wipeI_k {x : Int} {c : Nat} {σ : fo_S} (hx : x < 16) (hc : c < 16) : (fo_wipeI x σ).1 (192 + c) = if (c : Int) = x then 0 else σ.1 (192 + c) := by
  unfold fo_wipeI
  split
  · rw [if_neg (by omega)]
  · simp only [fo_wipe]
    rw [fo_cnt_o (by omega), fo_wp_kd hc]
    by_cases e : c = x.toNat
    · rw [if_pos e, if_pos (by omega)]
    · rw [if_neg e, if_neg (by omega)]
theorem fo_wipeI_ow {x : Int} {c : Nat} {σ : fo_S} (hx : x < 16) (hk : x < 0 ∨ σ.1 (192 + x.toNat) < 3) (hc : c < 16) : (fo_wipeI x σ).1 (208 + c) = if (c : Int) = x then 0 else σ.1 (208 + c) := by
  unfold fo_wipeI
  split
  · rw [if_neg (by omega)]
  · simp only [fo_wipe]
    rw [fo_cnt_o (by omega), fo_wp_ow hc]
    by_cases e : c = x.toNat
    · rw [if_pos e, if_pos (by omega)]
    · rw [if_neg e, if_neg (show ¬ (c : Int) = x by omega), if_neg (fun h => by have := h.1; omega)]
theorem fo_wipeI_hi {x : Int} {j : Nat} {σ : fo_S} (hx : x < 16) (hj : 240 ≤ j) (h6 : j ≠ 266) : (fo_wipeI x σ).1 j = σ.1 j := by
  unfold fo_wipeI
  split
  · rfl
  · simp only [fo_wipe]
    rw [fo_cnt_o h6, fo_wp_hi (by omega) hj]
/-- taking a block leaves the latest leaves -/
theorem fo_lat_take {k o p : Int} {r : fo_R} (hfr : 0 ≤ fo_free r) (hE : fo_Em r) (hp : 0 ≤ p) : fo_lat (fo_take k o r) p = fo_lat r p := by
  obtain ⟨n, e, hn, h0⟩ := fo_free_nat hfr
  refine fo_lat_o (fun j hj => by rw [fo_take_o hfr (by omega)]) (fun j hj _ => fo_take_o hfr (by omega)) (fun j hj h1 => ?_)
  have hne : j / 4 ≠ n := by
    intro h
    have := hE j hj (by rw [h]; exact h0)
    omega
  exact fo_rank_o (fo_take_o hfr (by omega)) (by rw [fo_take_ow hfr (by omega), if_neg (by omega)]) (by rw [fo_take_kd hfr (by omega), if_neg (by omega)])
/-- a page of folder f at place k -/
theorem fo_merge_pt {B : Int} {f : Nat} {σ : fo_S} (hf : f < 6) (hB : 0 ≤ B) (hfr : 0 ≤ fo_free σ.1) (h : fo_WI B σ.1) :
    (∀ j : Nat, j < 64 → (fo_merge f σ).1 j = if ((j / 4 : Nat) : Int) = fo_blk σ.1 2 f then 0 else if ((j / 4 : Nat) : Int) = fo_blk σ.1 1 f then 0 else if ((j / 4 : Nat) : Int) = fo_free σ.1 then (if 0 ≤ fo_lat σ.1 (4 * (f : Int) + ((j % 4 : Nat) : Int)) then 4 * (f : Int) + ((j % 4 : Nat) : Int) + 1 else 0) else σ.1 j) ∧
    (∀ j : Nat, j < 64 → ((j / 4 : Nat) : Int) ≠ fo_blk σ.1 2 f → ((j / 4 : Nat) : Int) ≠ fo_blk σ.1 1 f → ((j / 4 : Nat) : Int) ≠ fo_free σ.1 → (fo_merge f σ).1 (64 + j) = σ.1 (64 + j) ∧ (fo_merge f σ).1 (128 + j) = σ.1 (128 + j)) ∧
    (∀ c : Nat, c < 16 → (fo_merge f σ).1 (192 + c) = if (c : Int) = fo_blk σ.1 2 f then 0 else if (c : Int) = fo_blk σ.1 1 f then 0 else if (c : Int) = fo_free σ.1 then 1 else σ.1 (192 + c)) ∧
    (∀ c : Nat, c < 16 → (fo_merge f σ).1 (208 + c) = if (c : Int) = fo_blk σ.1 2 f then 0 else if (c : Int) = fo_blk σ.1 1 f then 0 else if (c : Int) = fo_free σ.1 then (f : Int) else σ.1 (208 + c)) ∧
    (∀ j, 240 ≤ j → j ≠ 265 → j ≠ 266 → j ≠ 269 → (fo_merge f σ).1 j = σ.1 j) := by
  obtain ⟨n, e, hn, h0⟩ := fo_free_nat hfr
  obtain ⟨m1, m2, m3, m4⟩ := fo_merge_mid hf hB hfr h
  have b1 := fo_blk_lt (r := σ.1) (k := 1) (o := f)
  have b2 := fo_blk_lt (r := σ.1) (k := 2) (o := f)
  have hemp : ∀ k, k < 4 → σ.1 (4 * n + k) = 0 := fun k hk => h.em _ (by omega) (by rw [show (4 * n + k) / 4 = n by omega]; exact h0)
  have hpt := fo_cl_pt (f := f) (b := n) 4 0 (fo_take 1 f σ.1, σ.2) (by omega) hn (fun k _ hk => by show fo_take 1 f σ.1 (4 * n + k) = 0; rw [fo_take_o hfr (by omega)]; exact hemp k hk)
  have hlat : ∀ k : Nat, fo_lat (fo_take 1 f σ.1) (4 * (f : Int) + (k : Int)) = fo_lat σ.1 (4 * (f : Int) + (k : Int)) := fun k => fo_lat_take hfr h.em (by omega)
  have en : (fo_free σ.1).toNat = n := by omega
  rw [en] at m1 m2 m3
  have k1 : fo_blk σ.1 1 f < 0 ∨ (fo_cl f n 4 0 (fo_take 1 f σ.1, σ.2)).1 (192 + (fo_blk σ.1 1 f).toNat) < 3 := by
    rcases m1 with q | ⟨q, q1, q2, q3⟩
    · omega
    · rw [q1, fo_t0]; exact Or.inr q3
  have k2 : fo_blk σ.1 2 f < 0 ∨ (fo_wipeI (fo_blk σ.1 1 f) (fo_cl f n 4 0 (fo_take 1 f σ.1, σ.2))).1 (192 + (fo_blk σ.1 2 f).toNat) < 3 := by
    rcases m3 with q | ⟨q, q1, q2, q3⟩
    · omega
    · rw [q1, fo_t0]; exact Or.inr q3
  refine ⟨fun j hj => ?_, fun j hj h1 h2 h3 => ⟨?_, ?_⟩, fun c hc => ?_, fun c hc => ?_, fun j hj h5 h6 h9 => ?_⟩
  · simp only [fo_merge, fo_mergeS]
    have hin : (fo_cl f n 4 0 (fo_take 1 (f : Int) σ.1, σ.2)).1 j = if ((j / 4 : Nat) : Int) = (n : Int) then (if 0 ≤ fo_lat σ.1 (4 * (f : Int) + ((j % 4 : Nat) : Int)) then 4 * (f : Int) + ((j % 4 : Nat) : Int) + 1 else 0) else σ.1 j := by
      have h9 := (hpt j hj).1
      dsimp only at h9
      rw [h9, hlat, fo_take_o hfr (by omega)]
      by_cases e1 : ((j / 4 : Nat) : Int) = (n : Int)
      · have e2 : j / 4 = n := by omega
        have ez : σ.1 j = 0 := by
          have := hemp (j % 4) (by omega)
          rw [show 4 * n + j % 4 = j by omega] at this
          exact this
        rw [if_pos e1, ez]
        by_cases hL : 0 ≤ fo_lat σ.1 (4 * (f : Int) + ((j % 4 : Nat) : Int))
        · rw [if_pos hL, if_pos ⟨e2, by omega, by omega, hL⟩]
        · rw [if_neg hL, if_neg (fun h => hL h.2.2.2)]
      · rw [if_neg e1, if_neg (fun h => e1 (by rw [h.1]))]
    rw [fo_cnt_o (by omega), fo_wipeI_pg b2.2 hj, fo_wipeI_pg b1.2 hj, en, hin, e]
  · simp only [fo_merge, fo_mergeS]
    rw [fo_cnt_o (by omega), fo_wipeI_vl b2.2 hj, fo_wipeI_vl b1.2 hj, if_neg h1, if_neg h2, en]
    have h9 := (hpt j hj).2.1
    dsimp only at h9
    rw [h9, if_neg (fun h => by have := h.1; omega), fo_take_o hfr (by omega)]
  · simp only [fo_merge, fo_mergeS]
    rw [fo_cnt_o (by omega), fo_wipeI_st b2.2 hj, fo_wipeI_st b1.2 hj, if_neg h1, if_neg h2, en]
    have h9 := (hpt j hj).2.2
    dsimp only at h9
    rw [h9, if_neg (fun h => by have := h.1; omega), fo_take_o hfr (by omega)]
  · simp only [fo_merge, fo_mergeS]
    rw [fo_cnt_o (by omega), fo_wipeI_k b2.2 hc, fo_wipeI_k b1.2 hc, fo_cl_hi (by omega) (by omega) (by omega) 4 0 _ (by omega)]
    dsimp only
    rw [fo_take_kd hfr hc]
  · simp only [fo_merge, fo_mergeS]
    rw [fo_cnt_o (by omega), en, fo_wipeI_ow b2.2 k2 hc, fo_wipeI_ow b1.2 k1 hc, fo_cl_hi (by omega) (by omega) (by omega) 4 0 _ (by omega)]
    dsimp only
    rw [fo_take_ow hfr hc]
  · simp only [fo_merge, fo_mergeS]
    rw [fo_cnt_o h9, fo_wipeI_hi b2.2 hj h6, fo_wipeI_hi b1.2 hj h6, fo_cl_hi (by omega) (by omega) h5 4 0 _ (by omega)]
    dsimp only
    rw [fo_take_o hfr (by omega)]
/-- the home of a folder, the run of one -/
theorem fo_blk_of {r : fo_R} {k o : Int} {c : Nat} (hc : c < 16) (h1 : r (192 + c) = k) (h2 : r (208 + c) = o) (hu : ∀ b, b < 16 → r (192 + b) = k → r (208 + b) = o → b = c) : fo_blk r k o = (c : Int) := by
  rcases fo_blk_spec r k o with ⟨_, h⟩ | ⟨b, h, hb, hk, ho⟩
  · exact absurd ⟨h1, h2⟩ (h c hc)
  · rw [h, hu b hb hk ho]
theorem fo_SI_merge {B : Int} {f : Nat} {σ : fo_S} (hf : f < 6) (hB : 0 ≤ B) (h : fo_WI B σ.1) (s : fo_SI σ.1) (hex : ∃ l, l < 64 ∧ σ.1 l ≠ 0 ∧ (σ.1 l - 1) / 4 = (f : Int)) : fo_SI (fo_merge f σ).1 := by
  have hfr : 0 ≤ fo_free σ.1 := fo_free_of h.kd s.hu s.ru s.lu s.or s.lo s.lm
  obtain ⟨pP, pV, pK, pO, pH⟩ := fo_merge_pt hf hB hfr h
  obtain ⟨n, en, hn, h0⟩ := fo_free_nat hfr
  have b1 := fo_blk_spec σ.1 1 f
  have b2 := fo_blk_spec σ.1 2 f
  -- kinds, by what they were
  have kk : ∀ c : Nat, c < 16 → ∀ k, k ≠ 0 → k ≠ 1 → ((fo_merge f σ).1 (192 + c) = k ↔ (σ.1 (192 + c) = k ∧ ((c : Int) ≠ fo_blk σ.1 2 f))) := by
    intro c hc k hk0 hk1
    rw [pK c hc, en]
    by_cases e2 : (c : Int) = fo_blk σ.1 2 f
    · rw [if_pos e2]
      exact ⟨fun h => absurd h.symm hk0, fun h => absurd e2 h.2⟩
    · rw [if_neg e2]
      by_cases e1 : (c : Int) = fo_blk σ.1 1 f
      · rw [if_pos e1]
        refine ⟨fun h => absurd h.symm hk0, fun h => ?_⟩
        rcases b1 with ⟨q, _⟩ | ⟨d, q, q1, q2, _⟩
        · omega
        · have : c = d := by omega
          subst this
          exact absurd (h.1.symm.trans q2) hk1
      · rw [if_neg e1]
        by_cases e0 : (c : Int) = (n : Int)
        · have : c = n := by omega
          subst this
          rw [if_pos rfl, h0]
          exact ⟨fun h => absurd h.symm hk1, fun h => absurd h.1.symm hk0⟩
        · rw [if_neg e0]
          exact ⟨fun h => ⟨h, e2⟩, fun h => h.1⟩
  have k1 : ∀ c : Nat, c < 16 → ((fo_merge f σ).1 (192 + c) = 1 ↔ ((c = n) ∨ (σ.1 (192 + c) = 1 ∧ (c : Int) ≠ fo_blk σ.1 1 f))) := by
    intro c hc
    rw [pK c hc, en]
    by_cases e2 : (c : Int) = fo_blk σ.1 2 f
    · rw [if_pos e2]
      refine ⟨fun h => absurd h (by decide), fun h => ?_⟩
      rcases b2 with ⟨q, _⟩ | ⟨d, q, q1, q2, _⟩
      · omega
      · have : c = d := by omega
        subst this
        rcases h with h | h
        · subst h; omega
        · omega
    · rw [if_neg e2]
      by_cases e1 : (c : Int) = fo_blk σ.1 1 f
      · rw [if_pos e1]
        refine ⟨fun h => absurd h (by decide), fun h => ?_⟩
        rcases h with h | h
        · exact absurd e1 (by rw [h, ← en]; exact fun e => fo_blk_free (by decide) hfr e.symm)
        · exact absurd e1 h.2
      · rw [if_neg e1]
        by_cases e0 : (c : Int) = (n : Int)
        · rw [if_pos e0]
          exact ⟨fun _ => Or.inl (by omega), fun _ => rfl⟩
        · rw [if_neg e0]
          exact ⟨fun h => Or.inr ⟨h, e1⟩, fun h => h.elim (fun h => by omega) (fun h => h.1)⟩
  have oo : ∀ c : Nat, c < 16 → (c : Int) ≠ fo_blk σ.1 2 f → (c : Int) ≠ fo_blk σ.1 1 f → c ≠ n → (fo_merge f σ).1 (208 + c) = σ.1 (208 + c) := by
    intro c hc e2 e1 e0
    rw [pO c hc, en, if_neg e2, if_neg e1, if_neg (by omega)]
  have n1 : (n : Int) ≠ fo_blk σ.1 1 f := by rw [← en]; exact fun e => fo_blk_free (by decide) hfr e.symm
  have n2 : (n : Int) ≠ fo_blk σ.1 2 f := by rw [← en]; exact fun e => fo_blk_free (by decide) hfr e.symm
  have on : (fo_merge f σ).1 (208 + n) = (f : Int) := by rw [pO n hn, en, if_neg n2, if_neg n1, if_pos rfl]
  have pp : ∀ j : Nat, j < 64 → ((j / 4 : Nat) : Int) ≠ fo_blk σ.1 2 f → ((j / 4 : Nat) : Int) ≠ fo_blk σ.1 1 f → j / 4 ≠ n → (fo_merge f σ).1 j = σ.1 j := by
    intro j hj e2 e1 e0
    rw [pP j hj, en, if_neg e2, if_neg e1, if_neg (by omega)]
  -- a block of kind k other than homes and runs isn't one of the three
  have nk : ∀ c : Nat, c < 16 → σ.1 (192 + c) ≠ 0 → c ≠ n := fun c hc hk e => by rw [e] at hk; exact hk h0
  have w1 : ∀ c : Nat, c < 16 → (c : Int) = fo_blk σ.1 1 f → σ.1 (192 + c) = 1 ∧ σ.1 (208 + c) = (f : Int) := by
    intro c hc e
    rcases b1 with ⟨q, _⟩ | ⟨d, q, q1, q2, q3⟩
    · omega
    · have : c = d := by omega
      subst this; exact ⟨q2, q3⟩
  have w2 : ∀ c : Nat, c < 16 → (c : Int) = fo_blk σ.1 2 f → σ.1 (192 + c) = 2 ∧ σ.1 (208 + c) = (f : Int) := by
    intro c hc e
    rcases b2 with ⟨q, _⟩ | ⟨d, q, q1, q2, q3⟩
    · omega
    · have : c = d := by omega
      subst this; exact ⟨q2, q3⟩
  have hom : ∀ c : Nat, c < 16 → σ.1 (192 + c) = 1 → σ.1 (208 + c) = (f : Int) → (c : Int) = fo_blk σ.1 1 f := fun c hc a b => (fo_blk_of hc a b (fun d hd a' b' => s.hu d c hd hc a' a (b'.trans b.symm))).symm
  have log : ∀ c : Nat, c < 16 → 3 ≤ σ.1 (192 + c) → (c : Int) ≠ fo_blk σ.1 2 f ∧ (c : Int) ≠ fo_blk σ.1 1 f ∧ c ≠ n := by
    intro c hc hk
    refine ⟨fun e => ?_, fun e => ?_, nk c hc (by omega)⟩
    · have := (w2 c hc e).1; omega
    · have := (w1 c hc e).1; omega
  have logk : ∀ c : Nat, c < 16 → 3 ≤ (fo_merge f σ).1 (192 + c) → 3 ≤ σ.1 (192 + c) ∧ (fo_merge f σ).1 (192 + c) = σ.1 (192 + c) := by
    intro c hc hk
    have := (kk c hc _ (by omega) (by omega)).mp rfl
    omega
  have many : ∀ k, 3 ≤ k → fo_many (fo_merge f σ).1 k = fo_many σ.1 k := fun k hk => fo_many_congr (fun c hc => by
    rw [kk c hc k (by omega) (by omega)]
    exact ⟨fun h => h.1, fun h => ⟨h, (log c hc (by omega)).1⟩⟩)
  refine ⟨fun b c hb hc e1 e2 e3 => ?_, fun b c hb hc e1 e2 => ?_, fun b c hb hc e1 e2 e3 => ?_, fun b hb e1 => ?_, fun b hb e1 => ?_, ?_, fun b hb e1 k hk e2 => ?_, fun b hb e1 => ?_, fun l hl e1 => ?_, fun b hb e1 => ?_, fun k o hk3 ho hm => ?_⟩
  · -- homes
    rcases (k1 b hb).mp e1 with q1 | ⟨q1, q2⟩
    · rcases (k1 c hc).mp e2 with p1 | ⟨p1, p2⟩
      · omega
      · have hcn := nk c hc (by omega)
        have hc2 : (c : Int) ≠ fo_blk σ.1 2 f := fun e => by have := (w2 c hc e).1; omega
        rw [q1, on, oo c hc hc2 p2 hcn] at e3
        exact absurd (hom c hc p1 e3.symm) p2
    · have hbn := nk b hb (by omega)
      have hb2 : (b : Int) ≠ fo_blk σ.1 2 f := fun e => by have := (w2 b hb e).1; omega
      rcases (k1 c hc).mp e2 with p1 | ⟨p1, p2⟩
      · rw [p1, on, oo b hb hb2 q2 hbn] at e3
        exact absurd (hom b hb q1 e3) q2
      · have hcn := nk c hc (by omega)
        have hc2 : (c : Int) ≠ fo_blk σ.1 2 f := fun e => by have := (w2 c hc e).1; omega
        rw [oo b hb hb2 q2 hbn, oo c hc hc2 p2 hcn] at e3
        exact s.hu b c hb hc q1 p1 e3
  · exact s.ru b c hb hc ((kk b hb 2 (by decide) (by decide)).mp e1).1 ((kk c hc 2 (by decide) (by decide)).mp e2).1
  · obtain ⟨g1, g2⟩ := logk b hb e1
    obtain ⟨g3, g4⟩ := logk c hc (by omega)
    obtain ⟨x1, x2, x3⟩ := log b hb g1
    obtain ⟨y1, y2, y3⟩ := log c hc g3
    rw [oo b hb x1 x2 x3, oo c hc y1 y2 y3] at e3
    exact s.lu b c hb hc g1 (by omega) e3
  · by_cases hbn : b = n
    · rw [hbn, on]; omega
    · by_cases hb1 : (b : Int) = fo_blk σ.1 1 f
      · have := (w1 b hb hb1).1
        rcases e1 with e1 | e1
        · rcases (k1 b hb).mp e1 with q | q
          · exact absurd q hbn
          · exact absurd hb1 q.2
        · have := ((kk b hb 2 (by decide) (by decide)).mp e1).1; omega
      · by_cases hb2 : (b : Int) = fo_blk σ.1 2 f
        · rcases e1 with e1 | e1
          · rw [pK b hb, if_pos hb2] at e1; exact absurd e1 (by decide)
          · exact absurd hb2 ((kk b hb 2 (by decide) (by decide)).mp e1).2
        · rw [oo b hb hb2 hb1 hbn]
          refine s.or b hb ?_
          rw [pK b hb, if_neg hb2, if_neg hb1, if_neg (by omega)] at e1
          exact e1
  · obtain ⟨g1, g2⟩ := logk b hb e1
    obtain ⟨x1, x2, x3⟩ := log b hb g1
    rw [oo b hb x1 x2 x3, g2, many _ g1]
    exact s.lo b hb g1
  · have := s.lm
    unfold fo_Lm at this ⊢
    rw [many 3 (by decide), many 4 (by decide), pH 271 (by decide) (by decide) (by decide) (by decide), pH 272 (by decide) (by decide) (by decide) (by decide), pH 273 (by decide) (by decide) (by decide) (by decide)]
    exact this
  · -- rows without a gap
    have g : 2 ≤ σ.1 (192 + b) ∧ (b : Int) ≠ fo_blk σ.1 2 f := by
      have := (kk b hb ((fo_merge f σ).1 (192 + b)) (by omega) (by omega)).mp rfl
      omega
    have x1 : (b : Int) ≠ fo_blk σ.1 1 f := fun e => by have := (w1 b hb e).1; omega
    have x0 := nk b hb (by omega)
    rw [pp (4 * b + k) (by omega) (by rw [show (4 * b + k) / 4 = b by omega]; exact g.2) (by rw [show (4 * b + k) / 4 = b by omega]; exact x1) (by omega)] at e2
    rw [pp (4 * b + k + 1) (by omega) (by rw [show (4 * b + k + 1) / 4 = b by omega]; exact g.2) (by rw [show (4 * b + k + 1) / 4 = b by omega]; exact x1) (by omega)]
    exact s.cg b hb g.1 k hk e2
  · obtain ⟨g1, g2⟩ := (kk b hb 2 (by decide) (by decide)).mp e1
    have x1 : (b : Int) ≠ fo_blk σ.1 1 f := fun e => by have := (w1 b hb e).1; omega
    have x0 := nk b hb (by omega)
    rw [pp (4 * b) (by omega) (by rw [show 4 * b / 4 = b by omega]; exact g2) (by rw [show 4 * b / 4 = b by omega]; exact x1) (by omega)]
    exact s.r0 b hb g1
  · -- each page that is written has a home
    rw [pP l hl, en] at e1 ⊢
    by_cases c2 : ((l / 4 : Nat) : Int) = fo_blk σ.1 2 f
    · rw [if_pos c2] at e1; exact absurd rfl e1
    · rw [if_neg c2] at e1 ⊢
      by_cases c1 : ((l / 4 : Nat) : Int) = fo_blk σ.1 1 f
      · rw [if_pos c1] at e1; exact absurd rfl e1
      · rw [if_neg c1] at e1 ⊢
        by_cases c0 : ((l / 4 : Nat) : Int) = (n : Int)
        · rw [if_pos c0] at e1 ⊢
          by_cases hL : 0 ≤ fo_lat σ.1 (4 * (f : Int) + ((l % 4 : Nat) : Int))
          · rw [if_pos hL]
            refine ⟨n, hn, (k1 n hn).mpr (Or.inl rfl), ?_⟩
            rw [on]
            omega
          · rw [if_neg hL] at e1; exact absurd rfl e1
        · rw [if_neg c0] at e1 ⊢
          obtain ⟨b, hb, a1, a2⟩ := s.ha l hl e1
          by_cases hb1 : (b : Int) = fo_blk σ.1 1 f
          · refine ⟨n, hn, (k1 n hn).mpr (Or.inl rfl), ?_⟩
            rw [on, ← a2, (w1 b hb hb1).2]
          · have hb2 : (b : Int) ≠ fo_blk σ.1 2 f := fun e => by have := (w2 b hb e).1; omega
            refine ⟨b, hb, (k1 b hb).mpr (Or.inr ⟨a1, hb1⟩), ?_⟩
            rw [oo b hb hb2 hb1 (nk b hb (by omega)), a2]
  · -- each home has one
    rcases (k1 b hb).mp e1 with q | ⟨q1, q2⟩
    · obtain ⟨l, hl, g1, g2⟩ := hex
      have hpg := h.pg l hl
      subst q
      refine ⟨4 * b + ((σ.1 l - 1) % 4).toNat, by omega, ?_⟩
      have hm : (4 * b + ((σ.1 l - 1) % 4).toNat) % 4 = ((σ.1 l - 1) % 4).toNat := by omega
      have hd : (4 * b + ((σ.1 l - 1) % 4).toNat) / 4 = b := by omega
      have hp : 4 * (f : Int) + ((((σ.1 l - 1) % 4).toNat : Nat) : Int) = σ.1 l - 1 := by omega
      have hL : 0 ≤ fo_lat σ.1 (σ.1 l - 1) := by
        rcases fo_lat_spec σ.1 (σ.1 l - 1) with ⟨_, g⟩ | ⟨m, g, _⟩
        · exact absurd (by omega) (g l hl)
        · omega
      rw [pP _ (by omega), en, hd, if_neg n2, if_neg n1, if_pos rfl, hm, hp, if_pos hL, on]
      exact ⟨by omega, by omega⟩
    · obtain ⟨l, hl, g1, g2⟩ := s.hb b hb q1
      have hbn := nk b hb (by omega)
      have hb2 : (b : Int) ≠ fo_blk σ.1 2 f := fun e => by have := (w2 b hb e).1; omega
      have hof : σ.1 (208 + b) ≠ (f : Int) := fun e => q2 (hom b hb q1 e)
      have hpg := h.pg l hl
      have hon := h.on l hl g1
      have c2 : ((l / 4 : Nat) : Int) ≠ fo_blk σ.1 2 f := fun e => by
        have w := w2 (l / 4) (by omega) e
        have := hon (Or.inr w.1)
        omega
      have c1 : ((l / 4 : Nat) : Int) ≠ fo_blk σ.1 1 f := fun e => by
        have w := w1 (l / 4) (by omega) e
        have := hon (Or.inl w.1)
        omega
      have c0 : l / 4 ≠ n := fun e => by
        have := h.em l hl (by rw [e]; exact h0)
        omega
      refine ⟨l, hl, ?_⟩
      rw [pp l hl c2 c1 c0, oo b hb hb2 q2 hbn]
      exact ⟨g1, g2⟩
  · rw [many k hk3] at hm
    obtain ⟨b, hb, a1, a2⟩ := s.ls k o hk3 ho hm
    obtain ⟨x1, x2, x3⟩ := log b hb (by omega)
    exact ⟨b, hb, (kk b hb k (by omega) (by omega)).mpr ⟨a1, x1⟩, by rw [oo b hb x1 x2 x3]; exact a2⟩
