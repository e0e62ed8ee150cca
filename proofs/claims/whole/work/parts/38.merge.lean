/-! ===== copies of the latest leaves into a block; a full merge ===== -/
/-- a leaf written with another page doesn't touch the latest leaf of a page -/
theorem fo_lat_o {r q : fo_R} {p : Int} (hp : ∀ j, j < 64 → (q j = p + 1 ↔ r j = p + 1)) (hs : ∀ j, j < 64 → r j = p + 1 → q (128 + j) = r (128 + j)) (hk : ∀ j, j < 64 → r j = p + 1 → fo_rank q j = fo_rank r j) : fo_lat q p = fo_lat r p := by
  refine fo_best_congr (fun k hk' => ?_) (fun i j hi hj h1 h2 => ?_)
  · have := hp k hk'
    by_cases h : r k = p + 1
    · simp [h, this.mpr h]
    · have h' : ¬ q k = p + 1 := fun e => h (this.mp e)
      simp [h, h']
  · have a1 := (hp i hi).mp (of_decide_eq_true h1)
    have a2 := (hp j hj).mp (of_decide_eq_true h2)
    unfold fo_bet
    rw [hs i hi a1, hs j hj a2, hk i hi a1, hk j hj a2]
theorem fo_rank_o {r q : fo_R} {l : Nat} (h0 : q l = r l) (h1 : q (208 + l / 4) = r (208 + l / 4)) (h2 : q (192 + l / 4) = r (192 + l / 4)) : fo_rank q l = fo_rank r l := by
  unfold fo_rank
  rw [h0, h1, h2]
theorem fo_copy_pg {g l j : Nat} {σ : fo_S} (hl : l < 64) (hj : j < 64) : (fo_copy g l σ).1 j = if j = l then σ.1 g else σ.1 j := by
  simp only [fo_copy]
  rw [fo_cnt_o (by omega), fo_put_pg hl hj, show σ.1 g - 1 + 1 = σ.1 g by omega]
theorem fo_copy_vl {g l j : Nat} {σ : fo_S} (hl : l < 64) (hj : j < 64) : (fo_copy g l σ).1 (64 + j) = if j = l then σ.1 (64 + g) else σ.1 (64 + j) := by
  simp only [fo_copy]
  rw [fo_cnt_o (by omega), fo_put_vl hl hj]
theorem fo_copy_st {g l j : Nat} {σ : fo_S} (hl : l < 64) (hj : j < 64) : (fo_copy g l σ).1 (128 + j) = if j = l then σ.1 (128 + g) else σ.1 (128 + j) := by
  simp only [fo_copy]
  rw [fo_cnt_o (by omega), fo_put_st hl hj]
theorem fo_copy_hi {g l j : Nat} {σ : fo_S} (hl : l < 64) (hj : 192 ≤ j) (h5 : j ≠ 265) : (fo_copy g l σ).1 j = σ.1 j := by
  simp only [fo_copy]
  rw [fo_cnt_o h5, fo_put_hi hl hj]
theorem fo_copyI_hi {g : Int} {l j : Nat} {σ : fo_S} (hl : l < 64) (hj : 192 ≤ j) (h5 : j ≠ 265) : (fo_copyI g l σ).1 j = σ.1 j := by
  unfold fo_copyI
  split
  · rfl
  · exact fo_copy_hi hl hj h5
theorem fo_cl_hi {f b j : Nat} (hb : b < 16) (hj : 192 ≤ j) (h5 : j ≠ 265) : ∀ (n i : Nat) (σ : fo_S), i + n ≤ 4 → (fo_cl f b n i σ).1 j = σ.1 j := by
  intro n
  induction n with
  | zero => intro i σ _; rfl
  | succ n ih =>
    intro i σ hi
    show (fo_cl f b n (i + 1) (fo_copyI (fo_lat σ.1 (4 * (f : Int) + (i : Int))) (4 * b + i) σ)).1 j = σ.1 j
    rw [ih (i + 1) _ (by omega), fo_copyI_hi (by omega) hj h5]
theorem fo_cl_ex {f b : Nat} : ∀ (n i : Nat) (σ : fo_S), ∃ t, (fo_cl f b n i σ).2 = σ.2 ++ t := by
  intro n
  induction n with
  | zero => intro i σ; exact ⟨[], by simp [fo_cl]⟩
  | succ n ih =>
    intro i σ
    obtain ⟨t, h⟩ := ih (i + 1) (fo_copyI (fo_lat σ.1 (4 * (f : Int) + (i : Int))) (4 * b + i) σ)
    have e : ∃ u, (fo_copyI (fo_lat σ.1 (4 * (f : Int) + (i : Int))) (4 * b + i) σ).2 = σ.2 ++ u := by
      unfold fo_copyI
      split
      · exact ⟨[], by simp⟩
      · exact ⟨_, rfl⟩
    obtain ⟨u, e⟩ := e
    refine ⟨u ++ t, ?_⟩
    show (fo_cl f b n (i + 1) _).2 = _
    rw [h, e, List.append_assoc]
/-- a block of a folder that is to hold copies -/
def fo_Dst (f b : Nat) (r : fo_R) : Prop := b < 16 ∧ f < 6 ∧ (r (192 + b) = 1 ∨ r (192 + b) = 2) ∧ r (208 + b) = (f : Int)
theorem fo_Dst.o {f b : Nat} {r q : fo_R} (h : fo_Dst f b r) (h1 : q (192 + b) = r (192 + b)) (h2 : q (208 + b) = r (208 + b)) : fo_Dst f b q := ⟨h.1, h.2.1, by rw [h1]; exact h.2.2.1, by rw [h2]; exact h.2.2.2⟩
theorem fo_lat_cases (r : fo_R) (p : Int) : fo_lat r p = -1 ∨ ∃ m : Nat, fo_lat r p = (m : Int) ∧ m < 64 ∧ r m = p + 1 := by
  rcases fo_lat_spec r p with ⟨h, _⟩ | ⟨l, h1, h2, h3, _⟩
  · exact Or.inl h
  · exact Or.inr ⟨l, h1, h2, h3⟩
/-- one copy -/
theorem fo_WI_stp {B : Int} {f b k : Nat} {σ : fo_S} (hd : fo_Dst f b σ.1) (hk : k < 4) (h : fo_WI B σ.1) : fo_WI B (fo_copyI (fo_lat σ.1 (4 * (f : Int) + (k : Int))) (4 * b + k) σ).1 := by
  obtain ⟨hb, hf, hkd, how⟩ := hd
  unfold fo_copyI
  split
  · exact h
  · rcases fo_lat_cases σ.1 (4 * (f : Int) + (k : Int)) with e | ⟨m, e, hm, hp⟩
    · omega
    · rw [e, fo_t0]
      have e4 : (4 * b + k) / 4 = b := by omega
      have e5 : (4 * b + k) % 4 = k := by omega
      refine fo_WI_copy hm (by omega) (by omega) (by rw [e4]; omega) (fun _ => ?_) h
      rw [e4, e5, how]
      omega
theorem fo_WI_cl {B : Int} {f b : Nat} : ∀ (n i : Nat) (σ : fo_S), i + n ≤ 4 → fo_Dst f b σ.1 → fo_WI B σ.1 → fo_WI B (fo_cl f b n i σ).1 := by
  intro n
  induction n with
  | zero => intro i σ _ _ h; exact h
  | succ n ih =>
    intro i σ hi hd h
    have hb := hd.1
    exact ih (i + 1) _ (by omega) (hd.o (fo_copyI_hi (by omega) (by omega) (by omega)) (fo_copyI_hi (by omega) (by omega) (by omega))) (fo_WI_stp hd (by omega) h)
theorem rl_cl {b : Nat} {B : Int} {r0 : fo_R} {w : Prop} {f c : Nat} : ∀ (n i : Nat) (K : Int) (M : ax_M) (σ : fo_S), i + n ≤ 4 → fo_Dst f c σ.1 → fo_WI B σ.1 → 100 ≤ K → K + n ≤ 1000000 → fo_RL b K M σ r0 w → fo_RL b (K + n) (fo_fold (fz_cp b (f : Int) (c : Int)) n i M) (fo_cl f c n i σ) r0 w := by
  intro n
  induction n with
  | zero => intro i K M σ _ _ _ _ _ h; rw [fo_fold_z]; exact h.up (by omega)
  | succ n ih =>
    intro i K M σ hi hd hW hK0 hK h
    have hc := hd.1
    have hf := hd.2.1
    have hs : fo_RL b (K + 1) (fz_cp b (f : Int) (c : Int) i M) (fo_copyI (fo_lat σ.1 (4 * (f : Int) + (i : Int))) (4 * c + i) σ) r0 w := by
      unfold fz_cp
      refine rl_copyI (by omega) ?_ (hW.ct 265 (by omega) (by omega)) (fun hcr => ⟨?_, by omega⟩) hK0 (by omega) h
      · rcases fo_lat_cases σ.1 (4 * (f : Int) + (i : Int)) with e | ⟨m, e, hm, hp⟩
        · exact Or.inl e
        · exact Or.inr ⟨m, e, hm, by omega⟩
      · rw [ax_wr_id (x := (f : Int) * 4) (by omega) (by omega), ax_wr_id (by omega) (by omega), show (f : Int) * 4 + (i : Int) = 4 * (f : Int) + (i : Int) by omega]
        rw [← hcr]
        rw [← hcr] at hW
        exact fc_latestOf (by omega) hW.pg hW.kd hW.em hW.on
    have := ih (i + 1) (K + 1) _ _ (by omega) (hd.o (fo_copyI_hi (by omega) (by omega) (by omega)) (fo_copyI_hi (by omega) (by omega) (by omega))) (fo_WI_stp hd (by omega) hW) (by omega) (by omega) hs
    rw [show K + ((n + 1 : Nat) : Int) = K + 1 + (n : Int) by omega, fo_fold_s]
    exact this
theorem fo_take_kd {k o : Int} {r : fo_R} {c : Nat} (hf : 0 ≤ fo_free r) (hc : c < 16) : fo_take k o r (192 + c) = if (c : Int) = fo_free r then k else r (192 + c) := by
  have hb : fo_free r < 16 := by
    rcases fo_free_spec r with ⟨h1, _⟩ | ⟨j, h1, h2, _⟩ <;> omega
  unfold fo_take
  rw [fo_u_o (by omega), fo_u_eq]
  by_cases e : (c : Int) = fo_free r
  · rw [if_pos (by omega), if_pos e]
  · rw [if_neg (by omega), if_neg e]
theorem fo_take_ow {k o : Int} {r : fo_R} {c : Nat} (hf : 0 ≤ fo_free r) (hc : c < 16) : fo_take k o r (208 + c) = if (c : Int) = fo_free r then o else r (208 + c) := by
  have hb : fo_free r < 16 := by
    rcases fo_free_spec r with ⟨h1, _⟩ | ⟨j, h1, h2, _⟩ <;> omega
  unfold fo_take
  rw [fo_u_eq]
  by_cases e : (c : Int) = fo_free r
  · rw [if_pos (by omega), if_pos e]
  · rw [if_neg (by omega), if_neg e, fo_u_o (by omega)]
theorem fo_take_o {k o : Int} {r : fo_R} {j : Nat} (hf : 0 ≤ fo_free r) (hj : j < 192 ∨ 224 ≤ j) : fo_take k o r j = r j := by
  have hb : fo_free r < 16 := by
    rcases fo_free_spec r with ⟨h1, _⟩ | ⟨j, h1, h2, _⟩ <;> omega
  unfold fo_take
  rw [fo_u_o (by omega), fo_u_o (by omega)]
theorem fo_free_nat {r : fo_R} (hf : 0 ≤ fo_free r) : ∃ n : Nat, fo_free r = (n : Int) ∧ n < 16 ∧ r (192 + n) = 0 := by
  rcases fo_free_spec r with ⟨h1, _⟩ | h
  · omega
  · exact h
theorem fo_WI_take {B : Int} {k o : Int} {r : fo_R} (hf : 0 ≤ fo_free r) (hk : 1 ≤ k ∧ k ≤ 4) (ho : 0 ≤ o ∧ o ≤ 6) (h : fo_WI B r) : fo_WI B (fo_take k o r) := by
  obtain ⟨n, e, hn, h0⟩ := fo_free_nat hf
  unfold fo_take
  rw [e, fo_t0]
  exact fo_WI_own hn hk ho (fun l hl e' => h.em l hl (by rw [e']; exact h0)) h
theorem fo_wipeI_kd {x : Int} {c : Nat} {σ : fo_S} (hc : c < 16) (hx : x < 16) (hne : (c : Int) ≠ x) : (fo_wipeI x σ).1 (192 + c) = σ.1 (192 + c) := by
  unfold fo_wipeI
  split
  · rfl
  · simp only [fo_wipe]
    rw [fo_cnt_o (by omega), fo_wp_kd hc, if_neg (by omega)]
theorem fo_WI_wipeI {B x : Int} {σ : fo_S} (hx : x < 16) (hB : 0 ≤ B) (h : fo_WI B σ.1) : fo_WI B (fo_wipeI x σ).1 := by
  unfold fo_wipeI
  split
  · exact h
  · exact fo_WI_wipe (by omega) hB h
theorem fo_wipeI_ex {x : Int} {σ : fo_S} : ∃ t, (fo_wipeI x σ).2 = σ.2 ++ t := by
  unfold fo_wipeI
  split
  · exact ⟨[], by simp⟩
  · exact ⟨_, rfl⟩
theorem fo_blk_lt {r : fo_R} {k o : Int} : -1 ≤ fo_blk r k o ∧ fo_blk r k o < 16 := by
  rcases fo_blk_spec r k o with ⟨h, _⟩ | ⟨b, h, hb, _⟩ <;> omega
/-- where a full merge stands ahead of its wipes -/
theorem fo_merge_pre {B : Int} {f : Nat} {σ : fo_S} (hf : f < 6) (hfr : 0 ≤ fo_free σ.1) (h : fo_WI B σ.1) : fo_Dst f (fo_free σ.1).toNat (fo_take 1 f σ.1) ∧ fo_WI B (fo_take 1 f σ.1) ∧ fo_WI B (fo_cl f (fo_free σ.1).toNat 4 0 (fo_take 1 f σ.1, σ.2)).1 ∧ (∀ c : Nat, c < 16 → (c : Int) ≠ fo_free σ.1 → (fo_cl f (fo_free σ.1).toNat 4 0 (fo_take 1 f σ.1, σ.2)).1 (192 + c) = σ.1 (192 + c)) := by
  obtain ⟨n, e, hn, h0⟩ := fo_free_nat hfr
  have hd : fo_Dst f (fo_free σ.1).toNat (fo_take 1 f σ.1) := by
    refine ⟨by omega, hf, Or.inl ?_, ?_⟩
    · rw [fo_take_kd hfr (by omega), if_pos (by omega)]
    · rw [fo_take_ow hfr (by omega), if_pos (by omega)]
  have hw := fo_WI_take (B := B) (k := 1) (o := f) hfr (by omega) (by omega) h
  refine ⟨hd, hw, fo_WI_cl 4 0 _ (by omega) hd hw, fun c hc hne => ?_⟩
  rw [fo_cl_hi (by omega) (by omega) (by omega) 4 0 _ (by omega)]
  show fo_take 1 f σ.1 (192 + c) = _
  rw [fo_take_kd hfr hc, if_neg hne]
theorem fo_blk_free {r : fo_R} {k o : Int} (hk : k ≠ 0) (hfr : 0 ≤ fo_free r) : fo_blk r k o ≠ fo_free r := by
  obtain ⟨n, e, hn, h0⟩ := fo_free_nat hfr
  rcases fo_blk_spec r k o with ⟨h, _⟩ | ⟨b, h, hb, h1, _⟩
  · omega
  · intro he
    have : b = n := by omega
    subst this
    omega
/-- the wipes of a full merge: home and run, before them nothing else -/
theorem fo_merge_mid {B : Int} {f : Nat} {σ : fo_S} (hf : f < 6) (hB : 0 ≤ B) (hfr : 0 ≤ fo_free σ.1) (h : fo_WI B σ.1) :
    (fo_blk σ.1 1 f = -1 ∨ ∃ n : Nat, fo_blk σ.1 1 f = (n : Int) ∧ n < 16 ∧ (fo_cl f (fo_free σ.1).toNat 4 0 (fo_take 1 f σ.1, σ.2)).1 (192 + n) < 3) ∧
    fo_WI B (fo_wipeI (fo_blk σ.1 1 f) (fo_cl f (fo_free σ.1).toNat 4 0 (fo_take 1 f σ.1, σ.2))).1 ∧
    (fo_blk σ.1 2 f = -1 ∨ ∃ n : Nat, fo_blk σ.1 2 f = (n : Int) ∧ n < 16 ∧ (fo_wipeI (fo_blk σ.1 1 f) (fo_cl f (fo_free σ.1).toNat 4 0 (fo_take 1 f σ.1, σ.2))).1 (192 + n) < 3) ∧
    fo_WI B (fo_mergeS f σ).1 := by
  obtain ⟨p1, p2, p3, p4⟩ := fo_merge_pre hf hfr h
  have hw := fo_WI_wipeI (x := fo_blk σ.1 1 f) fo_blk_lt.2 hB p3
  refine ⟨?_, hw, ?_, fo_WI_wipeI fo_blk_lt.2 hB hw⟩
  · rcases fo_blk_spec σ.1 1 f with ⟨h1, _⟩ | ⟨c, h1, h2, h3, _⟩
    · exact Or.inl h1
    · have := fo_blk_free (r := σ.1) (k := 1) (o := f) (by omega) hfr
      exact Or.inr ⟨c, h1, h2, by rw [p4 c h2 (by omega), h3]; omega⟩
  · rcases fo_blk_spec σ.1 2 f with ⟨h1, _⟩ | ⟨c, h1, h2, h3, _⟩
    · exact Or.inl h1
    · have := fo_blk_free (r := σ.1) (k := 2) (o := f) (by omega) hfr
      refine Or.inr ⟨c, h1, h2, ?_⟩
      have hne : (c : Int) ≠ fo_blk σ.1 1 f := by
        rcases fo_blk_spec σ.1 1 f with ⟨g1, _⟩ | ⟨d, g1, g2, g3, _⟩
        · omega
        · intro he
          have : c = d := by omega
          subst this
          omega
      rw [fo_wipeI_kd h2 fo_blk_lt.2 hne, p4 c h2 (by omega), h3]
      omega
theorem fo_WI_merge {B : Int} {f : Nat} {σ : fo_S} (hf : f < 6) (hB : 0 ≤ B) (hfr : 0 ≤ fo_free σ.1) (h : fo_WI B σ.1) : fo_WI B (fo_merge f σ).1 := fo_WI_cnt (by omega) (by omega) (fo_merge_mid hf hB hfr h).2.2.2
theorem fo_merge_ex {f : Nat} {σ : fo_S} : ∃ t, (fo_merge f σ).2 = σ.2 ++ t := by
  obtain ⟨t1, h1⟩ := fo_cl_ex (f := f) (b := (fo_free σ.1).toNat) 4 0 (fo_take 1 f σ.1, σ.2)
  obtain ⟨t2, h2⟩ := fo_wipeI_ex (x := fo_blk σ.1 1 f) (σ := fo_cl f (fo_free σ.1).toNat 4 0 (fo_take 1 f σ.1, σ.2))
  obtain ⟨t3, h3⟩ := fo_wipeI_ex (x := fo_blk σ.1 2 f) (σ := fo_wipeI (fo_blk σ.1 1 f) (fo_cl f (fo_free σ.1).toNat 4 0 (fo_take 1 f σ.1, σ.2)))
  refine ⟨t1 ++ (t2 ++ t3), ?_⟩
  show (fo_wipeI _ _).2 = _
  rw [h3, h2, h1]
  simp
/-- the class's full merge -/
theorem rl_merge {b : Nat} {K B : Int} {M : ax_M} {σ : fo_S} {r0 : fo_R} {w : Prop} {x : Int} {f : Nat} (hf : f < 6) (hB : 0 ≤ B) (hfr : 0 ≤ fo_free σ.1) (hW : fo_WI B σ.1) (ha : fo_cr b M = σ.1 → x = (f : Int)) (hK0 : 100 ≤ K) (hK : K + 6 ≤ 1000000) (h : fo_RL b K M σ r0 w) : fo_RL b (K + 6) (f_X0_fullMerge b x M).2 (fo_merge f σ) r0 w ∧ (fo_cr b M = σ.1 → (f_X0_fullMerge b x M).1 = fo_free σ.1) := by
  obtain ⟨m1, m2, m3, m4⟩ := fo_merge_mid hf hB hfr hW
  obtain ⟨p1, p2, p3, p4⟩ := fo_merge_pre hf hfr hW
  by_cases hc : fo_cr b M = σ.1
  · have hx := ha hc
    subst hx
    have eM : f_X0_fullMerge b (f : Int) M = (fo_free σ.1, f_X0_countOne b 6 (f_X0_wipe b (fo_blk σ.1 2 f) (f_X0_wipe b (fo_blk σ.1 1 f) (fo_fold (fz_cp b (f : Int) (fo_free σ.1)) 4 0 (f_X0_take b 1 (f : Int) M).2)))) := by
      unfold f_X0_fullMerge
      simp only [ax_bd]
      rw [fz_mergeL, fc_owned, fc_owned, hc, rl_take1 hc]
    rw [eM]
    refine ⟨?_, fun _ => rfl⟩
    have h1 := rl_take (k := 1) (k' := 1) (o := (f : Int)) (o' := (f : Int)) hfr (fun _ => ⟨rfl, rfl⟩) (by omega) h
    have h2 := rl_cl (B := B) 4 0 K _ _ (by omega) p1 p2 hK0 (by omega) h1
    have ef : (((fo_free σ.1).toNat : Nat) : Int) = fo_free σ.1 := by omega
    rw [ef] at h2
    have h3 := rl_wipeI (x := fo_blk σ.1 1 f) m1 (fun _ => rfl) p3.wi p3.ct (by omega) (by omega) h2
    have h4 := rl_wipeI (x := fo_blk σ.1 2 f) m3 (fun _ => rfl) m2.wi m2.ct (by omega) (by omega) h3
    have h5 := rl_count (k := 6) (by omega) (by omega) (m4.ct 269 (by omega) (by omega)) (by omega) h4
    exact h5.up (by omega)
  · have ht : fo_Tr r0 (fo_merge f σ) := by
      have a1 : fo_Tr r0 ((fo_take 1 f σ.1, σ.2) : fo_S) := fo_Tr_o (fun j hj => fo_take_o hfr (Or.inl hj)) h.1
      have a2 : ∀ (n i : Nat) (τ : fo_S), i + n ≤ 4 → fo_Tr r0 τ → fo_Tr r0 (fo_cl f (fo_free σ.1).toNat n i τ) := by
        intro n
        induction n with
        | zero => intro i τ _ ht; exact ht
        | succ n ih =>
          intro i τ hi ht
          refine ih (i + 1) _ (by omega) ?_
          unfold fo_copyI
          split
          · exact ht
          · exact fo_Tr_copy (by have := p1.1; omega) ht
      have a3 : ∀ (y : Int) (τ : fo_S), fo_Tr r0 τ → fo_Tr r0 (fo_wipeI y τ) := by
        intro y τ ht
        unfold fo_wipeI
        split
        · exact ht
        · exact fo_Tr_wipe ht
      exact fo_Tr_o (σ := fo_mergeS f σ) (fun j hj => fo_cnt_o (by omega)) (a3 _ _ (a3 _ _ (a2 4 0 _ (by omega) a1)))
    exact ⟨fo_RL_ne h hc fz_merge.1 hK ht fo_merge_ex, fun h' => absurd h' hc⟩
