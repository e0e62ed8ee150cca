/-! ===== the run sealed: invariants, and the class's ===== -/
def fo_b4 (p0 p1 p2 p3 : Bool) : Int := ax_or (ax_or (ax_or (ax_or 0 (if p0 = true then ax_shl 1 0 else 0)) (if p1 = true then ax_shl 1 1 else 0)) (if p2 = true then ax_shl 1 2 else 0)) (if p3 = true then ax_shl 1 3 else 0)
theorem fo_b4_inj : ∀ p0 p1 p2 p3 q0 q1 q2 q3 : Bool, fo_b4 p0 p1 p2 p3 = fo_b4 q0 q1 q2 q3 → p0 = q0 ∧ p1 = q1 ∧ p2 = q2 ∧ p3 = q3 := by decide +kernel
/-- bits put together -/
def fo_ob (P : Nat → Bool) (i : Nat) (v : Int) : Int := ax_or v (if P i = true then ax_shl 1 (i : Int) else 0)
theorem fo_b4_eq {P : Nat → Bool} : fo_fold (fo_ob P) 4 0 0 = fo_b4 (P 0) (P 1) (P 2) (P 3) := by
  rw [fo_fold_s, fo_fold_s, fo_fold_s, fo_fold_s, fo_fold_z]
  rfl
section FCB4
variable {b c : Nat} {M : ax_M}
theorem fc_writtenIn (hc : c < 16) (hP : fo_Pg (fo_cr b M)) : f_X0_writtenIn b (c : Int) M = fo_fold (fo_ob (fun k => decide (0 < fo_cr b M (4 * c + k)))) 4 0 0 := by
  refine fo_loop (L := fun n i v => f_X0_writtenIn_L4 b (c : Int) M n i v (fun z => z)) (out := fun z => z) (f := fo_ob (fun k => decide (0 < fo_cr b M (4 * c + k)))) (N := 4) (fun _ _ => True) (fun _ _ => rfl) (fun n i v hi _ => ⟨?_, trivial⟩) 4 0 0 (by omega) trivial
  have hp := hP (4 * c + i) (by omega)
  have e : fo_cr b M (4 * c + i) = M (b + 1) (4 * c + i) + 1 := fo_dPg (by omega)
  simp only [f_X0_writtenIn_L4, f_X0_writtenIn_B4, fo_ob, ax_bd]
  rw [if_neg (show ¬ ((c : Int) < 0) by omega), if_neg (show ¬ (16 ≤ (c : Int)) by omega), show ((c : Int) * 4 + (i : Int)).toNat = 4 * c + i by omega]
  by_cases h : M (b + 1) (4 * c + i) = -1
  · rw [if_pos h, if_neg (by rw [decide_eq_true_eq]; omega)]
  · rw [if_neg h, if_pos (decide_eq_true (by omega))]
theorem fc_latestIn (hc : c < 16) (hP : fo_Pg (fo_cr b M)) (hK : fo_Kd (fo_cr b M)) (hE : fo_Em (fo_cr b M)) (hO : fo_On (fo_cr b M)) : f_X0_latestIn b (c : Int) M = fo_fold (fo_ob (fun k => fo_isL (fo_cr b M) (4 * c + k))) 4 0 0 := by
  refine fo_loop (L := fun n i v => f_X0_latestIn_L4 b (c : Int) M n i v (fun z => z)) (out := fun z => z) (f := fo_ob (fun k => fo_isL (fo_cr b M) (4 * c + k))) (N := 4) (fun _ _ => True) (fun _ _ => rfl) (fun n i v hi _ => ⟨?_, trivial⟩) 4 0 0 (by omega) trivial
  have hp := hP (4 * c + i) (by omega)
  have e : fo_cr b M (4 * c + i) = M (b + 1) (4 * c + i) + 1 := fo_dPg (by omega)
  simp only [f_X0_latestIn_L4, f_X0_latestIn_B4, fo_ob, ax_bd]
  rw [if_neg (show ¬ ((c : Int) < 0) by omega), if_neg (show ¬ (16 ≤ (c : Int)) by omega), show (c : Int) * 4 + (i : Int) = ((4 * c + i : Nat) : Int) by omega, fo_t0]
  by_cases h : M (b + 1) (4 * c + i) = -1
  · have h' : ¬ fo_isL (fo_cr b M) (4 * c + i) = true := by
      simp only [fo_isL, decide_eq_true_eq]
      omega
    rw [if_pos h, if_neg h']
  · rw [if_neg h, fc_latestOf (by omega) hP hK hE hO]
    by_cases h2 : fo_lat (fo_cr b M) (M (b + 1) (4 * c + i)) = ((4 * c + i : Nat) : Int)
    · have h' : fo_isL (fo_cr b M) (4 * c + i) = true := by
        simp only [fo_isL, decide_eq_true_eq]
        rw [e, show M (b + 1) (4 * c + i) + 1 - 1 = M (b + 1) (4 * c + i) by omega]
        exact ⟨by omega, h2⟩
      rw [if_neg (fun h => h h2), if_pos h']
    · have h' : ¬ fo_isL (fo_cr b M) (4 * c + i) = true := by
        simp only [fo_isL, decide_eq_true_eq]
        rw [e, show M (b + 1) (4 * c + i) + 1 - 1 = M (b + 1) (4 * c + i) by omega]
        exact fun h => h2 h.2
      rw [if_pos h2, if_neg h']
/-- all that is written of a block without gaps is the latest -/
theorem fc_allL (hc : c < 16) (hP : fo_Pg (fo_cr b M)) (hK : fo_Kd (fo_cr b M)) (hE : fo_Em (fo_cr b M)) (hO : fo_On (fo_cr b M)) (hC : ∀ k, k < 3 → fo_cr b M (4 * c + k) = 0 → fo_cr b M (4 * c + k + 1) = 0) : f_X0_latestIn b (c : Int) M = f_X0_writtenIn b (c : Int) M ↔ fo_allL (fo_cr b M) c (fo_fill (fo_cr b M) c) = true := by
  rw [fc_latestIn hc hP hK hE hO, fc_writtenIn hc hP, fo_b4_eq, fo_b4_eq]
  obtain ⟨f1, f2, f3⟩ := fo_fill_spec hP hc hC
  have ha : fo_allL (fo_cr b M) c (fo_fill (fo_cr b M) c) = true ↔ ∀ k, k < fo_fill (fo_cr b M) c → fo_isL (fo_cr b M) (4 * c + k) = true := by
    simp only [fo_allL, List.all_eq_true, List.mem_range]
  have nl : ∀ k, fo_cr b M k = 0 → fo_isL (fo_cr b M) k = false := fun k h => by
    simp only [fo_isL, decide_eq_false_iff_not]
    omega
  rw [ha]
  constructor
  · intro h k hk
    obtain ⟨i0, i1, i2, i3⟩ := fo_b4_inj _ _ _ _ _ _ _ _ h
    have hw := f2 k hk
    have : k = 0 ∨ k = 1 ∨ k = 2 ∨ k = 3 := by omega
    rcases this with e | e | e | e <;> subst e
    · rw [i0]; exact decide_eq_true (by omega)
    · rw [i1]; exact decide_eq_true (by omega)
    · rw [i2]; exact decide_eq_true (by omega)
    · rw [i3]; exact decide_eq_true (by omega)
  · intro h
    have eq : ∀ k, k < 4 → fo_isL (fo_cr b M) (4 * c + k) = decide (0 < fo_cr b M (4 * c + k)) := by
      intro k hk
      by_cases hf : k < fo_fill (fo_cr b M) c
      · rw [h k hf]
        exact (decide_eq_true (by have := f2 k hf; omega)).symm
      · have h0 := f3 k (by omega) hk
        rw [nl _ h0]
        exact (decide_eq_false (by omega)).symm
    rw [eq 0 (by omega), eq 1 (by omega), eq 2 (by omega), eq 3 (by omega)]
end FCB4
/-- what stands ahead of the wipe when the run becomes the home -/
def fo_sealM (b f n : Nat) (σ : fo_S) : fo_S := (fo_u (fo_cl f b (4 - n) n σ).1 (192 + b) 1, (fo_cl f b (4 - n) n σ).2)
theorem fo_seal_mid {B : Int} {b f : Nat} {σ : fo_S} (hB : 0 ≤ B) (hd : fo_Dst f b σ.1) (hk : σ.1 (192 + b) = 2) (hn : fo_fill σ.1 b ≤ 4) (h : fo_WI B σ.1) :
    fo_WI B (fo_cl f b (4 - fo_fill σ.1 b) (fo_fill σ.1 b) σ).1 ∧ fo_WI B (fo_sealM b f (fo_fill σ.1 b) σ).1 ∧
    (fo_blk σ.1 1 f = -1 ∨ ∃ m : Nat, fo_blk σ.1 1 f = (m : Int) ∧ m < 16 ∧ (fo_sealM b f (fo_fill σ.1 b) σ).1 (192 + m) < 3) ∧
    fo_WI B (fo_sealS b f (fo_fill σ.1 b) σ).1 := by
  have h1 := fo_WI_cl (B := B) (4 - fo_fill σ.1 b) (fo_fill σ.1 b) σ (by omega) hd h
  have hkk : ∀ j, 192 ≤ j → j ≠ 265 → (fo_cl f b (4 - fo_fill σ.1 b) (fo_fill σ.1 b) σ).1 j = σ.1 j := fun j hj h5 => fo_cl_hi hd.1 hj h5 _ _ _ (by omega)
  have h2 : fo_WI B (fo_sealM b f (fo_fill σ.1 b) σ).1 := fo_WI_k1 hd.1 (by rw [hkk _ (by omega) (by have := hd.1; omega)]; exact hk) h1
  refine ⟨h1, h2, ?_, fo_WI_wipeI fo_blk_lt.2 hB h2⟩
  rcases fo_blk_spec σ.1 1 f with ⟨q, _⟩ | ⟨m, q, hm, q1, _⟩
  · exact Or.inl q
  · refine Or.inr ⟨m, q, hm, ?_⟩
    have hb := hd.1
    simp only [fo_sealM]
    rw [fo_u_eq]
    split
    · omega
    · rw [hkk _ (by omega) (by omega), q1]; omega
theorem fo_seal_pt {B : Int} {b f : Nat} {σ : fo_S} (hB : 0 ≤ B) (hd : fo_Dst f b σ.1) (hk : σ.1 (192 + b) = 2) (hC : ∀ k, k < 3 → σ.1 (4 * b + k) = 0 → σ.1 (4 * b + k + 1) = 0) (h : fo_WI B σ.1) :
    (∀ j : Nat, j < 64 → (fo_sealS b f (fo_fill σ.1 b) σ).1 j = if ((j / 4 : Nat) : Int) = fo_blk σ.1 1 f then 0 else if j / 4 = b ∧ fo_fill σ.1 b ≤ j % 4 ∧ 0 ≤ fo_lat σ.1 (4 * (f : Int) + ((j % 4 : Nat) : Int)) then 4 * (f : Int) + ((j % 4 : Nat) : Int) + 1 else σ.1 j) ∧
    (∀ c : Nat, c < 16 → (fo_sealS b f (fo_fill σ.1 b) σ).1 (192 + c) = if (c : Int) = fo_blk σ.1 1 f then 0 else if c = b then 1 else σ.1 (192 + c)) ∧
    (∀ c : Nat, c < 16 → (fo_sealS b f (fo_fill σ.1 b) σ).1 (208 + c) = if (c : Int) = fo_blk σ.1 1 f then 0 else σ.1 (208 + c)) ∧
    (∀ j, 240 ≤ j → j ≠ 265 → j ≠ 266 → (fo_sealS b f (fo_fill σ.1 b) σ).1 j = σ.1 j) := by
  obtain ⟨f1, f2, f3⟩ := fo_fill_spec h.pg hd.1 hC
  obtain ⟨m1, m2, m3, m4⟩ := fo_seal_mid hB hd hk f1 h
  have hb := hd.1
  have b1 := fo_blk_lt (r := σ.1) (k := 1) (o := f)
  have hkk : ∀ j, 192 ≤ j → j ≠ 265 → (fo_cl f b (4 - fo_fill σ.1 b) (fo_fill σ.1 b) σ).1 j = σ.1 j := fun j hj h5 => fo_cl_hi hd.1 hj h5 _ _ _ (by omega)
  have hpt := fo_cl_pt (f := f) (b := b) (4 - fo_fill σ.1 b) (fo_fill σ.1 b) σ (by omega) hb f3
  have k1 : fo_blk σ.1 1 f < 0 ∨ (fo_sealM b f (fo_fill σ.1 b) σ).1 (192 + (fo_blk σ.1 1 f).toNat) < 3 := by
    rcases m3 with q | ⟨q, q1, q2, q3⟩
    · omega
    · rw [q1, fo_t0]; exact Or.inr q3
  have e : fo_sealS b f (fo_fill σ.1 b) σ = fo_wipeI (fo_blk σ.1 1 f) (fo_sealM b f (fo_fill σ.1 b) σ) := rfl
  rw [e]
  refine ⟨fun j hj => ?_, fun c hc => ?_, fun c hc => ?_, fun j hj h5 h6 => ?_⟩
  · rw [fo_wipeI_pg b1.2 hj]
    have h9 : (fo_sealM b f (fo_fill σ.1 b) σ).1 j = if j / 4 = b ∧ fo_fill σ.1 b ≤ j % 4 ∧ 0 ≤ fo_lat σ.1 (4 * (f : Int) + ((j % 4 : Nat) : Int)) then 4 * (f : Int) + ((j % 4 : Nat) : Int) + 1 else σ.1 j := by
      simp only [fo_sealM]
      rw [fo_u_o (by omega), (hpt j hj).1]
      by_cases hh : j / 4 = b ∧ fo_fill σ.1 b ≤ j % 4 ∧ 0 ≤ fo_lat σ.1 (4 * (f : Int) + ((j % 4 : Nat) : Int))
      · rw [if_pos hh, if_pos ⟨hh.1, hh.2.1, by omega, hh.2.2⟩]
      · rw [if_neg hh, if_neg (fun h => hh ⟨h.1, h.2.1, h.2.2.2⟩)]
    rw [h9]
  · rw [fo_wipeI_k b1.2 hc]
    have h9 : (fo_sealM b f (fo_fill σ.1 b) σ).1 (192 + c) = if c = b then 1 else σ.1 (192 + c) := by
      simp only [fo_sealM]
      rw [fo_u_eq]
      by_cases ec : c = b
      · rw [if_pos (by omega), if_pos ec]
      · rw [if_neg (by omega), if_neg ec, hkk _ (by omega) (by omega)]
    rw [h9]
  · rw [fo_wipeI_ow b1.2 k1 hc]
    have h9 : (fo_sealM b f (fo_fill σ.1 b) σ).1 (208 + c) = σ.1 (208 + c) := by
      simp only [fo_sealM]
      rw [fo_u_o (by omega), hkk _ (by omega) (by omega)]
    rw [h9]
  · rw [fo_wipeI_hi b1.2 hj h6]
    simp only [fo_sealM]
    rw [fo_u_o (by omega), hkk j (by omega) h5]
