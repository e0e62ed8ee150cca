/-! ===== bits (begun with rows of the kit: Int32 by its bits) ===== -/
def bt (x : Int32) (i : Nat) : Bool := x.toBitVec.getLsbD i
theorem b_ext {x y : Int32} (h : ∀ i, i < 32 → bt x i = bt y i) : x = y := Int32.toBitVec_inj.mp (BitVec.eq_of_getLsbD_eq (fun i hi => h i hi))
theorem b_or (x y : Int32) (i : Nat) : bt (x ||| y) i = (bt x i || bt y i) := by unfold bt; rw [Int32.toBitVec_or, BitVec.getLsbD_or]
theorem b_and (x y : Int32) (i : Nat) : bt (x &&& y) i = (bt x i && bt y i) := by unfold bt; rw [Int32.toBitVec_and, BitVec.getLsbD_and]
theorem b_xor (x y : Int32) (i : Nat) : bt (x ^^^ y) i = (bt x i ^^ bt y i) := by unfold bt; rw [Int32.toBitVec_xor, BitVec.getLsbD_xor]
theorem b_big {x : Int32} {i : Nat} (h : 32 ≤ i) : bt x i = false := BitVec.getLsbD_of_ge _ _ h
theorem b_255 (i : Nat) : bt 255 i = decide (i < 8) := by
  rcases Nat.lt_or_ge i 32 with h | h
  · exact (by decide +kernel : ∀ i, i < 32 → bt 255 i = decide (i < 8)) i h
  · rw [b_big h, decide_eq_false (by omega)]
theorem b_65535 (i : Nat) : bt 65535 i = decide (i < 16) := by
  rcases Nat.lt_or_ge i 32 with h | h
  · exact (by decide +kernel : ∀ i, i < 32 → bt 65535 i = decide (i < 16)) i h
  · rw [b_big h, decide_eq_false (by omega)]
theorem b_m1 : ∀ i, i < 32 → bt (-1) i = true := by decide +kernel
theorem b_0 (i : Nat) : bt 0 i = false := BitVec.getLsbD_zero
theorem s_l : ∀ n, n < 32 → ((nI n &&& 31).toBitVec.smod 32).toNat = n := by decide +kernel
theorem s_u : ∀ n, n < 32 → (((nI n).toUInt32 &&& Int32.toUInt32 31).toBitVec % 32).toNat = n := by decide +kernel
theorem b_shl (n : Nat) (hn : n < 32) (x : Int32) {i : Nat} (hi : i < 32) : bt (x <<< (nI n &&& 31)) i = (decide (n ≤ i) && bt x (i - n)) := by
  unfold bt
  rw [Int32.toBitVec_shiftLeft]
  show (x.toBitVec <<< ((nI n &&& 31).toBitVec.smod 32).toNat).getLsbD i = _
  rw [s_l n hn, BitVec.getLsbD_shiftLeft]
  rcases Nat.lt_or_ge i n with h | h
  · simp [h, Nat.not_le.mpr h]
  · simp [hi, h, Nat.not_lt.mpr h]
theorem b_ushr (n : Nat) (hn : n < 32) (x : Int32) (i : Nat) : bt ((x.toUInt32 >>> ((nI n).toUInt32 &&& Int32.toUInt32 31)).toInt32) i = bt x (n + i) := by
  show (x.toUInt32 >>> ((nI n).toUInt32 &&& Int32.toUInt32 31)).toBitVec.getLsbD i = x.toUInt32.toBitVec.getLsbD (n + i)
  rw [UInt32.toBitVec_shiftRight]
  show (x.toUInt32.toBitVec >>> (((nI n).toUInt32 &&& Int32.toUInt32 31).toBitVec % 32).toNat).getLsbD i = _
  rw [s_u n hn, BitVec.getLsbD_ushiftRight]
theorem b_sshr (n : Nat) (hn : n < 32) (x : Int32) {i : Nat} (hi : i < 32) : bt (x >>> (nI n &&& 31)) i = if n + i < 32 then bt x (n + i) else bt x 31 := by
  unfold bt
  rw [Int32.toBitVec_shiftRight]
  show (x.toBitVec.sshiftRight ((nI n &&& 31).toBitVec.smod 32).toNat).getLsbD i = _
  rw [s_l n hn, BitVec.getLsbD_sshiftRight, BitVec.msb_eq_getLsbD_last]
  simp [hi]
/-! bits of an int by its number -/
def fo_bit (v : Int) (i : Nat) : Bool := bt (Int32.ofInt v) i
theorem fo_bit_or (a b : Int) (i : Nat) : fo_bit (ax_or a b) i = (fo_bit a i || fo_bit b i) := by
  unfold fo_bit ax_or
  rw [ax_back, b_or]
theorem fo_bit_and (a b : Int) (i : Nat) : fo_bit (ax_and a b) i = (fo_bit a i && fo_bit b i) := by
  unfold fo_bit ax_and
  rw [ax_back, b_and]
theorem fo_bit_0 (i : Nat) : fo_bit 0 i = false := b_0 i
theorem fo_bit_shl : ∀ k : Nat, k < 32 → ∀ i : Nat, i < 32 → fo_bit (ax_shl 1 (k : Int)) i = decide (i = k) := by decide +kernel
theorem fo_ofk : ∀ k : Nat, k < 32 → Int32.ofInt ((k : Nat) : Int) = nI k := by decide +kernel
theorem fo_bit_1 : ∀ i, i < 32 → bt 1 i = decide (i = 0) := by decide +kernel
theorem fo_and1 (x : Int32) : (x &&& 1).toInt = if bt x 0 = true then 1 else 0 := by
  by_cases hb : bt x 0 = true
  · have e : x &&& 1 = 1 := b_ext (fun i hi => by
      rw [b_and, fo_bit_1 i hi]
      by_cases h0 : i = 0
      · subst h0; simp [hb]
      · simp [h0])
    rw [e, if_pos hb]
    rfl
  · have e : x &&& 1 = 0 := b_ext (fun i hi => by
      rw [b_and, fo_bit_1 i hi, b_0]
      by_cases h0 : i = 0
      · subst h0; simp [hb]
      · simp [h0])
    rw [e, if_neg hb]
    rfl
theorem fo_test (v : Int) {k : Nat} (hk : k < 32) : ax_and (ax_shr v (k : Int)) 1 = if fo_bit v k = true then 1 else 0 := by
  unfold ax_and ax_shr
  rw [ax_back, fo_ofk k hk, show Int32.ofInt 1 = 1 from rfl, fo_and1, b_sshr k hk _ (by omega), if_pos (show k + 0 < 32 by omega)]
  rfl
theorem fo_bit_ext {v u : Int} (hv : ax_r32 v) (hu : ax_r32 u) (h : ∀ i, i < 32 → fo_bit v i = fo_bit u i) : v = u := by
  have e : Int32.ofInt v = Int32.ofInt u := b_ext h
  rw [← ax_toI hv, ← ax_toI hu, e]
theorem fo_or_r (a b : Int) : ax_r32 (ax_or a b) := ax_r32_of _
theorem fo_and_r (a b : Int) : ax_r32 (ax_and a b) := ax_r32_of _
/-- bits put together, each at a place of its own -/
def fo_oq (P : Nat → Bool) (q : Nat → Nat) (i : Nat) (v : Int) : Int := ax_or v (if P i = true then ax_shl 1 ((q i : Nat) : Int) else 0)
theorem fo_oq_bit {P : Nat → Bool} {q : Nat → Nat} {f : Nat} (hf : f < 32) : ∀ (n i : Nat) (v : Int), (∀ j, i ≤ j → j < i + n → P j = true → q j < 32) → (fo_bit (fo_fold (fo_oq P q) n i v) f = true ↔ fo_bit v f = true ∨ ∃ j, i ≤ j ∧ j < i + n ∧ P j = true ∧ q j = f) := by
  intro n
  induction n with
  | zero =>
    intro i v _
    rw [fo_fold_z]
    exact ⟨Or.inl, fun h => h.elim id (fun ⟨j, h1, h2, _⟩ => absurd h2 (by omega))⟩
  | succ n ih =>
    intro i v hq
    rw [fo_fold_s, ih (i + 1) _ (fun j h1 h2 => hq j (by omega) (by omega))]
    have e : fo_bit (fo_oq P q i v) f = true ↔ fo_bit v f = true ∨ (P i = true ∧ q i = f) := by
      unfold fo_oq
      rw [fo_bit_or, Bool.or_eq_true]
      by_cases hp : P i = true
      · rw [if_pos hp, fo_bit_shl _ (hq i (Nat.le_refl _) (by omega) hp) f hf, decide_eq_true_eq]
        exact ⟨fun h => h.elim Or.inl (fun h => Or.inr ⟨hp, h.symm⟩), fun h => h.elim Or.inl (fun h => Or.inr h.2.symm)⟩
      · rw [if_neg hp, fo_bit_0]
        exact ⟨fun h => h.elim Or.inl (fun h => by cases h), fun h => h.elim Or.inl (fun h => absurd h.1 hp)⟩
    rw [e]
    constructor
    · rintro ((h | h) | ⟨j, h1, h2, h3⟩)
      · exact Or.inl h
      · exact Or.inr ⟨i, Nat.le_refl _, by omega, h⟩
      · exact Or.inr ⟨j, by omega, by omega, h3⟩
    · rintro (h | ⟨j, h1, h2, h3⟩)
      · exact Or.inl (Or.inl h)
      · by_cases hj : j = i
        · subst hj; exact Or.inl (Or.inr h3)
        · exact Or.inr ⟨j, by omega, by omega, h3⟩
theorem fo_ob_oq {P : Nat → Bool} : fo_ob P = fo_oq P (fun i => i) := rfl
theorem fo_ob_bit {P : Nat → Bool} {f n : Nat} (hn : n ≤ 32) (hf : f < n) : fo_bit (fo_fold (fo_ob P) n 0 0) f = P f := by
  rw [fo_ob_oq, Bool.eq_iff_iff, fo_oq_bit (by omega) n 0 0 (fun j _ h _ => by omega)]
  constructor
  · rintro (h | ⟨j, _, _, h3, h4⟩)
    · rw [fo_bit_0] at h; cases h
    · rw [← h4]; exact h3
  · intro h
    exact Or.inr ⟨f, by omega, by omega, h, rfl⟩
/-! folders in a block -/
section FOFI
variable {b c : Nat} {M : ax_M}
/-- the folders of leaves of a block that are the latest, as bits -/
def fo_fi (r : fo_R) (c : Nat) : Int := fo_fold (fo_oq (fun k => fo_isL r (4 * c + k)) (fun k => ((r (4 * c + k) - 1) / 4).toNat)) 4 0 0
theorem fo_fi_bit {r : fo_R} {f : Nat} (hP : fo_Pg r) (hc : c < 16) (hf : f < 32) : fo_bit (fo_fi r c) f = fo_hasF r c f := by
  unfold fo_fi
  rw [Bool.eq_iff_iff, fo_oq_bit hf 4 0 0 (fun j _ hj _ => by have := hP (4 * c + j) (by omega); omega), fo_hasF_iff]
  constructor
  · rintro (h | ⟨k, _, hk, h1, h2⟩)
    · rw [fo_bit_0] at h; cases h
    · have hp := hP (4 * c + k) (by omega)
      simp only [fo_isL, decide_eq_true_eq] at h1
      exact ⟨k, by omega, h1.1, h1.2, by omega⟩
  · rintro ⟨k, hk, h1, h2, h3⟩
    refine Or.inr ⟨k, by omega, by omega, ?_, by omega⟩
    simp only [fo_isL, decide_eq_true_eq]
    exact ⟨h1, h2⟩
theorem fc_foldersIn (hc : c < 16) (hP : fo_Pg (fo_cr b M)) (hK : fo_Kd (fo_cr b M)) (hE : fo_Em (fo_cr b M)) (hO : fo_On (fo_cr b M)) : f_X0_foldersIn b (c : Int) (f_X0_latestIn b (c : Int) M) M = fo_fi (fo_cr b M) c := by
  rw [fc_latestIn hc hP hK hE hO]
  generalize hw : fo_fold (fo_ob (fun k => fo_isL (fo_cr b M) (4 * c + k))) 4 0 0 = w
  have hb : ∀ k : Nat, k < 4 → ax_and (ax_shr w (k : Int)) 1 = if fo_isL (fo_cr b M) (4 * c + k) = true then 1 else 0 := fun k hk => by
    rw [fo_test w (by omega), ← hw, fo_ob_bit (by omega) hk]
  refine fo_loop (L := fun n i v => f_X0_foldersIn_L5 b (c : Int) w M n i v (fun z => z)) (out := fun z => z) (f := fo_oq (fun k => fo_isL (fo_cr b M) (4 * c + k)) (fun k => ((fo_cr b M (4 * c + k) - 1) / 4).toNat)) (N := 4) (fun _ _ => True) (fun _ _ => rfl) (fun n i v hi _ => ⟨?_, trivial⟩) 4 0 0 (by omega) trivial
  have hp := hP (4 * c + i) (by omega)
  have e : fo_cr b M (4 * c + i) = M (b + 1) (4 * c + i) + 1 := fo_dPg (by omega)
  simp only [f_X0_foldersIn_L5, f_X0_foldersIn_B5, fo_oq, ax_bd]
  rw [if_neg (show ¬ ((c : Int) < 0) by omega), if_neg (show ¬ (16 ≤ (c : Int)) by omega), show ((c : Int) * 4 + (i : Int)).toNat = 4 * c + i by omega, hb i (by omega)]
  by_cases h : M (b + 1) (4 * c + i) = -1
  · have h' : ¬ fo_isL (fo_cr b M) (4 * c + i) = true := by
      simp only [fo_isL, decide_eq_true_eq]
      omega
    rw [if_pos h, if_neg h']
  · rw [if_neg h]
    by_cases h2 : fo_isL (fo_cr b M) (4 * c + i) = true
    · rw [if_pos h2, if_neg (by decide), if_pos h2, fm_div (by omega), show ((((fo_cr b M (4 * c + i) - 1) / 4).toNat : Nat) : Int) = M (b + 1) (4 * c + i) / 4 by omega]
    · rw [if_neg h2, if_pos rfl, if_neg h2]
theorem fm_foldersIn {a : Nat} (hc : c < 16) (hP : fo_Pg (M a)) (hS : fo_St (M a)) : f_X3_foldersIn a (c : Int) M = fo_fi (M a) c := by
  refine fo_loop (L := fun n i v => f_X3_foldersIn_L4 a (c : Int) M n i v (fun z => z)) (out := fun z => z) (f := fo_oq (fun k => fo_isL (M a) (4 * c + k)) (fun k => ((M a (4 * c + k) - 1) / 4).toNat)) (N := 4) (fun _ _ => True) (fun _ _ => rfl) (fun n i v hi _ => ⟨?_, trivial⟩) 4 0 0 (by omega) trivial
  have hp := hP (4 * c + i) (by omega)
  simp only [f_X3_foldersIn_L4, f_X3_foldersIn_B4, fo_oq, ax_bd]
  rw [show (4 : Int) * (c : Int) + (i : Int) = ((4 * c + i : Nat) : Int) by omega, fm_isLatest (by omega) hP hS]
  by_cases h2 : fo_isL (M a) (4 * c + i) = true
  · have h3 : 0 < M a (4 * c + i) := by
      simp only [fo_isL, decide_eq_true_eq] at h2
      exact h2.1
    rw [if_pos h2, if_neg (by decide), if_pos h2, fm_pageAt (by rw [fo_t0]; exact hp), fo_t0, fm_div (by omega), show ((((M a (4 * c + i) - 1) / 4).toNat : Nat) : Int) = (M a (4 * c + i) - 1) / 4 by omega]
  · rw [if_neg h2, if_pos rfl, if_neg h2]
theorem fm_has {v : Int} {k : Nat} (hk : k < 32) : f_X3_has v (k : Int) M = if fo_bit v k = true then 1 else 0 := by
  unfold f_X3_has
  rw [fo_test v hk]
  by_cases h : fo_bit v k = true
  · simp [h]
  · simp [h]
end FOFI
