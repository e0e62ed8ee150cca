/-! ===== rows laid by, and taken back ===== -/
theorem ax_cp_o {M : ax_M} {a0 sp a1 dp n t : Nat} (h : t ≠ a1) : ax_cp M a0 sp a1 dp n t = M t := by
  funext i
  simp [ax_cp, h]
theorem ax_cp_at {M : ax_M} {a0 sp a1 dp n k : Nat} (h1 : dp ≤ k) (h2 : k < dp + n) : ax_cp M a0 sp a1 dp n a1 k = M a0 (sp + (k - dp)) := by
  unfold ax_cp
  rw [if_pos ⟨rfl, h1, h2⟩]
theorem ax_cp_out {M : ax_M} {a0 sp a1 dp n k : Nat} (h : k < dp ∨ dp + n ≤ k) : ax_cp M a0 sp a1 dp n a1 k = M a1 k := by
  unfold ax_cp
  rw [if_neg (by omega)]
theorem fo_dec_cg {P V T K O W H L Y P' V' T' K' O' W' H' L' Y' : Nat → Int} (h1 : ∀ i, i < 64 → P i = P' i) (h2 : ∀ i, i < 64 → V i = V' i) (h3 : ∀ i, i < 64 → T i = T' i)
    (h4 : ∀ i, i < 16 → K i = K' i) (h5 : ∀ i, i < 16 → O i = O' i) (h6 : ∀ i, i < 16 → W i = W' i) (h7 : ∀ i, i < 24 → H i = H' i) (h8 : ∀ i, i < 3 → L i = L' i) (h9 : ∀ i, i < 7 → Y i = Y' i) :
    fo_dec P V T K O W H L Y = fo_dec P' V' T' K' O' W' H' L' Y' := by
  funext j
  simp only [fo_dec]
  by_cases c1 : j < 64
  · rw [if_pos c1, if_pos c1, h1 j c1]
  rw [if_neg c1, if_neg c1]
  by_cases c2 : j < 128
  · rw [if_pos c2, if_pos c2, h1 _ (by omega), h2 _ (by omega)]
  rw [if_neg c2, if_neg c2]
  by_cases c3 : j < 192
  · rw [if_pos c3, if_pos c3, h1 _ (by omega), h3 _ (by omega)]
  rw [if_neg c3, if_neg c3]
  by_cases c4 : j < 208
  · rw [if_pos c4, if_pos c4, h4 _ (by omega)]
  rw [if_neg c4, if_neg c4]
  by_cases c5 : j < 224
  · rw [if_pos c5, if_pos c5, h5 _ (by omega)]
  rw [if_neg c5, if_neg c5]
  by_cases c6 : j < 240
  · rw [if_pos c6, if_pos c6, h6 _ (by omega)]
  rw [if_neg c6, if_neg c6]
  by_cases c7 : j < 264
  · rw [if_pos c7, if_pos c7, h7 _ (by omega)]
  rw [if_neg c7, if_neg c7]
  by_cases c8 : j < 270
  · rw [if_pos c8, if_pos c8, h9 _ (by omega)]
  rw [if_neg c8, if_neg c8]
  by_cases c9 : j = 270
  · rw [if_pos c9, if_pos c9, h9 _ (by omega)]
  rw [if_neg c9, if_neg c9]
  by_cases c10 : j < 274
  · rw [if_pos c10, if_pos c10, h8 _ (by omega)]
  rw [if_neg c10, if_neg c10]
theorem fo_dec_hi {P V T K O W H L Y : Nat → Int} {j : Nat} (h : 274 ≤ j) : fo_dec P V T K O W H L Y j = 0 := by
  simp only [fo_dec]
  rw [if_neg (by omega), if_neg (by omega), if_neg (by omega), if_neg (by omega), if_neg (by omega), if_neg (by omega), if_neg (by omega), if_neg (by omega), if_neg (by omega), if_neg (by omega)]
/-- a row of the class's that was laid by, at o of slot s; one of the model's -/
def fo_vw (M : ax_M) (s o : Nat) : fo_R := fo_dec (fun i => M s (o + i)) (fun i => M s (o + 64 + i)) (fun i => M s (o + 128 + i)) (fun i => M s (o + 192 + i)) (fun i => M s (o + 208 + i)) (fun i => M s (o + 224 + i)) (fun i => M s (o + 240 + i)) (fun i => M s (o + 264 + i)) (fun i => M s (o + 267 + i))
def fo_mw (M : ax_M) (s o : Nat) : fo_R := fun j => if j < 274 then M s (o + j) else 0
theorem fo_vw_cg {M N : ax_M} {s o : Nat} (h : ∀ i, o ≤ i → i < o + 274 → N s i = M s i) : fo_vw N s o = fo_vw M s o :=
  fo_dec_cg (fun i hi => h _ (by omega) (by omega)) (fun i hi => h _ (by omega) (by omega)) (fun i hi => h _ (by omega) (by omega)) (fun i hi => h _ (by omega) (by omega)) (fun i hi => h _ (by omega) (by omega)) (fun i hi => h _ (by omega) (by omega)) (fun i hi => h _ (by omega) (by omega)) (fun i hi => h _ (by omega) (by omega)) (fun i hi => h _ (by omega) (by omega))
theorem fo_mw_cg {M N : ax_M} {s t o p : Nat} (h : ∀ j, j < 274 → N s (o + j) = M t (p + j)) : fo_mw N s o = fo_mw M t p := by
  funext j
  unfold fo_mw
  by_cases hj : j < 274
  · rw [if_pos hj, if_pos hj, h j hj]
  · rw [if_neg hj, if_neg hj]
theorem fc_cpS {n0 a0 n1 a1 o : Nat} {M : ax_M} (h : o + n0 ≤ n1) : f_X0_carryPart n0 a0 n1 a1 (o : Int) 1 M = (((o + n0 : Nat) : Int), ax_cp M a0 0 a1 o n0) := by
  unfold f_X0_carryPart
  rw [if_neg (by omega), if_pos (by omega), if_neg (by decide)]
  simp only [ax_bd]
  rw [show (o : Int).toNat = o by omega, show (n0 : Int).toNat = n0 by omega, Int.natCast_add]
theorem fc_cpL {n0 a0 n1 a1 o : Nat} {M : ax_M} (h : o + n0 ≤ n1) : f_X0_carryPart n0 a0 n1 a1 (o : Int) 0 M = (((o + n0 : Nat) : Int), ax_cp M a1 o a0 0 n0) := by
  unfold f_X0_carryPart
  rw [if_neg (by omega), if_pos (by omega), if_pos rfl]
  simp only [ax_bd]
  rw [show (o : Int).toNat = o by omega, show (n0 : Int).toNat = n0 by omega, Int.natCast_add]
theorem fc_saveE {b n s o : Nat} {M : ax_M} (h : o + 274 ≤ n) : f_X0_save b n s (o : Int) M =
    ax_cp (ax_cp (ax_cp (ax_cp (ax_cp (ax_cp (ax_cp (ax_cp (ax_cp M (b + 1) 0 s o 64) (b + 2) 0 s (o + 64) 64) (b + 3) 0 s (o + 64 + 64) 64) (b + 4) 0 s (o + 64 + 64 + 64) 16) (b + 5) 0 s (o + 64 + 64 + 64 + 16) 16) (b + 6) 0 s (o + 64 + 64 + 64 + 16 + 16) 16) (b + 7) 0 s (o + 64 + 64 + 64 + 16 + 16 + 16) 24) (b + 8) 0 s (o + 64 + 64 + 64 + 16 + 16 + 16 + 24) 3) (b + 9) 0 s (o + 64 + 64 + 64 + 16 + 16 + 16 + 24 + 3) 7 := by
  unfold f_X0_save f_X0_carry
  simp only [ax_bd]
  rw [if_neg (by omega), if_pos (by omega), fc_cpS (by omega)]
  dsimp only
  rw [fc_cpS (by omega)]
  dsimp only
  rw [fc_cpS (by omega)]
  dsimp only
  rw [fc_cpS (by omega)]
  dsimp only
  rw [fc_cpS (by omega)]
  dsimp only
  rw [fc_cpS (by omega)]
  dsimp only
  rw [fc_cpS (by omega)]
  dsimp only
  rw [fc_cpS (by omega)]
  dsimp only
  rw [fc_cpS (by omega)]
theorem fc_loadE {b n s o : Nat} {M : ax_M} (h : o + 274 ≤ n) : f_X0_load b n s (o : Int) M =
    ax_cp (ax_cp (ax_cp (ax_cp (ax_cp (ax_cp (ax_cp (ax_cp (ax_cp M s o (b + 1) 0 64) s (o + 64) (b + 2) 0 64) s (o + 64 + 64) (b + 3) 0 64) s (o + 64 + 64 + 64) (b + 4) 0 16) s (o + 64 + 64 + 64 + 16) (b + 5) 0 16) s (o + 64 + 64 + 64 + 16 + 16) (b + 6) 0 16) s (o + 64 + 64 + 64 + 16 + 16 + 16) (b + 7) 0 24) s (o + 64 + 64 + 64 + 16 + 16 + 16 + 24) (b + 8) 0 3) s (o + 64 + 64 + 64 + 16 + 16 + 16 + 24 + 3) (b + 9) 0 7 := by
  unfold f_X0_load f_X0_carry
  simp only [ax_bd]
  rw [if_neg (by omega), if_pos (by omega), fc_cpL (by omega)]
  dsimp only
  rw [fc_cpL (by omega)]
  dsimp only
  rw [fc_cpL (by omega)]
  dsimp only
  rw [fc_cpL (by omega)]
  dsimp only
  rw [fc_cpL (by omega)]
  dsimp only
  rw [fc_cpL (by omega)]
  dsimp only
  rw [fc_cpL (by omega)]
  dsimp only
  rw [fc_cpL (by omega)]
  dsimp only
  rw [fc_cpL (by omega)]
theorem fc_save {b n s o : Nat} {M : ax_M} (hs : s ≤ b ∨ b + 9 < s) (h : o + 274 ≤ n) :
    (∀ t, t ≠ s → f_X0_save b n s (o : Int) M t = M t) ∧ fo_vw (f_X0_save b n s (o : Int) M) s o = fo_cr b M ∧ ∀ i, i < o ∨ o + 274 ≤ i → f_X0_save b n s (o : Int) M s i = M s i := by
  rw [fc_saveE h]
  refine ⟨fun t ht => ?_, ?_, fun i hi => ?_⟩
  · repeat rw [ax_cp_o ht]
  · unfold fo_vw fo_cr
    refine fo_dec_cg (fun i hi => ?_) (fun i hi => ?_) (fun i hi => ?_) (fun i hi => ?_) (fun i hi => ?_) (fun i hi => ?_) (fun i hi => ?_) (fun i hi => ?_) (fun i hi => ?_)
    all_goals
      repeat rw [ax_cp_out (by omega)]
      rw [ax_cp_at (by omega) (by omega)]
      repeat rw [ax_cp_o (by omega)]
      exact congrArg _ (by omega)
  · repeat rw [ax_cp_out (by omega)]
theorem fc_load {b n s o : Nat} {M : ax_M} (hs : s ≤ b ∨ b + 9 < s) (h : o + 274 ≤ n) :
    (∀ t, t ≤ b ∨ b + 9 < t → f_X0_load b n s (o : Int) M t = M t) ∧ fo_cr b (f_X0_load b n s (o : Int) M) = fo_vw M s o := by
  rw [fc_loadE h]
  refine ⟨fun t ht => ?_, ?_⟩
  · repeat rw [ax_cp_o (by omega)]
  · unfold fo_vw fo_cr
    refine fo_dec_cg (fun i hi => ?_) (fun i hi => ?_) (fun i hi => ?_) (fun i hi => ?_) (fun i hi => ?_) (fun i hi => ?_) (fun i hi => ?_) (fun i hi => ?_) (fun i hi => ?_)
    all_goals
      repeat rw [ax_cp_o (by omega)]
      rw [ax_cp_at (by omega) (by omega)]
      repeat rw [ax_cp_o (by omega)]
      exact congrArg _ (by omega)
/-! the model's rows -/
section FOVM
variable {M : ax_M}
theorem fm_putsByL {u : Nat} (hu : u ≤ 8) : ∀ (n i : Nat) (M : ax_M), i + n = 274 → M 0 24 = (u : Int) →
    (f_X3_putsBy_L2 n i M (fun M5 => (True, M5))).1 ∧ (∀ t, t ≠ 13 → (f_X3_putsBy_L2 n i M (fun M5 => (True, M5))).2 t = M t) ∧ ∀ j, (f_X3_putsBy_L2 n i M (fun M5 => (True, M5))).2 13 j = if 274 * u + i ≤ j ∧ j < 274 * u + 274 then M 7 (j - 274 * u) else M 13 j := by
  intro n
  induction n with
  | zero => intro i M hi _; exact ⟨trivial, fun _ _ => rfl, fun j => by rw [if_neg (by omega)]; rfl⟩
  | succ n ih =>
    intro i M hi hu0
    simp only [f_X3_putsBy_L2, f_X3_putsBy_B2, ax_bd]
    unfold ax_rq
    dsimp only
    rw [hu0, show (274 * (u : Int) + (i : Int)).toNat = 274 * u + i by omega]
    obtain ⟨q1, q2, q3⟩ := ih (i + 1) (ax_up M 13 (274 * u + i) (M 7 i)) (by omega) (by rw [ax_up_ne (by decide)]; exact hu0)
    refine ⟨⟨by omega, q1⟩, fun t ht => by rw [q2 t ht, ax_up_ne ht], fun j => ?_⟩
    rw [q3 j, ax_up_ne (by decide), fo_up_at, fo_u_eq]
    by_cases h1 : j = 274 * u + i
    · rw [if_neg (by omega), if_pos h1, if_pos (by omega), show j - 274 * u = i by omega]
    · rw [if_neg h1]
      by_cases h2 : 274 * u + (i + 1) ≤ j ∧ j < 274 * u + 274
      · rw [if_pos h2, if_pos (by omega)]
      · rw [if_neg h2, if_neg (by omega)]
theorem fm_putsBy {u : Nat} (hu : u ≤ 8) (h : M 0 24 = (u : Int)) (h7 : ∀ j, 274 ≤ j → M 7 j = 0) : (f_X3_putsBy M).1 ∧ (∀ t, t ≠ 13 → (f_X3_putsBy M).2 t = M t) ∧ fo_mw (f_X3_putsBy M).2 13 (274 * u) = M 7 ∧ ∀ j, j < 274 * u → (f_X3_putsBy M).2 13 j = M 13 j := by
  obtain ⟨q1, q2, q3⟩ := fm_putsByL hu 274 0 M rfl h
  unfold f_X3_putsBy
  refine ⟨q1, q2, ?_, fun j hj => by rw [q3 j, if_neg (by omega)]⟩
  funext j
  unfold fo_mw
  by_cases hj : j < 274
  · rw [if_pos hj, q3, if_pos (by omega), show 274 * u + j - 274 * u = j by omega]
  · rw [if_neg hj, h7 j (by omega)]
theorem fm_addsL {x : Int} {kx : ax_M → Prop × Int × ax_M} : ∀ (n i : Nat) (M : ax_M), i + n = 2192 →
    ∃ N, f_X3_adds_L21 x n i M kx = kx N ∧ (∀ t, t ≠ 13 → N t = M t) ∧ ∀ j, N 13 j = if i ≤ j ∧ j < 2192 then M 13 (j + 274) else M 13 j := by
  intro n
  induction n with
  | zero => intro i M hi; exact ⟨M, rfl, fun _ _ => rfl, fun j => by rw [if_neg (by omega)]⟩
  | succ n ih =>
    intro i M hi
    simp only [f_X3_adds_L21, f_X3_adds_B21, ax_bd]
    obtain ⟨N, q1, q2, q3⟩ := ih (i + 1) (ax_up M 13 i (M 13 ((i : Int) + 274).toNat)) (by omega)
    refine ⟨N, q1, fun t ht => by rw [q2 t ht, ax_up_ne ht], fun j => ?_⟩
    rw [q3 j, fo_up_at, fo_u_eq, fo_u_eq]
    by_cases h1 : j = i
    · rw [if_neg (by omega), if_pos h1, if_pos (by omega), show ((i : Int) + 274).toNat = j + 274 by omega]
    · by_cases h2 : i + 1 ≤ j ∧ j < 2192
      · rw [if_pos h2, if_neg (by omega), if_pos (by omega)]
      · rw [if_neg h2, if_neg h1, if_neg (by omega)]
/-- an act counts: rows of before move up once there are more than eight -/
theorem fm_adds {x : Int} {u : Nat} (hu : u ≤ 8) (h : M 0 24 = (u : Int)) : (f_X3_adds x M).1 ∧ (f_X3_adds x M).2.1 = x ∧ (∀ t, t ≠ 13 → t ≠ 0 → (f_X3_adds x M).2.2 t = M t) ∧ (∀ f, f ≠ 24 → (f_X3_adds x M).2.2 0 f = M 0 f) ∧
    (u < 8 → (f_X3_adds x M).2.2 0 24 = (u : Int) + 1 ∧ (f_X3_adds x M).2.2 13 = M 13) ∧ (u = 8 → (f_X3_adds x M).2.2 0 24 = 8 ∧ ∀ i, i < 8 → fo_mw (f_X3_adds x M).2.2 13 (274 * i) = fo_mw M 13 (274 * (i + 1))) := by
  unfold f_X3_adds
  simp only [ax_bd]
  unfold ax_rq
  dsimp only
  have e24 : ax_up M 0 24 (M 0 24 + 1) 0 24 = (u : Int) + 1 := by rw [fo_up_at, fo_u_s, h]
  rw [e24, h]
  by_cases hu8 : u < 8
  · rw [if_pos (by omega)]
    exact ⟨⟨by omega, trivial⟩, rfl, fun t _ h0 => ax_up_ne h0, fun f hf => by show ax_up M 0 24 ((u : Int) + 1) 0 f = M 0 f; rw [fo_up_at, fo_u_o hf], fun _ => ⟨by show ax_up M 0 24 ((u : Int) + 1) 0 24 = (u : Int) + 1; rw [fo_up_at, fo_u_s], ax_up_ne (M := M) (i := 24) (v := (u : Int) + 1) (show (13 : Nat) ≠ 0 by decide)⟩, fun e => absurd e (by omega)⟩
  · rw [if_neg (by omega)]
    obtain ⟨N, q1, q2, q3⟩ := fm_addsL (x := x) (kx := fun M7 => (((0 ≤ ((M7 0 24) - 1) ∧ ((M7 0 24) - 1) < ((10 : Nat) : Int))) ∧ True, (x, ax_up M7 0 24 ((M7 0 24) - 1)))) 2192 0 (ax_up M 0 24 ((u : Int) + 1)) rfl
    rw [q1]
    have n24 : N 0 24 = (u : Int) + 1 := by rw [q2 0 (by decide), fo_up_at, fo_u_s]
    dsimp only
    rw [n24]
    refine ⟨⟨by omega, by omega, trivial⟩, rfl, fun t h13 h0 => by rw [ax_up_ne h0, q2 t h13, ax_up_ne h0], fun f hf => by rw [fo_up_at, fo_u_o hf, q2 0 (by decide), fo_up_at, fo_u_o hf], fun e => absurd e hu8, fun e => ⟨by rw [fo_up_at, fo_u_s]; omega, fun i hi => fo_mw_cg (fun j hj => ?_)⟩⟩
    rw [ax_up_ne (by decide), q3, if_pos (by omega), ax_up_ne (by decide), show 274 * i + j + 274 = 274 * (i + 1) + j by omega]
theorem fm_undoL {u : Nat} (hu : u ≤ 8) {kx : ax_M → Int × ax_M} : ∀ (n i : Nat) (M : ax_M), i + n = 274 → M 0 24 = (u : Int) →
    (f_X3_undo_L26 n i M (fun M10 => (True, kx M10))).1 ∧ ∃ N, (f_X3_undo_L26 n i M (fun M10 => (True, kx M10))).2 = kx N ∧ (∀ t, t ≠ 7 → N t = M t) ∧ ∀ j, N 7 j = if i ≤ j ∧ j < 274 then M 13 (274 * u + j) else M 7 j := by
  intro n
  induction n with
  | zero => intro i M hi _; exact ⟨trivial, M, rfl, fun _ _ => rfl, fun j => by rw [if_neg (by omega)]⟩
  | succ n ih =>
    intro i M hi hu0
    simp only [f_X3_undo_L26, f_X3_undo_B26, ax_bd]
    unfold ax_rq
    dsimp only
    rw [hu0, show (274 * (u : Int) + (i : Int)).toNat = 274 * u + i by omega]
    obtain ⟨q1, N, q2, q3, q4⟩ := ih (i + 1) (ax_up M 7 i (M 13 (274 * u + i))) (by omega) (by rw [ax_up_ne (by decide)]; exact hu0)
    refine ⟨⟨by omega, q1⟩, N, q2, fun t ht => by rw [q3 t ht, ax_up_ne ht], fun j => ?_⟩
    rw [q4 j, ax_up_ne (by decide), fo_up_at, fo_u_eq]
    by_cases h1 : j = i
    · rw [if_neg (by omega), if_pos h1, if_pos (by omega), h1]
    · by_cases h2 : i + 1 ≤ j ∧ j < 274
      · rw [if_pos h2, if_pos (by omega)]
      · rw [if_neg h2, if_neg h1, if_neg (by omega)]
theorem fm_copiesL {kx : ax_M → ax_M} : ∀ (n i : Nat) (M : ax_M), i + n = 274 →
    ∃ N, f_X3_copiesAll_L2 n i M kx = kx N ∧ (∀ t, t ≠ 8 → N t = M t) ∧ ∀ j, N 8 j = if i ≤ j ∧ j < 274 then M 7 j else M 8 j := by
  intro n
  induction n with
  | zero => intro i M hi; exact ⟨M, rfl, fun _ _ => rfl, fun j => by rw [if_neg (by omega)]⟩
  | succ n ih =>
    intro i M hi
    simp only [f_X3_copiesAll_L2, f_X3_copiesAll_B2, ax_bd]
    obtain ⟨N, q1, q2, q3⟩ := ih (i + 1) (ax_up M 8 i (M 7 i)) (by omega)
    refine ⟨N, q1, fun t ht => by rw [q2 t ht, ax_up_ne ht], fun j => ?_⟩
    rw [q3 j, ax_up_ne (by decide), fo_up_at, fo_u_eq]
    by_cases h1 : j = i
    · rw [if_neg (by omega), if_pos h1, if_pos (by omega), h1]
    · by_cases h2 : i + 1 ≤ j ∧ j < 274
      · rw [if_pos h2, if_pos (by omega)]
      · rw [if_neg h2, if_neg h1, if_neg (by omega)]
/-- the model's trial begins -/
theorem fm_copiesAll (h8 : ∀ j, 274 ≤ j → M 8 j = M 7 j) : f_X3_copiesAll M 8 = M 7 ∧ (∀ t, t ≠ 8 → t ≠ 0 → f_X3_copiesAll M t = M t) ∧ (∀ f, f ≠ 26 → f ≠ 27 → f_X3_copiesAll M 0 f = M 0 f) ∧ f_X3_copiesAll M 0 26 = M 7 265 ∧ f_X3_copiesAll M 0 27 = M 7 266 := by
  obtain ⟨N, q1, q2, q3⟩ := fm_copiesL (kx := fun M2 => ax_bd (f_X3_marks 8 M2) (fun M3 => M3)) 274 0 M rfl
  have e8 : N 8 = M 7 := by
    funext j
    rw [q3 j]
    by_cases hj : j < 274
    · rw [if_pos ⟨by omega, hj⟩]
    · rw [if_neg (by omega)]
      exact h8 j (by omega)
  unfold f_X3_copiesAll
  rw [q1]
  unfold f_X3_marks
  simp only [ax_bd]
  rw [ax_up_ne (show (8 : Nat) ≠ 0 by decide), e8]
  refine ⟨e8, fun t h8 h0 => by rw [ax_up_ne h0, ax_up_ne h0, q2 t h8], fun f h1 h2 => by rw [fo_up_at, fo_u_o h2, fo_up_at, fo_u_o h1, q2 0 (by decide)], ?_, ?_⟩
  · rw [fo_up_at, fo_u_o (by decide), fo_up_at, fo_u_s]
  · rw [fo_up_at, fo_u_s, ax_up_ne (by decide), e8]
theorem fm_keepL {w : Nat} {kx : ax_M → Int × ax_M} : ∀ (n i : Nat) (M : ax_M), i + n = 274 →
    ∃ N, f_X3_keep_L26 (w : Int) n i M kx = kx N ∧ (∀ t, t ≠ 21 → N t = M t) ∧ ∀ j, N 21 j = if 274 * w + i ≤ j ∧ j < 274 * w + 274 then M 7 (j - 274 * w) else M 21 j := by
  intro n
  induction n with
  | zero => intro i M hi; exact ⟨M, rfl, fun _ _ => rfl, fun j => by rw [if_neg (by omega)]⟩
  | succ n ih =>
    intro i M hi
    simp only [f_X3_keep_L26, f_X3_keep_B26, ax_bd]
    rw [show (274 * (w : Int) + (i : Int)).toNat = 274 * w + i by omega]
    obtain ⟨N, q1, q2, q3⟩ := ih (i + 1) (ax_up M 21 (274 * w + i) (M 7 i)) (by omega)
    refine ⟨N, q1, fun t ht => by rw [q2 t ht, ax_up_ne ht], fun j => ?_⟩
    rw [q3 j, ax_up_ne (by decide), fo_up_at, fo_u_eq]
    by_cases h1 : j = 274 * w + i
    · rw [if_neg (by omega), if_pos h1, if_pos (by omega), show j - 274 * w = i by omega]
    · by_cases h2 : 274 * w + (i + 1) ≤ j ∧ j < 274 * w + 274
      · rw [if_pos h2, if_pos (by omega)]
      · rw [if_neg h2, if_neg h1, if_neg (by omega)]
theorem fm_againL {w : Nat} {kx : ax_M → Int × ax_M} : ∀ (n i : Nat) (M : ax_M), i + n = 274 →
    ∃ N, f_X3_again_L28 (w : Int) n i M kx = kx N ∧ (∀ t, t ≠ 7 → N t = M t) ∧ ∀ j, N 7 j = if i ≤ j ∧ j < 274 then M 21 (274 * w + j) else M 7 j := by
  intro n
  induction n with
  | zero => intro i M hi; exact ⟨M, rfl, fun _ _ => rfl, fun j => by rw [if_neg (by omega)]⟩
  | succ n ih =>
    intro i M hi
    simp only [f_X3_again_L28, f_X3_again_B28, ax_bd]
    rw [show (274 * (w : Int) + (i : Int)).toNat = 274 * w + i by omega]
    obtain ⟨N, q1, q2, q3⟩ := ih (i + 1) (ax_up M 7 i (M 21 (274 * w + i))) (by omega)
    refine ⟨N, q1, fun t ht => by rw [q2 t ht, ax_up_ne ht], fun j => ?_⟩
    rw [q3 j, ax_up_ne (by decide), fo_up_at, fo_u_eq]
    by_cases h1 : j = i
    · rw [if_neg (by omega), if_pos h1, if_pos (by omega), h1]
    · by_cases h2 : i + 1 ≤ j ∧ j < 274
      · rw [if_pos h2, if_pos (by omega)]
      · rw [if_neg h2, if_neg h1, if_neg (by omega)]
end FOVM
