/-! ===== the class's acts: what they leave as it is; once the steps are used up, leaves stay ===== -/
def fo_Fr (b : Nat) (M N : ax_M) : Prop := (∀ s, s < b ∨ b + 9 < s → N s = M s) ∧ ∀ f, f ≠ 11 → f ≠ 13 → f ≠ 17 → N b f = M b f
theorem fo_Fr.rf {b : Nat} {M : ax_M} : fo_Fr b M M := ⟨fun _ _ => rfl, fun _ _ _ _ => rfl⟩
theorem fo_Fr.tr {b : Nat} {M N O : ax_M} (h : fo_Fr b M N) (g : fo_Fr b N O) : fo_Fr b M O := ⟨fun s hs => (g.1 s hs).trans (h.1 s hs), fun f h1 h2 h3 => (g.2 f h1 h2 h3).trans (h.2 f h1 h2 h3)⟩
theorem fo_Fr.up {b k i : Nat} {M : ax_M} {v : Int} (h1 : 1 ≤ k) (h2 : k ≤ 9) : fo_Fr b M (ax_up M (b + k) i v) := ⟨fun s hs => ax_up_ne (by omega), fun f _ _ _ => by rw [ax_up_ne (by omega)]⟩
theorem fo_Fr.upo {b i : Nat} {M : ax_M} {v : Int} (h : i = 11 ∨ i = 13 ∨ i = 17) : fo_Fr b M (ax_up M b i v) := ⟨fun s hs => ax_up_ne (by omega), fun f h1 h2 h3 => by rw [fo_up_at, fo_u_o (by omega)]⟩
/-- steps used up: leaves stay, steps go on by c at most -/
def fo_Dz (b : Nat) (c : Int) (M N : ax_M) : Prop := N b 12 = M b 12 ∧ (M b 12 < M b 11 → M b 11 + c ≤ 1000000 → -1000 ≤ M b 11 → M b 11 ≤ N b 11 ∧ N b 11 ≤ M b 11 + c ∧ ∀ j, j < 192 → fo_cr b N j = fo_cr b M j)
theorem fo_Dz.rf {b : Nat} {c : Int} {M : ax_M} (h : 0 ≤ c) : fo_Dz b c M M := ⟨rfl, fun _ _ _ => ⟨Int.le_refl _, by omega, fun _ _ => rfl⟩⟩
theorem fo_Dz.tr {b : Nat} {c d e : Int} {M N O : ax_M} (h : fo_Dz b c M N) (g : fo_Dz b d N O) (hc : 0 ≤ d) (he : c + d ≤ e) : fo_Dz b e M O := by
  refine ⟨g.1.trans h.1, fun h1 h2 h3 => ?_⟩
  obtain ⟨a1, a2, a3⟩ := h.2 h1 (by omega) h3
  obtain ⟨b1, b2, b3⟩ := g.2 (by rw [h.1]; omega) (by omega) (by omega)
  exact ⟨by omega, by omega, fun j hj => (b3 j hj).trans (a3 j hj)⟩
theorem fo_Dz.up {b k i : Nat} {M : ax_M} {v : Int} (h1 : 4 ≤ k) (h2 : k ≤ 9) (hi : fo_cr b (ax_up M (b + k) i v) = fo_cr b M ∨ ∃ q, 192 ≤ q ∧ fo_cr b (ax_up M (b + k) i v) = fo_u (fo_cr b M) q v) : fo_Dz b 0 M (ax_up M (b + k) i v) := by
  refine ⟨by rw [ax_up_ne (by omega)], fun _ _ _ => ⟨by rw [ax_up_ne (by omega)]; omega, by rw [ax_up_ne (by omega)]; omega, fun j hj => ?_⟩⟩
  rcases hi with e | ⟨q, hq, e⟩
  · rw [e]
  · rw [e, fo_u_o (by omega)]
theorem fo_Dz.fold {b : Nat} {c : Int} {f : Nat → ax_M → ax_M} (hc : 0 ≤ c) (h : ∀ i M, fo_Dz b c M (f i M)) : ∀ (n i : Nat) (M : ax_M), fo_Dz b ((n : Int) * c) M (fo_fold f n i M) := by
  intro n
  induction n with
  | zero => intro i M; rw [fo_fold_z]; exact fo_Dz.rf (by omega)
  | succ n ih =>
    intro i M
    rw [fo_fold_s]
    have h0 : (0 : Int) ≤ (n : Int) * c := Int.mul_nonneg (by omega) hc
    refine fo_Dz.tr (h i M) (ih (i + 1) (f i M)) h0 ?_
    rw [Int.natCast_add, Int.add_mul]
    omega
theorem fo_Fr.fold {b : Nat} {f : Nat → ax_M → ax_M} (h : ∀ i M, fo_Fr b M (f i M)) : ∀ n i M, fo_Fr b M (fo_fold f n i M) := by
  intro n
  induction n with
  | zero => intro i M; rw [fo_fold_z]; exact fo_Fr.rf
  | succ n ih => intro i M; rw [fo_fold_s]; exact (h i M).tr (ih (i + 1) (f i M))
/-- rows past their ends are not seen -/
theorem fo_cr_K' {b : Nat} {M : ax_M} {v : Int} (c : Nat) : fo_cr b (ax_up M (b + 4) c v) = fo_cr b M ∨ ∃ q, 192 ≤ q ∧ fo_cr b (ax_up M (b + 4) c v) = fo_u (fo_cr b M) q v := by
  by_cases hc : c < 16
  · exact Or.inr ⟨_, by omega, fo_cr_K hc⟩
  · refine Or.inl ?_
    funext j
    simp only [fo_cr, fo_dec, fo_upn (i := 4) (j := 1) (by decide), fo_upn (i := 4) (j := 2) (by decide), fo_upn (i := 4) (j := 3) (by decide), fo_upn (i := 4) (j := 5) (by decide), fo_upn (i := 4) (j := 6) (by decide), fo_upn (i := 4) (j := 7) (by decide), fo_upn (i := 4) (j := 8) (by decide), fo_upn (i := 4) (j := 9) (by decide), fo_up_at, fo_u]
    grind (splits := 20)
theorem fo_cr_O' {b : Nat} {M : ax_M} {v : Int} (c : Nat) : fo_cr b (ax_up M (b + 5) c v) = fo_cr b M ∨ ∃ q, 192 ≤ q ∧ fo_cr b (ax_up M (b + 5) c v) = fo_u (fo_cr b M) q v := by
  by_cases hc : c < 16
  · exact Or.inr ⟨_, by omega, fo_cr_O hc⟩
  · refine Or.inl ?_
    funext j
    simp only [fo_cr, fo_dec, fo_upn (i := 5) (j := 1) (by decide), fo_upn (i := 5) (j := 2) (by decide), fo_upn (i := 5) (j := 3) (by decide), fo_upn (i := 5) (j := 4) (by decide), fo_upn (i := 5) (j := 6) (by decide), fo_upn (i := 5) (j := 7) (by decide), fo_upn (i := 5) (j := 8) (by decide), fo_upn (i := 5) (j := 9) (by decide), fo_up_at, fo_u]
    grind (splits := 20)
/-! single acts -/
theorem fz_count {b : Nat} {M : ax_M} {x : Int} : fo_Dz b 0 M (f_X0_countOne b x M) ∧ fo_Fr b M (f_X0_countOne b x M) := by
  unfold f_X0_countOne
  split
  · exact ⟨fo_Dz.rf (by omega), fo_Fr.rf⟩
  · split
    · exact ⟨fo_Dz.rf (by omega), fo_Fr.rf⟩
    · split
      · exact ⟨fo_Dz.rf (by omega), fo_Fr.rf⟩
      · simp only [ax_bd]
        refine ⟨fo_Dz.up (by omega) (by omega) (Or.inr ?_), fo_Fr.up (by omega) (by omega)⟩
        by_cases h0 : x = 0
        · subst h0; exact ⟨_, by omega, fo_cr_Y0⟩
        · exact ⟨_, by omega, fo_cr_Y (by omega) (by omega)⟩
theorem fz_put {b : Nat} {M : ax_M} {x p v s : Int} : fo_Dz b 1 M (f_X0_put b x p v s M) ∧ fo_Fr b M (f_X0_put b x p v s M) := by
  have e1 : ax_up M b 11 (ax_wr (M b 11 + 1)) b 12 = M b 12 := by rw [fo_up_at, fo_u_o (by omega)]
  have e2 : ax_up M b 11 (ax_wr (M b 11 + 1)) b 11 = ax_wr (M b 11 + 1) := by rw [fo_up_at, fo_u_s]
  have eF : fo_Fr b M (ax_up M b 11 (ax_wr (M b 11 + 1))) := fo_Fr.upo (Or.inl rfl)
  have eD : ∀ N, N b 12 = M b 12 → ((¬ ax_up M b 11 (ax_wr (M b 11 + 1)) b 12 < ax_up M b 11 (ax_wr (M b 11 + 1)) b 11) ∨ N = ax_up M b 11 (ax_wr (M b 11 + 1))) → fo_Dz b 1 M N := by
    intro N h12 hN
    refine ⟨h12, fun h1 h2 h3 => ?_⟩
    have ew : ax_wr (M b 11 + 1) = M b 11 + 1 := ax_wr_id (by omega) (by omega)
    rw [e1, e2, ew] at hN
    rcases hN with hN | hN
    · omega
    · rw [hN, fo_cr_o (Or.inl (Nat.le_refl _)), fo_up_at, fo_u_s]
      exact ⟨by omega, by omega, fun _ _ => rfl⟩
  unfold f_X0_put
  simp only [ax_bd]
  split
  · exact ⟨eD _ e1 (Or.inr rfl), eF⟩
  · rename_i hn
    split
    · exact ⟨eD _ e1 (Or.inr rfl), eF⟩
    · split
      · refine ⟨eD _ ?_ (Or.inl hn), eF.tr ((fo_Fr.up (k := 1) (by omega) (by omega)).tr ((fo_Fr.up (k := 2) (by omega) (by omega)).tr (fo_Fr.up (k := 3) (by omega) (by omega))))⟩
        rw [ax_up_ne (by omega), ax_up_ne (by omega), ax_up_ne (by omega)]
        exact e1
      · exact ⟨eD _ e1 (Or.inr rfl), eF⟩
theorem fz_copy {b : Nat} {M : ax_M} {x y : Int} : fo_Dz b 1 M (f_X0_copyLeaf b x y M) ∧ fo_Fr b M (f_X0_copyLeaf b x y M) := by
  unfold f_X0_copyLeaf
  split
  · exact ⟨fo_Dz.rf (by omega), fo_Fr.rf⟩
  · split
    · exact ⟨fo_Dz.rf (by omega), fo_Fr.rf⟩
    · split
      · simp only [ax_bd]
        exact ⟨fz_put.1.tr fz_count.1 (by omega) (by omega), fz_put.2.tr fz_count.2⟩
      · exact ⟨fo_Dz.rf (by omega), fo_Fr.rf⟩
theorem fz_wipeJ {b : Nat} {M : ax_M} {x : Int} (h : 0 ≤ x ∧ x < 16) : fo_Dz b 0 M (f_X0_wipe_J56 b x M) ∧ fo_Fr b M (f_X0_wipe_J56 b x M) := by
  unfold f_X0_wipe_J56
  simp only [ax_bd]
  have a1 : fo_Dz b 0 M (ax_up M (b + 4) x.toNat 0) ∧ fo_Fr b M (ax_up M (b + 4) x.toNat 0) := ⟨fo_Dz.up (by omega) (by omega) (fo_cr_K' _), fo_Fr.up (by omega) (by omega)⟩
  have a2 : ∀ M : ax_M, fo_Dz b 0 M (ax_up M (b + 5) x.toNat 0) ∧ fo_Fr b M (ax_up M (b + 5) x.toNat 0) := fun M => ⟨fo_Dz.up (by omega) (by omega) (fo_cr_O' _), fo_Fr.up (by omega) (by omega)⟩
  have a3 : ∀ (M : ax_M) (v : Int), fo_Dz b 0 M (ax_up M (b + 6) x.toNat v) ∧ fo_Fr b M (ax_up M (b + 6) x.toNat v) := fun M v => ⟨fo_Dz.up (by omega) (by omega) (Or.inr ⟨_, by omega, fo_cr_W (by omega)⟩), fo_Fr.up (by omega) (by omega)⟩
  have a4 : ∀ M : ax_M, fo_Dz b 0 M (ax_up M b 13 1) ∧ fo_Fr b M (ax_up M b 13 1) := fun M => ⟨⟨by rw [fo_up_at, fo_u_o (by omega)], fun _ _ _ => ⟨by rw [fo_up_at, fo_u_o (by omega)]; omega, by rw [fo_up_at, fo_u_o (by omega)]; omega, fun j hj => by rw [fo_cr_o (Or.inl (Nat.le_refl _))]⟩⟩, fo_Fr.upo (by omega)⟩
  refine ⟨a1.1.tr ((a2 _).1.tr ((a3 _ _).1.tr ((a4 _).1.tr fz_count.1 (Int.le_refl 0) (Int.le_refl 0)) (Int.le_refl 0) (Int.le_refl 0)) (Int.le_refl 0) (Int.le_refl 0)) (Int.le_refl 0) (Int.le_refl 0), a1.2.tr ((a2 _).2.tr ((a3 _ _).2.tr ((a4 _).2.tr fz_count.2)))⟩
/-- the four leaves of a block, wiped -/
theorem fz_wipeL {b : Nat} {x : Int} (kx : ax_M → ax_M) (M : ax_M) : f_X0_wipe_L34 b x 4 0 M kx = kx (fo_fold (fun i M => ax_up M (b + 1) (x * 4 + (i : Int)).toNat (-1)) 4 0 M) := by rw [fo_fold_s, fo_fold_s, fo_fold_s, fo_fold_s, fo_fold_z]; rfl
theorem fz_wipe {b : Nat} {M : ax_M} {x : Int} : fo_Dz b 1 M (f_X0_wipe b x M) ∧ fo_Fr b M (f_X0_wipe b x M) := by
  have e1 : ax_up M b 11 (ax_wr (M b 11 + 1)) b 12 = M b 12 := by rw [fo_up_at, fo_u_o (by omega)]
  have e2 : ax_up M b 11 (ax_wr (M b 11 + 1)) b 11 = ax_wr (M b 11 + 1) := by rw [fo_up_at, fo_u_s]
  have eF : fo_Fr b M (ax_up M b 11 (ax_wr (M b 11 + 1))) := fo_Fr.upo (Or.inl rfl)
  unfold f_X0_wipe
  simp only [ax_bd]
  split
  · exact ⟨fo_Dz.rf (by omega), fo_Fr.rf⟩
  · split
    · split
      · rename_i h
        refine ⟨fo_Dz.tr (c := 1) (d := 0) ?_ (fz_wipeJ (by omega)).1 (by omega) (by omega), eF.tr (fz_wipeJ (by omega)).2⟩
        refine ⟨e1, fun h1 h2 h3 => ?_⟩
        rw [e2, ax_wr_id (by omega) (by omega), fo_cr_o (Or.inl (Nat.le_refl _))]
        exact ⟨by omega, by omega, fun _ _ => rfl⟩
      · rename_i h
        rw [fz_wipeL]
        have hF : fo_Fr b (ax_up M b 11 (ax_wr (M b 11 + 1))) (fo_fold (fun i M => ax_up M (b + 1) (x * 4 + (i : Int)).toNat (-1)) 4 0 (ax_up M b 11 (ax_wr (M b 11 + 1)))) := fo_Fr.fold (fun i M => fo_Fr.up (by omega) (by omega)) 4 0 _
        refine ⟨⟨?_, fun h1 h2 h3 => ?_⟩, eF.tr (hF.tr (fz_wipeJ (by omega)).2)⟩
        · rw [(fz_wipeJ (by omega)).1.1]
          exact (hF.2 12 (by omega) (by omega) (by omega)).trans e1
        · rw [e1, e2, ax_wr_id (by omega) (by omega)] at h
          omega
    · exact ⟨fo_Dz.rf (by omega), fo_Fr.rf⟩
theorem fz_take {b : Nat} {M : ax_M} {k o : Int} : fo_Dz b 0 M (f_X0_take b k o M).2 ∧ fo_Fr b M (f_X0_take b k o M).2 := by
  unfold f_X0_take
  simp only [ax_bd]
  split
  · exact ⟨fo_Dz.rf (by omega), fo_Fr.rf⟩
  · exact ⟨(fo_Dz.up (by omega) (by omega) (fo_cr_K' _)).tr (fo_Dz.up (by omega) (by omega) (fo_cr_O' _)) (by omega) (by omega), (fo_Fr.up (by omega) (by omega)).tr (fo_Fr.up (by omega) (by omega))⟩
/-! loops as folds -/
def fz_cp (b : Nat) (f x : Int) (i : Nat) (M : ax_M) : ax_M := f_X0_copyLeaf b (f_X0_latestOf b (ax_wr ((ax_wr (f * 4)) + (i : Int))) M) ((x * 4) + (i : Int)) M
theorem fz_mergeL {b : Nat} {w1 w2 w3 w4 : Int} (kx : ax_M → Int × ax_M) (M : ax_M) : f_X0_fullMerge_L25 b w1 w2 w3 w4 4 0 M kx = kx (fo_fold (fz_cp b w1 w4) 4 0 M) := by rw [fo_fold_s, fo_fold_s, fo_fold_s, fo_fold_s, fo_fold_z]; rfl
theorem fz_sealL {b : Nat} {w1 w2 w3 w4 : Int} (kx : ax_M → Int × ax_M) : ∀ (n i : Nat) (M : ax_M), f_X0_sealRun_L59 b w1 w2 w3 w4 n (i : Int) M kx = kx (fo_fold (fz_cp b w2 w1) n i M) := by
  intro n
  induction n with
  | zero => intro i M; rw [fo_fold_z]; rfl
  | succ n ih =>
    intro i M
    rw [fo_fold_s]
    show f_X0_sealRun_L59 b w1 w2 w3 w4 n ((i : Int) + 1) (fz_cp b w2 w1 i M) kx = kx (fo_fold (fz_cp b w2 w1) n (i + 1) (fz_cp b w2 w1 i M))
    exact ih (i + 1) (fz_cp b w2 w1 i M)
theorem fz_cpz {b : Nat} {f x : Int} (i : Nat) (M : ax_M) : fo_Dz b 1 M (fz_cp b f x i M) ∧ fo_Fr b M (fz_cp b f x i M) := fz_copy
theorem fz_merge {b : Nat} {M : ax_M} {f : Int} : fo_Dz b 6 M (f_X0_fullMerge b f M).2 ∧ fo_Fr b M (f_X0_fullMerge b f M).2 := by
  unfold f_X0_fullMerge
  simp only [ax_bd]
  rw [fz_mergeL]
  dsimp only
  refine ⟨fz_take.1.tr (d := 6) ((fo_Dz.fold (c := 1) (by omega) (fun i M => (fz_cpz i M).1) 4 0 _).tr (d := 2) (fz_wipe.1.tr (d := 1) (fz_wipe.1.tr (d := 0) fz_count.1 (by omega) (by omega)) (by omega) (by omega)) (by omega) (by omega)) (by omega) (by omega), fz_take.2.tr ((fo_Fr.fold (fun i M => (fz_cpz i M).2) 4 0 _).tr (fz_wipe.2.tr (fz_wipe.2.tr fz_count.2)))⟩
