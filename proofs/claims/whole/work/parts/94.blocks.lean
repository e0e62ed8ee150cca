/-! ===== counts, stale leaves; which block it was; side by side ===== -/
def fo_w (r : fo_R) (c k : Nat) : Bool := decide (0 < r (4 * c + k))
/-- what may be heard of a block -/
def fo_so (r : fo_R) (c : Nat) (w v : Int) : Bool :=
  if w = 0 then decide (r (192 + c) = v) else if w = 1 then decide (v ≤ r (224 + c)) else if w = 2 then decide (v ≤ fo_sg (fo_id (fo_w r c)) 4) else (List.range 4).any (fun k => fo_w r c k && decide ((r (4 * c + k) - 1) / 4 = v))
theorem fo_bit_hi {v : Int} {i : Nat} (h : 32 ≤ i) : fo_bit v i = false := b_big h
theorem fo_ob_hi {P : Nat → Bool} {f n : Nat} (hn : n ≤ 32) (hf : n ≤ f) : fo_bit (fo_fold (fo_ob P) n 0 0) f = false := by
  by_cases h : f < 32
  · rw [← Bool.not_eq_true, fo_ob_oq, fo_oq_bit h n 0 0 (fun j _ h _ => by omega)]
    rintro (h | ⟨j, _, h2, _, h4⟩)
    · rw [fo_bit_0] at h; cases h
    · omega
  · exact fo_bit_hi (by omega)
theorem fo_ob_r {P : Nat → Bool} : ∀ (n i : Nat) (v : Int), ax_r32 v → ax_r32 (fo_fold (fo_ob P) n i v) := by
  intro n
  induction n with
  | zero => intro i v h; rw [fo_fold_z]; exact h
  | succ n ih => intro i v _; rw [fo_fold_s]; exact ih (i + 1) _ (fo_or_r _ _)
theorem fo_rz : ax_r32 0 := ⟨by decide, by decide⟩
theorem fo_pop_ob {P : Nat → Bool} {n : Nat} {M : ax_M} (hn : n ≤ 24) : f_J_bitCount (fo_fold (fo_ob P) n 0 0) M = fo_sg (fo_id P) n := by
  rw [fo_popS (fo_ob_r n 0 0 fo_rz) (fun i h1 h2 => fo_ob_hi (by omega) (by omega))]
  have e : fo_sg (fo_id (fo_bit (fo_fold (fo_ob P) n 0 0))) 24 = fo_sg (fo_id (fo_bit (fo_fold (fo_ob P) n 0 0))) n := by
    have := fo_sg_tail (f := fo_id (fo_bit (fo_fold (fo_ob P) n 0 0))) (n := n) (fun i hi => by unfold fo_id; rw [fo_ob_hi (by omega) hi]; rfl) (24 - n)
    rw [show n + (24 - n) = 24 by omega] at this
    exact this
  rw [e]
  exact fo_sg_congr n (fun i hi => by unfold fo_id; rw [fo_ob_bit (by omega) hi])
section PRB
variable {C D : Int} {Mc Mm Nc Nm Zc Zm X Y M : ax_M} {r : fo_R}
theorem fm_isW {a c k : Nat} : f_X3_isWritten a ((4 * (c : Int)) + (k : Int)) M = if fo_w (M a) c k = true then 1 else 0 := by
  unfold f_X3_isWritten fo_w
  rw [fo_t4]
  by_cases h : M a (4 * c + k) ≤ 0
  · rw [if_pos h, if_neg (by rw [decide_eq_true_eq]; omega)]
  · rw [if_neg h, if_pos (by rw [decide_eq_true_eq]; omega)]
theorem fm_writtenIn {c : Nat} : f_X3_writtenIn (c : Int) M = fo_sg (fo_id (fo_w (M 7) c)) 4 := by
  unfold f_X3_writtenIn
  simp only [f_X3_writtenIn_L4, f_X3_writtenIn_B4]
  have f : ∀ k : Nat, f_X3_flag (f_X3_isWritten 7 ((4 * (c : Int)) + (k : Int)) M) M = fo_id (fo_w (M 7) c) k := fun k => by
    rw [fm_isW]
    unfold fo_id
    split <;> rfl
  rw [f 0, f (0 + 1), f (0 + 1 + 1), f (0 + 1 + 1 + 1)]
  show _ = 0 + fo_id (fo_w (M 7) c) 0 + fo_id (fo_w (M 7) c) 1 + fo_id (fo_w (M 7) c) 2 + fo_id (fo_w (M 7) c) 3
  rfl
theorem fc_popW {b c : Nat} (hc : c < 16) (h : fo_cr b M = r) (hP : fo_Pg r) : f_J_bitCount (f_X0_writtenIn b (c : Int) M) Nc = fo_sg (fo_id (fo_w r c)) 4 := by
  rw [fc_writtenIn hc (by rw [h]; exact hP), h]
  exact fo_pop_ob (by decide)
theorem fc_popL {b c : Nat} {B : Int} (hc : c < 16) (h : fo_cr b M = r) (hW : fo_WI B r) : f_J_bitCount (f_X0_latestIn b (c : Int) M) Nc = fo_sg (fo_id (fun k => fo_isL r (4 * c + k))) 4 := by
  rw [fc_latestIn hc (by rw [h]; exact hW.pg) (by rw [h]; exact hW.kd) (by rw [h]; exact hW.em) (by rw [h]; exact hW.on), h]
  exact fo_pop_ob (by decide)
theorem fo_staleIn_eq {c : Nat} : fo_staleIn r c = fo_sg (fo_id (fo_w r c)) 4 - fo_sg (fo_id (fun k => fo_isL r (4 * c + k))) 4 := by
  have h1 := fo_cs_sg (c := fun k => decide (0 < r (4 * c + k)) && !fo_isL r (4 * c + k)) 4 0 0
  have h0 : ∀ f, fo_sg f 0 = 0 := fun _ => rfl
  rw [h0, Int.add_zero, Int.zero_add, Nat.zero_add] at h1
  unfold fo_staleIn
  rw [h1]
  have h2 := fo_sg_add (f := fo_id (fun k => decide (0 < r (4 * c + k)) && !fo_isL r (4 * c + k))) (g := fo_id (fun k => fo_isL r (4 * c + k))) 4
  have h3 : fo_sg (fun i => fo_id (fun k => decide (0 < r (4 * c + k)) && !fo_isL r (4 * c + k)) i + fo_id (fun k => fo_isL r (4 * c + k)) i) 4 = fo_sg (fo_id (fo_w r c)) 4 := fo_sg_congr 4 (fun i _ => by
    unfold fo_id fo_w
    by_cases hl : fo_isL r (4 * c + i) = true
    · have : 0 < r (4 * c + i) := by
        simp only [fo_isL, decide_eq_true_eq] at hl
        exact hl.1
      simp [hl, this]
    · simp [hl])
  omega
theorem fc_stale1 {b c : Nat} {B : Int} (hc : c < 16) (h : fo_cr b M = r) (hW : fo_WI B r) : ax_wr ((f_J_bitCount (f_X0_writtenIn b (c : Int) M) Nc) - (f_J_bitCount (f_X0_latestIn b (c : Int) M) Nc)) = fo_staleIn r c := by
  rw [fc_popW hc h hW.pg, fc_popL hc h hW, fo_staleIn_eq]
  have a1 := fo_sg_r (f := fo_id (fo_w r c)) (fo_id_r) 4
  have a2 := fo_sg_r (f := fo_id (fun k => fo_isL r (4 * c + k))) (fo_id_r) 4
  exact ax_wr_id (by omega) (by omega)
theorem fo_staleIn_r {c : Nat} : 0 ≤ fo_staleIn r c ∧ fo_staleIn r c ≤ 4 := by
  have h1 := fo_cs_sg (c := fun k => decide (0 < r (4 * c + k)) && !fo_isL r (4 * c + k)) 4 0 0
  have h0 : ∀ f, fo_sg f 0 = 0 := fun _ => rfl
  rw [h0, Int.add_zero, Int.zero_add, Nat.zero_add] at h1
  unfold fo_staleIn
  rw [h1]
  exact fo_sg_r fo_id_r 4
/-- stale: the loops -/
theorem pq_staleC {B : Int} (hc : fo_cr 1 Nc = r) (hW : fo_WI B r) {kc : Int → Int → Int → Int × ax_M} : ∀ (n i : Nat) (v1 v2 v3 : Int), i + n = 16 → 0 ≤ v1 → v1 ≤ 4 * (i : Int) →
    f_X2_stale_L9 Nc n i v1 v2 v3 kc = (fun z : Int × Int × Int => kc z.1 z.2.1 z.2.2) (fo_fold (fun i z => (z.1 + fo_staleIn r i, if fo_staleIn r i ≤ z.2.2 then z.2.1 else (i : Int), if fo_staleIn r i ≤ z.2.2 then z.2.2 else fo_staleIn r i)) n i (v1, v2, v3)) := by
  intro n
  induction n with
  | zero => intro i v1 v2 v3 _ _ _; rw [fo_fold_z]; rfl
  | succ n ih =>
    intro i v1 v2 v3 hi h1 h2
    have hr := fo_staleIn_r (r := r) (c := i)
    simp only [f_X2_stale_L9, f_X2_stale_B9, ax_bd_e]
    rw [fc_stale1 (by omega) hc hW, ax_wr_id (by omega) (by omega), fo_fold_s]
    by_cases h : fo_staleIn r i ≤ v3
    · rw [if_pos h, ih (i + 1) _ _ _ (by omega) (by omega) (by omega)]
      dsimp only
      rw [if_pos h, if_pos h]
    · rw [if_neg h, ih (i + 1) _ _ _ (by omega) (by omega) (by omega)]
      dsimp only
      rw [if_neg h, if_neg h]
theorem pq_staleM (hm : Nm 7 = r) (hP : fo_Pg r) (hS : fo_St r) {km : Int → Prop × Int × ax_M} : ∀ (n i v : Nat), i + n = 16 → v < 16 →
    ∃ w : Nat, w < 16 ∧ f_X3_stale_L9 Nm n i (v : Int) km = km (w : Int) ∧ (w : Int) = fo_fold (fun i (z : Int) => if fo_staleIn r i ≤ fo_staleIn r z.toNat then z else (i : Int)) n i (v : Int) := by
  intro n
  induction n with
  | zero => intro i v _ hv; exact ⟨v, hv, rfl, by rw [fo_fold_z]⟩
  | succ n ih =>
    intro i v hi hv
    simp only [f_X3_stale_L9, f_X3_stale_B9]
    rw [fm_staleIn (by omega) (by rw [hm]; exact hP) (by rw [hm]; exact hS), fm_staleIn hv (by rw [hm]; exact hP) (by rw [hm]; exact hS), hm, fo_fold_s, fo_t0]
    by_cases h : fo_staleIn r i ≤ fo_staleIn r v
    · rw [if_pos h, if_pos h]
      exact ih (i + 1) v (by omega) hv
    · rw [if_neg h, if_neg h]
      exact ih (i + 1) i (by omega) (by omega)
theorem pq_staleF : ∀ (n i : Nat) (z : Int × Int × Int) (w : Int), (0 ≤ z.1 ∧ 0 ≤ z.2.2 ∧ (z.2.2 = 0 → z.1 = 0) ∧ (i = 0 → z.2.2 = 0 ∧ w = 0) ∧ (0 < i → z.2.2 = fo_staleIn r w.toNat ∧ (0 < z.2.2 → z.2.1 = w))) → 0 < n + i →
    let Z := fo_fold (fun i z => (z.1 + fo_staleIn r i, if fo_staleIn r i ≤ z.2.2 then z.2.1 else (i : Int), if fo_staleIn r i ≤ z.2.2 then z.2.2 else fo_staleIn r i)) n i z
    let W := fo_fold (fun i (z : Int) => if fo_staleIn r i ≤ fo_staleIn r z.toNat then z else (i : Int)) n i w
    0 ≤ Z.1 ∧ 0 ≤ Z.2.2 ∧ (Z.2.2 = 0 → Z.1 = 0) ∧ Z.2.2 = fo_staleIn r W.toNat ∧ (0 < Z.2.2 → Z.2.1 = W) ∧ Z.1 = fo_fold (fo_sm (fo_staleIn r)) n i z.1 := by
  intro n
  induction n with
  | zero =>
    intro i z w ⟨h1, h2, h3, _, h5⟩ hi
    dsimp only
    rw [fo_fold_z, fo_fold_z, fo_fold_z]
    exact ⟨h1, h2, h3, (h5 (by omega)).1, (h5 (by omega)).2, rfl⟩
  | succ n ih =>
    intro i z w ⟨h1, h2, h3, h4, h5⟩ hi
    have hr := fo_staleIn_r (r := r) (c := i)
    dsimp only
    rw [fo_fold_s, fo_fold_s, fo_fold_s]
    refine ih (i + 1) _ _ ⟨?_, ?_, ?_, fun h => absurd h (by omega), fun _ => ?_⟩ (by omega)
    · dsimp only; omega
    · dsimp only; split <;> omega
    · dsimp only
      split <;> intro h <;> omega
    · dsimp only
      by_cases hi0 : i = 0
      · obtain ⟨a1, a2⟩ := h4 hi0
        subst hi0
        rw [a1, a2]
        rw [if_pos (show fo_staleIn r 0 ≤ fo_staleIn r (0 : Int).toNat from Int.le_refl _)]
        show (if fo_staleIn r 0 ≤ 0 then 0 else fo_staleIn r 0) = fo_staleIn r 0 ∧ _
        by_cases h0 : fo_staleIn r 0 ≤ 0
        · rw [if_pos h0, if_pos h0]
          exact ⟨by omega, fun h => absurd h (by decide)⟩
        · rw [if_neg h0, if_neg h0]
          exact ⟨rfl, fun _ => rfl⟩
      · obtain ⟨a1, a2⟩ := h5 (by omega)
        rw [← a1]
        by_cases hle : fo_staleIn r i ≤ z.2.2
        · rw [if_pos hle, if_pos hle, if_pos hle]
          exact ⟨a1, a2⟩
        · rw [if_neg hle, if_neg hle, if_neg hle, fo_t0]
          exact ⟨rfl, fun _ => rfl⟩
theorem pq_stale (hC : C ≤ 2147483647) (h : pr_G C Mc Mm) : pq C (True, f_X2_stale Mc) (f_X3_stale Mm) := by
  have e7 : ax_up Mm 0 0 0 7 = Mm 7 := ax_up_ne (by decide)
  have hI := h.I
  have hW := hI.2.1
  have h270 := h.1.1.2.1.2
  have hS : fo_St (Mm 7) := hW.st (by omega)
  have s0 := h.a
  unfold f_X2_stale f_X3_stale
  simp only [ax_bd_e]
  rw [pq_staleC h.c hW 16 0 0 (-1) 0 rfl (Int.le_refl _) (Int.le_refl _)]
  obtain ⟨w, hw, e1, e2⟩ := pq_staleM (Nm := ax_up Mm 0 0 0) e7 hW.pg hS (km := fun z5 => (if (f_X3_staleMany 7 (ax_up Mm 0 0 0)) ≤ 0 then (True, ((f_X3_staleMany 7 (ax_up Mm 0 0 0)), (ax_up (ax_up Mm 0 0 0) 0 1 0))) else ax_rc (f_X3_enters z5 (ax_up (ax_up Mm 0 0 0) 0 1 0)) (fun M10 => ax_rc (f_X3_enters (f_X3_staleIn 7 z5 M10) M10) (fun M12 => (True, ((f_X3_staleMany 7 (ax_up Mm 0 0 0)), M12)))))) 16 0 0 rfl (by decide)
  have e1' : f_X3_stale_L9 (ax_up Mm 0 0 0) 16 0 0 _ = _ := e1
  rw [e1']
  obtain ⟨z1, z2, z3, z4, z5, z6⟩ := pq_staleF (r := Mm 7) 16 0 (0, -1, 0) 0 ⟨Int.le_refl _, Int.le_refl _, fun _ => rfl, fun _ => ⟨rfl, rfl⟩, fun h => absurd h (by decide)⟩ (by decide)
  have e2' : (w : Int) = fo_fold (fun i (z : Int) => if fo_staleIn (Mm 7) i ≤ fo_staleIn (Mm 7) z.toNat then z else (i : Int)) 16 0 0 := e2
  rw [← e2'] at z4 z5
  rw [fo_t0] at z4
  rw [fm_staleMany (by rw [e7]; exact hW.pg) (by rw [e7]; exact hS), e7, show fo_stale (Mm 7) = fo_fold (fo_sm (fo_staleIn (Mm 7))) 16 0 0 from rfl, ← z6]
  clear z6 e2 e2' e1 e1'
  generalize fo_fold (fun i z => (z.1 + fo_staleIn (Mm 7) i, if fo_staleIn (Mm 7) i ≤ z.2.2 then z.2.1 else (i : Int), if fo_staleIn (Mm 7) i ≤ z.2.2 then z.2.2 else fo_staleIn (Mm 7) i)) 16 0 ((0 : Int), (-1 : Int), (0 : Int)) = Z at z1 z2 z3 z4 z5 ⊢
  unfold pq ax_rc
  dsimp only
  generalize f_X2_tellAnew Mc = Z0 at s0 ⊢
  generalize ax_up (ax_up Mm 0 0 0) 0 1 0 = W0 at s0 ⊢
  generalize Mm 7 = r at *
  by_cases h0 : Z.1 ≤ 0
  · rw [if_pos h0, if_pos h0]
    exact ⟨trivial, trivial, rfl, s0.g⟩
  · rw [if_neg h0, if_neg h0, z5 (by omega), z4]
    obtain ⟨q1, s1⟩ := ps_tell (x := (w : Int)) s0 (by decide)
    generalize f_X2_tell ((w : Int)) Z0 = Z1 at s1 ⊢
    generalize f_X3_enters ((w : Int)) W0 = y1 at q1 s1 ⊢
    rw [fm_staleIn hw (by rw [s1.m]; exact hW.pg) (by rw [s1.m]; exact hS), s1.m]
    obtain ⟨q2, s2⟩ := ps_tell (x := fo_staleIn r w) s1 (by decide)
    generalize f_X2_tell (fo_staleIn r w) Z1 = Z2 at s2 ⊢
    generalize f_X3_enters (fo_staleIn r w) y1.2 = y2 at q2 s2 ⊢
    exact ⟨trivial, ⟨q1, q2, trivial⟩, rfl, s2.g⟩
theorem fc_isSo {c : Nat} {w v : Int} (hc : c < 16) (h : fo_cr 1 M = r) (hP : fo_Pg r) (hw : 0 ≤ w ∧ w ≤ 3) (hv : 0 ≤ v ∧ v ≤ 9) : f_X0_isSo 1 (c : Int) w v M = if fo_so r c w v = true then 1 else 0 := by
  unfold f_X0_isSo fo_so
  rw [if_neg (by omega), if_pos (by omega), fo_t0]
  by_cases h0 : w = 0
  · rw [if_pos h0, if_pos h0, show M (1 + 4) c = r (192 + c) from fr_kd (b := 1) h hc]
    by_cases hk : r (192 + c) = v
    · rw [if_neg (fun h => h hk), if_pos (decide_eq_true hk)]
    · rw [if_pos hk, if_neg (by rw [decide_eq_true_eq]; exact hk)]
  rw [if_neg h0, if_neg h0]
  by_cases h1 : w = 1
  · rw [if_pos h1, if_pos h1, show M (1 + 6) c = r (224 + c) from fr_wi (b := 1) h hc]
    by_cases hk : v ≤ r (224 + c)
    · rw [if_neg (by omega), if_pos (decide_eq_true hk)]
    · rw [if_pos (by omega), if_neg (by rw [decide_eq_true_eq]; exact hk)]
  rw [if_neg h1, if_neg h1]
  by_cases h2 : w = 2
  · rw [if_pos h2, if_pos h2, fc_popW hc h hP]
    generalize fo_sg (fo_id (fo_w r c)) 4 = g
    by_cases hk : v ≤ g
    · rw [if_neg (by omega), if_pos (decide_eq_true hk)]
    · rw [if_pos (by omega), if_neg (by rw [decide_eq_true_eq]; exact hk)]
  rw [if_neg h2, if_neg h2]
  obtain ⟨g, rfl⟩ : ∃ g : Nat, v = (g : Int) := ⟨v.toNat, by omega⟩
  have hg : g < 32 := by omega
  rw [fc_writtenIn hc (by rw [h]; exact hP), h, fo_test _ hg]
  have hfold : f_X0_foldersIn 1 (c : Int) (fo_fold (fo_ob (fun k => decide (0 < r (4 * c + k)))) 4 0 0) M = fo_fold (fo_oq (fo_w r c) (fun k => ((r (4 * c + k) - 1) / 4).toNat)) 4 0 0 := by
    generalize hw' : fo_fold (fo_ob (fun k => decide (0 < r (4 * c + k)))) 4 0 0 = m
    have hb : ∀ k : Nat, k < 4 → ax_and (ax_shr m (k : Int)) 1 = if fo_w r c k = true then 1 else 0 := fun k hk => by
      rw [fo_test m (by omega), ← hw', fo_ob_bit (by omega) hk]
      rfl
    refine fo_loop (L := fun n i v => f_X0_foldersIn_L5 1 (c : Int) m M n i v (fun z => z)) (out := fun z => z) (f := fo_oq (fo_w r c) (fun k => ((r (4 * c + k) - 1) / 4).toNat)) (N := 4) (fun _ _ => True) (fun _ _ => rfl) (fun n i v hi _ => ⟨?_, trivial⟩) 4 0 0 (by omega) trivial
    have hp := hP (4 * c + i) (by omega)
    have e : M (1 + 1) (4 * c + i) = r (4 * c + i) - 1 := fr_pg (b := 1) h (by omega)
    simp only [f_X0_foldersIn_L5, f_X0_foldersIn_B5, fo_oq, ax_bd]
    rw [if_neg (show ¬ ((c : Int) < 0) by omega), if_neg (show ¬ (16 ≤ (c : Int)) by omega), show ((c : Int) * 4 + (i : Int)).toNat = 4 * c + i by omega, hb i (by omega), e]
    by_cases hwr : fo_w r c i = true
    · have h0 : 0 < r (4 * c + i) := by
        unfold fo_w at hwr
        rw [decide_eq_true_eq] at hwr
        exact hwr
      rw [if_neg (by omega), if_pos hwr, if_neg (by decide), if_pos hwr, fm_div (by omega), show ((((r (4 * c + i) - 1) / 4).toNat : Nat) : Int) = (r (4 * c + i) - 1) / 4 by omega]
    · have h0 : ¬ 0 < r (4 * c + i) := fun h0 => hwr (decide_eq_true h0)
      rw [if_pos (by omega), if_neg hwr]
  rw [hfold]
  have hbit : fo_bit (fo_fold (fo_oq (fo_w r c) (fun k => ((r (4 * c + k) - 1) / 4).toNat)) 4 0 0) g = (List.range 4).any (fun k => fo_w r c k && decide ((r (4 * c + k) - 1) / 4 = (g : Int))) := by
    rw [Bool.eq_iff_iff, fo_oq_bit hg 4 0 0 (fun j _ hj _ => by have := hP (4 * c + j) (by omega); omega), List.any_eq_true]
    constructor
    · rintro (h | ⟨k, _, hk, k1, k2⟩)
      · rw [fo_bit_0] at h; cases h
      · refine ⟨k, List.mem_range.mpr (by omega), ?_⟩
        have hp := hP (4 * c + k) (by omega)
        rw [k1, Bool.true_and, decide_eq_true_eq]
        unfold fo_w at k1
        rw [decide_eq_true_eq] at k1
        omega
    · rintro ⟨k, hk, hb⟩
      rw [Bool.and_eq_true, decide_eq_true_eq] at hb
      exact Or.inr ⟨k, by omega, by have := List.mem_range.mp hk; omega, hb.1, by omega⟩
  rw [hbit]
  split
  · rw [if_neg (by decide)]
  · rw [if_pos rfl]
theorem fm_isSo {c : Nat} {w v : Int} (hc : c < 16) (h : M 7 = r) (hP : fo_Pg r) (hw : 0 ≤ w ∧ w ≤ 3) : f_X3_isSo (c : Int) w v M = if fo_so r c w v = true then 1 else 0 := by
  unfold f_X3_isSo fo_so
  by_cases h0 : w = 0
  · rw [if_pos h0, if_pos h0, fo_t192, h]
    by_cases hk : r (192 + c) = v
    · rw [if_neg (fun h => h hk), if_pos (decide_eq_true hk)]
    · rw [if_pos hk, if_neg (by rw [decide_eq_true_eq]; exact hk)]
  rw [if_neg h0, if_neg h0]
  by_cases h1 : w = 1
  · rw [if_pos h1, if_pos h1, fo_t224, h]
    by_cases hk : v ≤ r (224 + c)
    · rw [if_neg (by omega), if_pos (decide_eq_true hk)]
    · rw [if_pos (by omega), if_neg (by rw [decide_eq_true_eq]; exact hk)]
  rw [if_neg h1, if_neg h1]
  by_cases h2 : w = 2
  · rw [if_pos h2, if_pos h2, fm_writtenIn, h]
    generalize fo_sg (fo_id (fo_w r c)) 4 = g
    by_cases hk : v ≤ g
    · rw [if_neg (by omega), if_pos (decide_eq_true hk)]
    · rw [if_pos (by omega), if_neg (by rw [decide_eq_true_eq]; exact hk)]
  rw [if_neg h2, if_neg h2]
  have hl : ∀ (n i : Nat) (x : Int), i + n = 4 → (x = 0 ∨ x = 1) → f_X3_hasFolder_L5 (c : Int) v M n i x (fun z => z) = if x = 1 ∨ (List.range' i n).any (fun k => fo_w r c k && decide ((r (4 * c + k) - 1) / 4 = v)) = true then 1 else 0 := by
    intro n
    induction n with
    | zero =>
      intro i x _ hx
      show x = _
      rcases hx with e | e <;> subst e <;> simp
    | succ n ih =>
      intro i x hi hx
      have hp := hP (4 * c + i) (by omega)
      simp only [f_X3_hasFolder_L5, f_X3_hasFolder_B5]
      rw [List.range'_succ, List.any_cons, fm_isW, h]
      rcases hx with e | e
      · subst e
        rw [if_neg (fun h => h rfl)]
        by_cases hwr : fo_w r c i = true
        · have hpos : 0 < r (4 * c + i) := by
            unfold fo_w at hwr
            rw [decide_eq_true_eq] at hwr
            exact hwr
          rw [if_pos hwr, if_neg (show ¬ ((1 : Int) = 0) by decide), fm_pageAt (by rw [fo_t4, h]; exact hp), fo_t4, h, fm_div (by omega)]
          by_cases hf : (r (4 * c + i) - 1) / 4 = v
          · rw [if_neg (fun h => h hf), ih (i + 1) 1 (by omega) (Or.inr rfl)]
            simp [hwr, hf]
          · have hb : (fo_w r c i && decide ((r (4 * c + i) - 1) / 4 = v)) = false := by rw [decide_eq_false hf, Bool.and_false]
            rw [if_pos hf, hb, Bool.false_or]
            exact ih (i + 1) 0 (by omega) (Or.inl rfl)
        · have hb : (fo_w r c i && decide ((r (4 * c + i) - 1) / 4 = v)) = false := by rw [Bool.not_eq_true _ |>.mp hwr, Bool.false_and]
          rw [if_neg hwr, if_pos rfl, hb, Bool.false_or]
          exact ih (i + 1) 0 (by omega) (Or.inl rfl)
      · subst e
        rw [if_pos (show (1 : Int) ≠ 0 by decide), ih (i + 1) 1 (by omega) (Or.inr rfl)]
        simp
  have := hl 4 0 0 rfl (Or.inl rfl)
  unfold f_X3_hasFolder
  rw [this, show List.range' 0 4 = List.range 4 from rfl]
  simp
end PRB
