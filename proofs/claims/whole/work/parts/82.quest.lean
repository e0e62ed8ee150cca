/-! ===== questions, class and model side by side ===== -/
section FRB
variable {b : Nat} {M : ax_M} {r : fo_R}
theorem fr_pg {l : Nat} (h : fo_cr b M = r) (hl : l < 64) : M (b + 1) l = r l - 1 := by rw [← h, fo_cr, fo_dPg hl]; omega
theorem fr_vl {l : Nat} (h : fo_cr b M = r) (hl : l < 64) (h0 : r l ≠ 0) : M (b + 2) l = r (64 + l) := by
  have e := fr_pg h hl
  rw [← h, fo_cr, fo_dVl hl, if_neg (by omega)]
theorem fr_st {l : Nat} (h : fo_cr b M = r) (hl : l < 64) (h0 : r l ≠ 0) : M (b + 3) l = r (128 + l) := by
  have e := fr_pg h hl
  rw [← h, fo_cr, fo_dSt hl, if_neg (by omega)]
theorem fr_kd {c : Nat} (h : fo_cr b M = r) (hc : c < 16) : M (b + 4) c = r (192 + c) := by rw [← h, fo_cr, fo_dKd hc]
theorem fr_ow {c : Nat} (h : fo_cr b M = r) (hc : c < 16) : M (b + 5) c = r (208 + c) := by rw [← h, fo_cr, fo_dOw hc]
theorem fr_wi {c : Nat} (h : fo_cr b M = r) (hc : c < 16) : M (b + 6) c = r (224 + c) := by rw [← h, fo_cr, fo_dWi hc]
theorem fr_ht {p : Nat} (h : fo_cr b M = r) (hp : p < 24) : M (b + 7) p = r (240 + p) := by rw [← h, fo_cr, fo_dHt hp]
theorem fr_li {k : Nat} (h : fo_cr b M = r) (hk : k < 3) : M (b + 8) k = r (271 + k) := by rw [← h, fo_cr, fo_dLi hk]
theorem fr_ct {k : Nat} (h : fo_cr b M = r) (h0 : 1 ≤ k) (hk : k < 7) : M (b + 9) k = r (263 + k) := by rw [← h, fo_cr, fo_dCt h0 hk]
theorem fr_ck (h : fo_cr b M = r) : M (b + 9) 0 = r 270 := by rw [← h, fo_cr, fo_dCk]
end FRB
theorem fm_inE {x y z : Int} {M : ax_M} : f_X3_in x y z M = if y ≤ x ∧ x ≤ z then 1 else 0 := by
  by_cases h : y ≤ x ∧ x ≤ z
  · rw [if_pos h]
    exact fm_in h
  · rw [if_neg h]
    unfold f_X3_in ax_lcmp
    by_cases h1 : x < y
    · rw [if_pos h1, if_pos (by decide)]
    · have h2 : ¬ (x < z) := by omega
      have h3 : ¬ (x = z) := by omega
      have e : 0 < (if x < z then (-1 : Int) else if x = z then 0 else 1) := by rw [if_neg h2, if_neg h3]; decide
      rw [if_pos e]
      exact ite_self _
theorem fx_page (x : Int) : (∃ p : Nat, p < 24 ∧ x = (p : Int) ∧ (∀ M, f_X2_isPage x M = 1) ∧ ∀ M, f_X3_isPage x M = 1) ∨ ((∀ M, f_X2_isPage x M = 0) ∧ ∀ M, f_X3_isPage x M = 0) := by
  by_cases h : 0 ≤ x ∧ x ≤ 23
  · refine Or.inl ⟨x.toNat, by omega, by omega, fun M => ?_, fun M => ?_⟩
    · unfold f_X2_isPage
      rw [if_neg (by omega), if_neg (by omega)]
    · unfold f_X3_isPage
      rw [fm_inE, if_pos h]
  · refine Or.inr ⟨fun M => ?_, fun M => ?_⟩
    · unfold f_X2_isPage
      by_cases h1 : x < 0
      · rw [if_pos h1]
      · rw [if_neg h1, if_pos (by omega)]
    · unfold f_X3_isPage
      rw [fm_inE, if_neg h]
theorem fx_kind (x : Int) : (∃ k : Nat, k < 2 ∧ x = (k : Int) ∧ (∀ M, f_X2_kindOfRow x M = 3 + (k : Int)) ∧ ∀ M, f_X3_in x 0 1 M = 1) ∨ ((∀ M, f_X2_kindOfRow x M = -1) ∧ ∀ M, f_X3_in x 0 1 M = 0) := by
  by_cases h : 0 ≤ x ∧ x ≤ 1
  · refine Or.inl ⟨x.toNat, by omega, by omega, fun M => ?_, fun M => ?_⟩
    · unfold f_X2_kindOfRow
      by_cases h0 : x = 0
      · rw [if_neg (fun h => h h0)]; omega
      · rw [if_pos h0, if_neg (fun h' => h' (by omega))]; omega
    · rw [fm_inE, if_pos h]
  · refine Or.inr ⟨fun M => ?_, fun M => ?_⟩
    · unfold f_X2_kindOfRow
      rw [if_pos (by omega), if_pos (by omega)]
    · rw [fm_inE, if_neg h]
theorem fm_spreadOf {a : Nat} {M : ax_M} (hW : fo_Wi (M a)) : f_X3_spreadOf a M = fo_wear (M a) := by
  unfold f_X3_spreadOf
  have hm : 0 ≤ fo_most (M a) ∧ fo_most (M a) < 16 := fo_msIn
  have hf : 0 ≤ fo_few (M a) ∧ fo_few (M a) < 16 := fo_msIn
  have wm := hW (fo_most (M a)).toNat (by omega)
  have wf := hW (fo_few (M a)).toNat (by omega)
  rw [fm_mostWipes, fm_fewestWipes]
  have e1 : (224 + fo_most (M a)).toNat = 224 + (fo_most (M a)).toNat := by omega
  have e2 : (224 + fo_few (M a)).toNat = 224 + (fo_few (M a)).toNat := by omega
  rw [e1, e2, ax_wr_id (by omega) (by omega)]
  rfl
section PFW
variable {a b : Nat} {Mc Mm : ax_M}
theorem pf_wipes (h : fo_cr b Mc = Mm a) : f_X0_wipesOfAll b Mc = f_X3_allWipes a Mm := by
  have l : ∀ (n i : Nat) (v : Int), i + n = 16 → f_X0_wipesOfAll_L4 b Mc n i v (fun z => z) = f_X3_allWipes_L4 a Mm n i v (fun z => z) := by
    intro n
    induction n with
    | zero => intro i v _; rfl
    | succ n ih =>
      intro i v hi
      simp only [f_X0_wipesOfAll_L4, f_X0_wipesOfAll_B4, f_X3_allWipes_L4, f_X3_allWipes_B4]
      rw [fo_t224, fr_wi h (by omega)]
      exact ih _ _ (by omega)
  exact l 16 0 0 rfl
theorem pf_sum (h : fo_cr b Mc = Mm a) (hP : fo_Pg (Mm a)) : f_X0_sumOfLeaves b Mc = f_X3_sumOf a Mm := by
  have l : ∀ (n i : Nat) (v : Int), i + n = 64 → f_X0_sumOfLeaves_L5 b Mc n i v (fun z => z) = f_X3_sumOf_L5 a Mm n i v (fun z => z) := by
    intro n
    induction n with
    | zero => intro i v _; rfl
    | succ n ih =>
      intro i v hi
      have hp := hP i (by omega)
      have e := fr_pg (l := i) h (by omega)
      simp only [f_X0_sumOfLeaves_L5, f_X0_sumOfLeaves_B5, f_X3_sumOf_L5, f_X3_sumOf_B5, ax_bd]
      unfold f_X3_isWritten
      rw [fo_t0, e]
      by_cases hn : Mm a i ≤ 0
      · rw [if_neg (show ¬ (Mm a i - 1 ≠ -1) by omega), if_pos hn, if_pos rfl]
        exact ih _ _ (by omega)
      · rw [if_pos (show Mm a i - 1 ≠ -1 by omega), if_neg hn, if_neg (show ¬ ((1 : Int) = 0) by decide), fm_pageAt (by rw [fo_t0]; omega), fo_t0, fo_t64, fr_vl h (by omega) (by omega)]
        exact ih _ _ (by omega)
  exact l 64 0 7 rfl
end PFW
def pq (D : Int) (A B : Prop × Int × ax_M) : Prop := A.1 ∧ B.1 ∧ A.2.1 = B.2.1 ∧ pr_G D A.2.2 B.2.2
section PQA
variable {C : Int} {Mc Mm : ax_M}
theorem pr_G.a (h : pr_G C Mc Mm) : pr_S C 0 (Mm 7) (f_X2_tellAnew Mc) (ax_up (ax_up Mm 0 0 0) 0 1 0) := by
  have s := ps_anew (h.th (x := 0)).1
  rw [ax_up_ne (by decide)] at s
  exact s
theorem pq_spread (h : pr_G C Mc Mm) : pq C (True, f_X2_spread Mc) (f_X3_spread Mm) := by
  have hI := h.I
  have s0 := h.a
  unfold f_X2_spread f_X3_spread pq
  simp only [ax_bd]
  unfold ax_rc
  dsimp only
  generalize f_X2_tellAnew Mc = Nc0 at s0 ⊢
  generalize ax_up (ax_up Mm 0 0 0) 0 1 0 = Nm0 at s0 ⊢
  generalize Mm 7 = r at hI s0
  rw [fc_mostWorn, s0.c, fm_mostWipes, s0.m]
  obtain ⟨q1, s1⟩ := ps_tell (x := fo_most r) s0 (by decide)
  generalize f_X2_tell (fo_most r) Nc0 = Nc1 at s1 ⊢
  generalize f_X3_enters (fo_most r) Nm0 = y1 at q1 s1 ⊢
  rw [fc_leastWorn, s1.c, fm_fewestWipes, s1.m]
  obtain ⟨q2, s2⟩ := ps_tell (x := fo_few r) s1 (by decide)
  generalize f_X2_tell (fo_few r) Nc1 = Nc2 at s2 ⊢
  generalize f_X3_enters (fo_few r) y1.2 = y2 at q2 s2 ⊢
  rw [pf_wipes (s2.c.trans s2.m.symm)]
  obtain ⟨q3, s3⟩ := ps_tell (x := f_X3_allWipes 7 y2.2) s2 (by decide)
  generalize f_X2_tell (f_X3_allWipes 7 y2.2) Nc2 = Nc3 at s3 ⊢
  generalize f_X3_enters (f_X3_allWipes 7 y2.2) y2.2 = y3 at q3 s3 ⊢
  rw [fc_wear (by rw [s3.c]; exact hI.2.1.wi), s3.c, fm_spreadOf (by rw [s3.m]; exact hI.2.1.wi), s3.m]
  exact ⟨trivial, ⟨q1, q2, q3, trivial⟩, rfl, s3.g⟩
theorem pq_sum (h : pr_G C Mc Mm) : pq C (True, f_X2_sum Mc) (f_X3_sum Mm) := by
  have hI := h.I
  have s0 := h.a
  unfold f_X2_sum f_X3_sum pq
  simp only [ax_bd]
  unfold ax_rc
  dsimp only
  generalize f_X2_tellAnew Mc = Nc0 at s0 ⊢
  generalize ax_up (ax_up Mm 0 0 0) 0 1 0 = Nm0 at s0 ⊢
  generalize Mm 7 = r at hI s0
  rw [pf_sum (s0.c.trans s0.m.symm) (by rw [s0.m]; exact hI.2.1.pg)]
  obtain ⟨q1, s1⟩ := ps_tell (x := f_X3_sumOf 7 Nm0) s0 (by decide)
  generalize f_X2_tell (f_X3_sumOf 7 Nm0) Nc0 = Nc1 at s1 ⊢
  generalize f_X3_enters (f_X3_sumOf 7 Nm0) Nm0 = y1 at q1 s1 ⊢
  exact ⟨trivial, ⟨q1, trivial⟩, rfl, s1.g⟩
theorem pq_heat {x : Int} (h : pr_G C Mc Mm) : pq C (True, f_X2_heat x Mc, Mc) (True, f_X3_heat x Mm) := by
  unfold f_X2_heat f_X3_heat pq
  simp only [ax_bd]
  rcases fx_page x with ⟨p, hp, e, h1, h2⟩ | ⟨h1, h2⟩
  · rw [h1, h2, if_neg (by decide), if_neg (by decide), e, fo_t240, fo_t0, ax_up_ne (by decide)]
    exact ⟨trivial, trivial, fr_ht (b := 1) h.c hp, h.th⟩
  · rw [h1, h2, if_pos rfl, if_pos rfl]
    exact ⟨trivial, trivial, rfl, h.th⟩
theorem pq_next (h : pr_G C Mc Mm) : pq C (True, f_X2_next Mc) (f_X3_next Mm) := by
  have hI := h.I
  have s0 := h.a
  have hfr := hI.2.2.free hI.2.1
  unfold f_X2_next f_X3_next pq
  simp only [ax_bd]
  rw [fc_leastWornFree, h.c, fm_nextFree, show ax_up Mm 0 0 0 7 = Mm 7 from ax_up_ne (by decide)]
  unfold ax_rc
  generalize f_X2_tellAnew Mc = Nc0 at s0 ⊢
  generalize ax_up (ax_up Mm 0 0 0) 0 1 0 = Nm0 at s0 ⊢
  generalize Mm 7 = r at hI s0 hfr ⊢
  rcases fo_free_spec r with ⟨e, _⟩ | ⟨b, e, hb, _⟩
  · omega
  rw [e, if_pos (show (b : Int) ≠ -1 by omega), fo_t0, fo_t224]
  dsimp only
  rw [show Nc0 7 b = r (224 + b) from fr_wi (b := 1) s0.c hb, s0.m]
  obtain ⟨q1, s1⟩ := ps_tell (x := r (224 + b)) s0 (by decide)
  generalize f_X2_tell (r (224 + b)) Nc0 = Nc1 at s1 ⊢
  generalize f_X3_enters (r (224 + b)) Nm0 = y1 at q1 s1 ⊢
  rw [fc_howMany, s1.c, fm_kindMany, s1.m]
  obtain ⟨q2, s2⟩ := ps_tell (x := fo_many r 0) s1 (by decide)
  generalize f_X2_tell (fo_many r 0) Nc1 = Nc2 at s2 ⊢
  generalize f_X3_enters (fo_many r 0) y1.2 = y2 at q2 s2 ⊢
  exact ⟨trivial, ⟨q1, q2, trivial⟩, rfl, s2.g⟩
theorem pq_logsL {r : fo_R} {k x w y : Int} (hk : k = 3 + x) : ∀ (n i : Nat) (Nc Nm : ax_M), i + n ≤ 12 → pr_S C i r Nc Nm →
    pq C (True, f_X2_logs_L28 k w n (i : Int) Nc (fun M9 => (y, M9))) (f_X3_logs_L35 x w n (i : Int) Nm (fun M9 => (True, (y, M9)))) := by
  intro n
  induction n with
  | zero => intro i Nc Nm _ s; exact ⟨trivial, trivial, rfl, s.g⟩
  | succ n ih =>
    intro i Nc Nm hi s
    simp only [f_X2_logs_L28, f_X2_logs_B28, f_X3_logs_L35, f_X3_logs_B35, ax_bd]
    rw [fc_owned, fm_blockOf, s.c, s.m, ← hk, show (i : Int) + 1 = ((i + 1 : Nat) : Int) by omega]
    obtain ⟨q1, s1⟩ := ps_tell (x := fo_blk r k (i : Int)) s (by omega)
    unfold ax_rc
    obtain ⟨a1, a2, a3, a4⟩ := ih (i + 1) _ _ (by omega) s1
    exact ⟨trivial, ⟨q1, a2⟩, a3, a4⟩
theorem pq_logs {x : Int} (h : pr_G C Mc Mm) : pq C (True, f_X2_logs x Mc) (f_X3_logs x Mm) := by
  have hI := h.I
  have s0 := h.a
  have lm := hI.2.2.lm
  unfold f_X2_logs f_X3_logs
  simp only [ax_bd]
  rcases fx_kind x with ⟨k, hk, e, h1, h2⟩ | ⟨h1, h2⟩
  · rw [h1, h2, if_pos (show (3 : Int) + (k : Int) ≠ -1 by omega), if_pos (by decide), fc_howMany, fm_kindMany, h.c, ax_up_ne (show (7 : Nat) ≠ 0 by decide), e]
    have hm : (fo_many (Mm 7) (3 + (k : Int)) - 0).toNat ≤ 12 := by
      have l1 := lm.1
      have l2 := lm.2.1
      have l3 := lm.2.2.2.1
      have l4 := lm.2.2.2.2.2.1
      rcases (by omega : k = 0 ∨ k = 1) with e | e <;> subst e
      · show (fo_many (Mm 7) 3 - 0).toNat ≤ 12
        generalize fo_many (Mm 7) 3 = z at *
        omega
      · show (fo_many (Mm 7) 4 - 0).toNat ≤ 12
        generalize fo_many (Mm 7) 4 = z at *
        omega
    exact pq_logsL rfl _ 0 _ _ (by omega) s0
  · rw [h1, h2, if_neg (fun h => h rfl), if_neg (fun h => h rfl)]
    exact ⟨trivial, trivial, rfl, h.th⟩
theorem pq_reads {x : Int} (hC : C ≤ 2147483647) (h : pr_G C Mc Mm) : pq C (True, f_X2_reads x Mc) (f_X3_reads x Mm) := by
  have hI := h.I
  have h270 := h.1.1.2.1.2
  have s0 := h.a
  unfold f_X2_reads f_X3_reads
  simp only [ax_bd]
  rcases fx_page x with ⟨p, hp, e, h1, h2⟩ | ⟨h1, h2⟩
  · subst e
    have hW := hI.2.1
    have e1 : f_X0_latestOf 1 (p : Int) Mc = fo_lat (Mm 7) p := by
      rw [fc_latestOf (by omega) (by rw [h.c]; exact hW.pg) (by rw [h.c]; exact hW.kd) (by rw [h.c]; exact hW.em) (by rw [h.c]; exact hW.on), h.c]
    have e2 : f_X3_latest 7 (p : Int) (ax_up Mm 0 0 0) = fo_lat (Mm 7) p := by
      rw [fm_latest (by omega) (by rw [ax_up_ne (by decide)]; exact hW.pg) (by rw [ax_up_ne (by decide)]; exact hW.st (by omega)), ax_up_ne (by decide)]
    rw [h1, h2, if_pos (show (1 : Int) ≠ 0 by decide), if_pos (show (1 : Int) ≠ 0 by decide), e1, e2]
    have hG := h.th (x := 0)
    unfold pq
    generalize f_X2_tellAnew Mc = Nc0 at s0 ⊢
    generalize ax_up (ax_up Mm 0 0 0) 0 1 0 = Nm0 at s0 ⊢
    generalize Mm 7 = r at hI s0 hW
    rcases fo_lat_spec r p with ⟨e, _⟩ | ⟨l, e, hl, hrl, _⟩
    · rw [e, if_neg (fun h => h rfl), if_neg (by omega)]
      exact ⟨trivial, trivial, rfl, hG⟩
    have hne : r l ≠ 0 := by omega
    rw [e, if_pos (show (l : Int) ≠ -1 by omega), if_pos (show (0 : Int) ≤ (l : Int) by omega), fo_t0, fo_t128, fo_t64]
    unfold ax_rc
    dsimp only
    obtain ⟨q1, s1⟩ := ps_tell (x := ((l : Int) / 4)) s0 (by decide)
    generalize f_X2_tell (((l : Int) / 4)) Nc0 = Nc1 at s1 ⊢
    generalize f_X3_enters (((l : Int) / 4)) Nm0 = y1 at q1 s1 ⊢
    obtain ⟨q2, s2⟩ := ps_tell (x := ((l : Int) % 4)) s1 (by decide)
    generalize f_X2_tell (((l : Int) % 4)) Nc1 = Nc2 at s2 ⊢
    generalize f_X3_enters (((l : Int) % 4)) y1.2 = y2 at q2 s2 ⊢
    rw [show Nc2 4 l = r (128 + l) from fr_st (b := 1) s2.c hl hne, s2.m]
    obtain ⟨q3, s3⟩ := ps_tell (x := r (128 + l)) s2 (by decide)
    generalize f_X2_tell (r (128 + l)) Nc2 = Nc3 at s3 ⊢
    generalize f_X3_enters (r (128 + l)) y2.2 = y3 at q3 s3 ⊢
    rw [show Nc3 3 l = r (64 + l) from fr_vl (b := 1) s3.c hl hne, s3.m]
    exact ⟨trivial, ⟨q1, q2, q3, trivial⟩, rfl, s3.g⟩
  · rw [h1, h2, if_neg (fun h => h rfl), if_neg (fun h => h rfl)]
    exact ⟨trivial, trivial, rfl, h.th⟩
end PQA
