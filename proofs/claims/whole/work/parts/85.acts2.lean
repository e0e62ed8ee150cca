/-! ===== merges, seals, clears, levels, cools, sets, writes, side by side ===== -/
section FOK
variable {r : fo_R}
theorem fo_actM_270 {f : Nat} (hf : f < 6) (hI : fo_I r) : (fo_actM f r).2.1 270 = r 270 := by
  obtain ⟨h0, hW, hs⟩ := hI
  unfold fo_actM
  split
  · exact fo_hi_merge (σ := (r, [])) hf h0 (hs.free hW) hW (by omega)
  · rfl
theorem fo_actS_270 (hI : fo_I r) : (fo_actS r).2.1 270 = r 270 := by
  obtain ⟨h0, hW, hs⟩ := hI
  unfold fo_actS
  rcases fo_run_spec r with ⟨e, _⟩ | ⟨c, e, hc, hk⟩
  · rw [if_neg (by omega)]
  · rw [if_pos (by omega)]
    have es : fo_seal (r, []) = fo_sealA c (r (208 + c)).toNat (r, []) := by
      unfold fo_seal
      dsimp only
      rw [e, fo_t0]
    rw [es]
    obtain ⟨k1, k2, k3⟩ := fo_seal_keep (σ := (r, [])) h0 hc hk hW hs
    exact k2 270 (by omega)
theorem fo_actC_270 {k : Int} (hk : k = 3 ∨ k = 4) (hI : fo_I r) : (fo_actC k r).2.1 270 = r 270 := by
  obtain ⟨h0, hW, hs⟩ := hI
  unfold fo_actC
  rcases fo_blk_spec r k 0 with ⟨e, _⟩ | ⟨c, e, hc, h1, h2⟩
  · rw [if_neg (by omega)]
  · rw [if_pos (by omega)]
    obtain ⟨_, k2, _⟩ := fo_clear_keep (σ := (r, [])) h0 hW hs (by omega) e hc h1 h2
    exact k2 270 (by omega)
theorem fo_actL_270 (hI : fo_I r) : (fo_actL r).2.1 270 = r 270 := fo_level_hi (σ := (r, [])) hI.2.1 (by omega)
theorem fo_cool_270 (hI : fo_I r) : (fo_cool r).2 270 = r 270 := (fo_cool_o 24 0 0 r (by omega) hI.2.1.ht).1 270 (by omega)
theorem fo_cool_271 (hI : fo_I r) : ∀ j, 264 ≤ j → (fo_cool r).2 j = r j := fun j hj => (fo_cool_o 24 0 0 r (by omega) hI.2.1.ht).1 j (by omega)
end FOK
theorem ax_div4 {x : Int} (h : 0 ≤ x ∧ x ≤ 1000) : ax_div x 4 = x / 4 := by
  unfold ax_div
  rw [Int.tdiv_eq_ediv_of_nonneg h.1, ax_wr_id (by omega) (by omega)]
section PRE
variable {C D : Int} {Mc Mm Nc Nm X Y Z W M : ax_M} {r q q' : fo_R}
theorem pd_marks (h : pr_D C r q Nc Nm) : pr_D C r q Nc (f_X3_marks 7 Nm) ∧ f_X3_marks 7 Nm 0 26 = q 265 ∧ f_X3_marks 7 Nm 0 27 = q 266 ∧ (∀ f, f ≠ 26 → f ≠ 27 → f_X3_marks 7 Nm 0 f = Nm 0 f) := by
  have h7 := h.2.1
  have e : f_X3_marks 7 Nm = ax_up (ax_up Nm 0 26 (q 265)) 0 27 (q 266) := by
    unfold f_X3_marks
    simp only [ax_bd]
    rw [ax_up_ne (show (7 : Nat) ≠ 0 by decide), h7]
  rw [e]
  refine ⟨pd_gen h (Int.le_refl _) rfl rfl rfl (fun _ _ => rfl) (fun _ _ => ⟨rfl, rfl⟩) (h.1.1.1.2.2.1.e rfl (Int.le_refl _)) (fun f hf => by rw [fo_up_at, fo_u_o (by omega), fo_up_at, fo_u_o (by omega)]) (fun s hs => by rw [ax_up_ne (by omega), ax_up_ne (by omega)]) (by rw [← h7]; exact h.1.c) (by rw [ax_up_ne (by decide), ax_up_ne (by decide), h7]) (by rw [← h7]; exact h.1.I) (by rw [← h7]; exact h.1.1.1.2.1.2), ?_, ?_, fun f h1 h2 => ?_⟩
  · rw [fo_up_at, fo_u_o (by decide), fo_up_at, fo_u_s]
  · rw [fo_up_at, fo_u_s]
  · rw [fo_up_at, fo_u_o h2, fo_up_at, fo_u_o h1]
theorem pq_rc {α : Type} {A : Prop × Int × ax_M} {P : Prop × α} {F : α → Prop × Int × ax_M} (p1 : P.1) (h : pq C A (F P.2)) : pq C A (ax_rc P F) := ⟨h.1, ⟨p1, h.2.1⟩, h.2.2.1, h.2.2.2⟩
theorem pd_go {A : Int × ax_M} {B : Prop × Int × ax_M} (h1 : B.1) (he : A.1 = B.2.1) (hd : pr_D C r q' A.2 B.2.2) (h26 : B.2.2 0 26 = r 265) (h27 : B.2.2 0 27 = r 266) :
    pq C (True, f_X2_settleMore A.1 A.2) (ax_rc B (fun y4 => ax_rc (f_X3_told y4.1 y4.2) (fun y5 => (True, (y5.1, y5.2))))) := by
  obtain ⟨t1, t2, t3, t4⟩ := pd_told (x := A.1) hd h26 h27
  unfold ax_rc
  rw [he] at t1 t2 t3 t4 ⊢
  exact ⟨t1, ⟨h1, t2, trivial⟩, t3, t4⟩
theorem pq_merges {x : Int} (hC : C ≤ 900000) (h11 : ax_r32 (Mc 1 11)) (h20 : 0 ≤ Mm 0 20 ∧ Mm 0 20 ≤ 400) (h : pr_G C Mc Mm) : pq (C + 1) (True, f_X2_merges x Mc) (f_X3_merges x Mm) := by
  obtain ⟨p1, d, fr, p0⟩ := pd_begin h
  obtain ⟨dm, m26, m27, m0⟩ := pd_marks d
  have hI := h.I
  have hG := h.1.1.2.1.2
  show pq (C + 1) (True, f_X2_settleMore (f_X0_mergeFolder 1 x (f_X2_begin Mc)).1 (f_X0_mergeFolder 1 x (f_X2_begin Mc)).2) (ax_rc (f_X3_putsBy (ax_up Mm 0 0 0)) (fun M2 => ax_rc (f_X3_mergesOf x (f_X3_marks 7 M2)) (fun y4 => ax_rc (f_X3_told y4.1 y4.2) (fun y5 => (True, (y5.1, y5.2))))))
  refine pq_rc p1 ?_
  show pq (C + 1) _ (ax_rc (f_X3_mergesOf x (f_X3_marks 7 (f_X3_putsBy (ax_up Mm 0 0 0)).2)) (fun y4 => ax_rc (f_X3_told y4.1 y4.2) (fun y5 => (True, (y5.1, y5.2)))))
  generalize f_X2_begin Mc = N at d fr dm ⊢
  generalize f_X3_putsBy (ax_up Mm 0 0 0) = P at p1 d p0 dm m26 m27 m0 ⊢
  by_cases hx : 0 ≤ x ∧ x ≤ 5
  · obtain ⟨f, rfl⟩ : ∃ f : Nat, x = (f : Int) := ⟨x.toNat, by omega⟩
    have hf : f < 6 := by omega
    obtain ⟨c1, c2, c3⟩ := rl_actM (b := 1) (M := N) hf (dm.1.c.trans dm.2.1) hI dm.1.1.1.2.2.1.1 (dm.1.1.1.2.2.1.lim hC)
    obtain ⟨e1, e2, n0, e3⟩ := fm_actM (M := f_X3_marks 7 P.2) hf dm.2.1 hI (by omega) (by rw [m0 20 (by decide) (by decide), p0 20 (by decide)]; exact h20)
    obtain ⟨g1, g2⟩ := pd_act dm (show C ≤ C + 1 by omega) c3 c2 e3 (fun _ _ => rfl) (fun _ _ => rfl) (fo_actM_I hf hI) (by rw [fo_actM_270 hf hI]; omega) (dm.1.1.1.2.2.1.act (c3.2 12 (by decide) (by decide) (by decide)) (rl_actM11 hf (dm.1.c.trans dm.2.1) hI dm.1.1.1.2.2.1.1 (dm.1.1.1.2.2.1.lim hC)))
    exact pd_go e1 (c1.trans e2.symm) g1 (by rw [g2 26 (by decide) (by decide), m26]) (by rw [g2 27 (by decide) (by decide), m27])
  · have e1 : f_X0_mergeFolder 1 x N = (-1, N) := by
      unfold f_X0_mergeFolder
      by_cases h0 : x < 0
      · rw [if_pos h0]
      · rw [if_neg h0, if_neg (by omega)]
    have e2 : f_X3_mergesOf x (f_X3_marks 7 P.2) = (True, -1, f_X3_marks 7 P.2) := by
      unfold f_X3_mergesOf
      rw [fm_inE, if_neg hx, if_neg (fun h => h rfl)]
    rw [e1, e2]
    exact pd_go (A := (-1, N)) (B := (True, -1, f_X3_marks 7 P.2)) trivial rfl (dm.mono (by omega)) m26 m27
theorem pq_seals (hC : C ≤ 900000) (h11 : ax_r32 (Mc 1 11)) (h20 : 0 ≤ Mm 0 20 ∧ Mm 0 20 ≤ 400) (h : pr_G C Mc Mm) : pq (C + 1) (True, f_X2_seals Mc) (f_X3_seals Mm) := by
  obtain ⟨p1, d, fr, p0⟩ := pd_begin h
  obtain ⟨dm, m26, m27, m0⟩ := pd_marks d
  have hI := h.I
  have hG := h.1.1.2.1.2
  show pq (C + 1) (True, f_X2_settleMore (f_X0_sealRun 1 (f_X2_begin Mc)).1 (f_X0_sealRun 1 (f_X2_begin Mc)).2) (ax_rc (f_X3_putsBy (ax_up Mm 0 0 0)) (fun M2 => ax_rc (f_X3_sealsNow (f_X3_marks 7 M2)) (fun y4 => ax_rc (f_X3_told y4.1 y4.2) (fun y5 => (True, (y5.1, y5.2))))))
  refine pq_rc p1 ?_
  show pq (C + 1) _ (ax_rc (f_X3_sealsNow (f_X3_marks 7 (f_X3_putsBy (ax_up Mm 0 0 0)).2)) (fun y4 => ax_rc (f_X3_told y4.1 y4.2) (fun y5 => (True, (y5.1, y5.2)))))
  generalize f_X2_begin Mc = N at d fr dm ⊢
  generalize f_X3_putsBy (ax_up Mm 0 0 0) = P at p1 d p0 dm m26 m27 m0 ⊢
  obtain ⟨c1, c2, c3⟩ := rl_actS (b := 1) (M := N) (dm.1.c.trans dm.2.1) hI dm.1.1.1.2.2.1.1 (dm.1.1.1.2.2.1.lim hC)
  obtain ⟨e1, e2, n0, e3⟩ := fm_actS (M := f_X3_marks 7 P.2) dm.2.1 hI (by omega) (by rw [m0 20 (by decide) (by decide), p0 20 (by decide)]; exact h20)
  obtain ⟨g1, g2⟩ := pd_act dm (show C ≤ C + 1 by omega) c3 c2 e3 (fun _ _ => rfl) (fun _ _ => rfl) (fo_actS_I hI) (by rw [fo_actS_270 hI]; omega) (dm.1.1.1.2.2.1.act (c3.2 12 (by decide) (by decide) (by decide)) (rl_actS11 (dm.1.c.trans dm.2.1) hI dm.1.1.1.2.2.1.1 (dm.1.1.1.2.2.1.lim hC)))
  exact pd_go e1 (c1.trans e2.symm) g1 (by rw [g2 26 (by decide) (by decide), m26]) (by rw [g2 27 (by decide) (by decide), m27])
theorem pq_clears {x : Int} (hC : C ≤ 900000) (h11 : ax_r32 (Mc 1 11)) (h20 : 0 ≤ Mm 0 20 ∧ Mm 0 20 ≤ 400) (h : pr_G C Mc Mm) : pq (C + 1) (True, f_X2_clears x Mc) (f_X3_clears x Mm) := by
  obtain ⟨p1, d, fr, p0⟩ := pd_begin h
  obtain ⟨dm, m26, m27, m0⟩ := pd_marks d
  have hI := h.I
  have hG := h.1.1.2.1.2
  show pq (C + 1) (True, f_X2_settleMore (f_X0_clearFirst 1 (f_X2_kindOfRow x (f_X2_begin Mc)) (f_X2_begin Mc)).1 (f_X0_clearFirst 1 (f_X2_kindOfRow x (f_X2_begin Mc)) (f_X2_begin Mc)).2) (ax_rc (f_X3_putsBy (ax_up Mm 0 0 0)) (fun M2 => ax_rc (f_X3_clearsOf x (f_X3_marks 7 M2)) (fun y4 => ax_rc (f_X3_told y4.1 y4.2) (fun y5 => (True, (y5.1, y5.2))))))
  refine pq_rc p1 ?_
  show pq (C + 1) _ (ax_rc (f_X3_clearsOf x (f_X3_marks 7 (f_X3_putsBy (ax_up Mm 0 0 0)).2)) (fun y4 => ax_rc (f_X3_told y4.1 y4.2) (fun y5 => (True, (y5.1, y5.2)))))
  generalize f_X2_begin Mc = N at d fr dm ⊢
  generalize f_X3_putsBy (ax_up Mm 0 0 0) = P at p1 d p0 dm m26 m27 m0 ⊢
  rcases fx_kind x with ⟨k, hk, e, k1, k2⟩ | ⟨k1, k2⟩
  · subst e
    rw [k1]
    have h34 : (3 : Int) + (k : Int) = 3 ∨ (3 : Int) + (k : Int) = 4 := by omega
    obtain ⟨c1, c2, c3⟩ := rl_actC (b := 1) (M := N) h34 (dm.1.c.trans dm.2.1) hI dm.1.1.1.2.2.1.1 (dm.1.1.1.2.2.1.lim hC)
    obtain ⟨e1, e2, n0, e3⟩ := fm_actC (M := f_X3_marks 7 P.2) hk dm.2.1 hI (by omega) (by rw [m0 20 (by decide) (by decide), p0 20 (by decide)]; exact h20)
    obtain ⟨g1, g2⟩ := pd_act dm (show C ≤ C + 1 by omega) c3 c2 e3 (fun _ _ => rfl) (fun _ _ => rfl) (fo_actC_I h34 hI) (by rw [fo_actC_270 h34 hI]; omega) (dm.1.1.1.2.2.1.act (c3.2 12 (by decide) (by decide) (by decide)) (rl_actC11 h34 (dm.1.c.trans dm.2.1) hI dm.1.1.1.2.2.1.1 (dm.1.1.1.2.2.1.lim hC)))
    exact pd_go e1 (c1.trans e2.symm) g1 (by rw [g2 26 (by decide) (by decide), m26]) (by rw [g2 27 (by decide) (by decide), m27])
  · rw [k1]
    have e1 : f_X0_clearFirst 1 (-1) N = (-1, N) := by
      unfold f_X0_clearFirst
      rw [if_neg (by decide), if_neg (by decide)]
    have e2 : f_X3_clearsOf x (f_X3_marks 7 P.2) = (True, -1, f_X3_marks 7 P.2) := by
      unfold f_X3_clearsOf
      rw [k2, if_neg (fun h => h rfl)]
    rw [e1, e2]
    exact pd_go (A := (-1, N)) (B := (True, -1, f_X3_marks 7 P.2)) trivial rfl (dm.mono (by omega)) m26 m27
theorem keepPast_0 {f : Nat} (h3 : f ≠ 3) (h4 : f ≠ 4) : f_X2_keepPast X 0 f = X 0 f := by
  unfold f_X2_keepPast
  simp only [ax_bd]
  split
  · rw [fo_up_at, fo_u_o h3]
  · rw [fo_up_at, fo_u_o h4]
theorem pq_levels (hC : C ≤ 900000) (h11 : ax_r32 (Mc 1 11)) (h20 : 0 ≤ Mm 0 20 ∧ Mm 0 20 ≤ 400) (h : pr_G C Mc Mm) : pq (C + 1) (True, f_X2_levels Mc) (f_X3_levels Mm) := by
  obtain ⟨p1, d, fr, p0⟩ := pd_begin h
  have hI := h.I
  have hG := h.1.1.2.1.2
  have hcl : ∀ A : Int × ax_M, 0 ≤ A.1 → (ax_bd (f_X2_settle A.1 A.2) (fun y3 => (if y3.1 = 0 then (A.1, y3.2) else ax_bd (f_X2_tell (y3.2 1 17) y3.2) (fun M5 => (A.1, M5))))) = (A.1, f_X2_tell (A.2 1 17) (f_X2_tellAnew (f_X2_keepPast A.2))) := fun A hA => by
    rw [settle_p hA]
    show (A.1, f_X2_tell (f_X2_tellAnew (f_X2_keepPast A.2) 1 17) (f_X2_tellAnew (f_X2_keepPast A.2))) = _
    have e : f_X2_tellAnew (f_X2_keepPast A.2) 1 = A.2 1 := by
      show ax_up (f_X2_keepPast A.2) 0 12 0 1 = A.2 1
      rw [ax_up_ne (by decide), keepPast_o (by decide)]
    rw [e]
  have hcn : ∀ A : Int × ax_M, ¬ 0 ≤ A.1 → (ax_bd (f_X2_settle A.1 A.2) (fun y3 => (if y3.1 = 0 then (A.1, y3.2) else ax_bd (f_X2_tell (y3.2 1 17) y3.2) (fun M5 => (A.1, M5))))) = (A.1, A.2) := fun A hA => by
    rw [settle_n hA]
    rfl
  show pq (C + 1) (True, ax_bd (f_X2_settle (f_X0_level 1 (f_X2_begin Mc)).1 (f_X0_level 1 (f_X2_begin Mc)).2) (fun y3 => (if y3.1 = 0 then ((f_X0_level 1 (f_X2_begin Mc)).1, y3.2) else ax_bd (f_X2_tell (y3.2 1 17) y3.2) (fun M5 => ((f_X0_level 1 (f_X2_begin Mc)).1, M5))))) (ax_rc (f_X3_putsBy (ax_up Mm 0 0 0)) (fun M2 => ax_rc (f_X3_levelsNow M2) (fun y3 => (if 0 ≤ y3.1 then ax_bd (ax_up y3.2 0 1 0) (fun M5 => ax_rc (f_X3_enters (M5 0 21) M5) (fun M7 => ax_rc (f_X3_adds y3.1 M7) (fun y8 => (True, (y8.1, y8.2))))) else (True, (y3.1, y3.2))))))
  refine pq_rc p1 ?_
  show pq (C + 1) _ (ax_rc (f_X3_levelsNow (f_X3_putsBy (ax_up Mm 0 0 0)).2) (fun y3 => (if 0 ≤ y3.1 then ax_bd (ax_up y3.2 0 1 0) (fun M5 => ax_rc (f_X3_enters (M5 0 21) M5) (fun M7 => ax_rc (f_X3_adds y3.1 M7) (fun y8 => (True, (y8.1, y8.2))))) else (True, (y3.1, y3.2)))))
  generalize f_X2_begin Mc = N at d fr ⊢
  generalize f_X3_putsBy (ax_up Mm 0 0 0) = P at p1 d p0 ⊢
  obtain ⟨c1, c2, c3, c4⟩ := rl_actL (b := 1) (M := N) (d.1.c.trans d.2.1) hI d.1.1.1.2.2.1.1 (d.1.1.1.2.2.1.lim hC)
  obtain ⟨e1, e2, n0, e3⟩ := fm_actL (M := P.2) d.2.1 hI (by rw [p0 20 (by decide)]; exact h20)
  obtain ⟨g1, g2⟩ := pd_act (M0 := if fo_lvlOk (Mm 7) = true then ax_up P.2 0 21 (fo_lvl (Mm 7) 1) else P.2) d (show C ≤ C + 1 by omega) c3 c2 e3 (fun s hs => by split; exact ax_up_ne hs; rfl) (fun f hf => by split; rw [fo_up_at, fo_u_o hf]; rfl) (fo_actL_I hI) (by rw [fo_actL_270 hI]; omega) (d.1.1.1.2.2.1.act (c3.2 12 (by decide) (by decide) (by decide)) (rl_actL11 (d.1.c.trans d.2.1) hI d.1.1.1.2.2.1.1 (d.1.1.1.2.2.1.lim hC)))
  generalize f_X0_level 1 N = A at c1 c2 c3 c4 g1 g2 ⊢
  generalize f_X3_levelsNow P.2 = B at e1 e2 e3 g1 g2 ⊢
  have eAB : A.1 = B.2.1 := c1.trans e2.symm
  refine pq_rc e1 ?_
  show pq (C + 1) _ (if 0 ≤ B.2.1 then ax_bd (ax_up B.2.2 0 1 0) (fun M5 => ax_rc (f_X3_enters (M5 0 21) M5) (fun M7 => ax_rc (f_X3_adds B.2.1 M7) (fun y8 => (True, (y8.1, y8.2))))) else (True, (B.2.1, B.2.2)))
  by_cases ok : fo_lvlOk (Mm 7) = true
  · have hA : 0 ≤ A.1 := by
      rw [c1]
      unfold fo_actL
      rw [if_pos ok]
      obtain ⟨g, f, _, q, _⟩ := fo_lvlOk_spec ok
      omega
    rw [hcl A hA, c4 ok, if_pos (show 0 ≤ B.2.1 by rw [← eAB]; exact hA)]
    have e21 : ax_up B.2.2 0 1 0 0 21 = fo_lvl (Mm 7) 1 := by rw [fo_up_at, fo_u_o (by decide), e3.2.2.2.2 21 (by decide), if_pos ok, fo_up_at, fo_u_s]
    show pq (C + 1) _ (ax_rc (f_X3_enters (ax_up B.2.2 0 1 0 0 21) (ax_up B.2.2 0 1 0)) (fun M7 => ax_rc (f_X3_adds B.2.1 M7) (fun y8 => (True, (y8.1, y8.2)))))
    rw [e21]
    have hT : pr_Tn 0 (f_X2_tellAnew (f_X2_keepPast A.2)) (ax_up B.2.2 0 1 0) := tn_anew
    have c0 : cQ (f_X2_keepPast A.2) (f_X2_tellAnew (f_X2_keepPast A.2)) := cq_anew
    obtain ⟨t1, t2⟩ := tn_tell (x := fo_lvl (Mm 7) 1) hT (by decide)
    obtain ⟨a1, a2, a3⟩ := pd_fin g1 (c0.tr cq_tell) ((mQ_0 (by decide)).tr mq_enters) (by rw [enters_o (by decide) (by decide), ax_up_ne (by decide)]) t2 B.2.1
    exact ⟨trivial, ⟨t1, a1, trivial⟩, eAB.trans a2.symm, a3⟩
  · have hA : ¬ 0 ≤ A.1 := by
      rw [c1]
      unfold fo_actL
      rw [if_neg ok]
      show ¬ (0 : Int) ≤ -2
      decide
    rw [hcn A hA, if_neg (show ¬ 0 ≤ B.2.1 by rw [← eAB]; exact hA)]
    exact ⟨trivial, trivial, eAB, g1.1⟩
theorem pq_cools (h : pr_G C Mc Mm) : pq C (True, f_X2_cools Mc) (f_X3_cools Mm) := by
  obtain ⟨p1, d, fr, p0⟩ := pd_begin h
  have hI := h.I
  have hG := h.1.1.2.1.2
  show pq C (True, (f_X0_coolAll 1 (f_X2_begin Mc)).1, f_X2_keepPast (f_X0_coolAll 1 (f_X2_begin Mc)).2) (ax_rc (f_X3_putsBy (ax_up Mm 0 0 0)) (fun M2 => ax_rc (f_X3_adds (f_X3_coolsAll M2).1 (f_X3_coolsAll M2).2) (fun y4 => (True, (y4.1, y4.2)))))
  refine pq_rc p1 ?_
  show pq C _ (ax_rc (f_X3_adds (f_X3_coolsAll (f_X3_putsBy (ax_up Mm 0 0 0)).2).1 (f_X3_coolsAll (f_X3_putsBy (ax_up Mm 0 0 0)).2).2) (fun y4 => (True, (y4.1, y4.2))))
  generalize f_X2_begin Mc = N at d fr ⊢
  generalize f_X3_putsBy (ax_up Mm 0 0 0) = P at p1 d p0 ⊢
  obtain ⟨c1, c2, c3⟩ := rl_cool (b := 1) (M := N)
  obtain ⟨e1, e2, e3⟩ := fm_cool (M := P.2)
  rw [d.1.c.trans d.2.1] at c1 c2
  rw [d.2.1] at e1 e2
  have g := pd_gen (X := (f_X0_coolAll 1 N).2) (Y := (f_X3_coolsAll P.2).2) (D := C) d (Int.le_refl _) (c3 0 (by decide)) (c3 11 (by decide)) (c3 13 (by decide)) (fun s hs => c3 s (by omega)) (fun f _ => ⟨by rw [c3 28 (by decide)], by rw [c3 31 (by decide)]⟩) (d.1.1.1.2.2.1.e (c3 1 (by decide)) (Int.le_refl _)) (fun f _ => by rw [e3 0 (by decide)]) (fun s hs => e3 s (by omega)) c2 e2 (fo_cool_I hI) (by rw [fo_cool_270 hI]; exact hG)
  generalize f_X0_coolAll 1 N = A at c1 c2 c3 g ⊢
  generalize f_X3_coolsAll P.2 = B at e1 e2 e3 g ⊢
  have hT := g.1.2
  obtain ⟨a1, a2, a3⟩ := pd_fin (n := (B.2 0 1).toNat) g cQ.rf mQ.rf rfl ⟨pr_T_cg (Mc := A.2) (Nc := f_X2_keepPast A.2) (Mm := B.2) (keepPast_0 (by decide) (by decide)) (keepPast_o (by decide)) rfl rfl hT, by have := hT.2.1; omega⟩ B.1
  exact ⟨trivial, ⟨a1, trivial⟩, (c1.trans e1.symm).trans a2.symm, a3⟩
end PRE
