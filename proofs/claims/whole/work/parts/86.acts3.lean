/-! ===== sets, writes; undo, keep, again, side by side ===== -/
section PRE
variable {C D : Int} {Mc Mm Nc Nm X Y Z W M : ax_M} {r q q' : fo_R}
/-- a row put by that doesn't count -/
theorem pm_putsBy (h : pr_G C Mc Mm) : (f_X3_putsBy (ax_up Mm 0 0 0)).1 ∧ pr_G C Mc (f_X3_putsBy (ax_up Mm 0 0 0)).2 := by
  have h' := h.th (x := 0)
  obtain ⟨u, hu, eu⟩ := h'.1.2.1.u
  obtain ⟨p1, p2, p3, p4⟩ := fm_putsBy (M := ax_up Mm 0 0 0) hu eu (pr_7hi h'.1.1)
  generalize ax_up Mm 0 0 0 = M0 at h' eu p1 p2 p3 p4 ⊢
  generalize (f_X3_putsBy M0) = P at p1 p2 p3 p4 ⊢
  have hm : mQ M0 P.2 := mQ_of (fun t ht => p2 t (by omega)) (fun f _ => by rw [p2 0 (by decide)]) (fun i hi => p4 i (by rw [eu] at hi; omega)) (fun j _ => by rw [p2 8 (by decide)])
  exact ⟨p1, pr_U_q cQ.rf hm h'.1, pr_T_cg rfl rfl (by rw [p2 0 (by decide)]) (p2 1 (by decide)) h'.2⟩
theorem pq_lc {α : Type} {P : Prop × α} {F : α → Prop × Int × ax_M} {B : Prop × Int × ax_M} (p1 : P.1) (h : pq C (F P.2) B) : pq C (ax_rc P F) B := ⟨⟨p1, h.1⟩, h.2.1, h.2.2.1, h.2.2.2⟩
/-- the bounds of a limit -/
theorem fx_set (x v : Int) : (∃ k : Nat, k < 3 ∧ x = (k : Int) ∧ ((k = 0 → 1 ≤ v ∧ v ≤ 3) ∧ (k = 1 → 0 ≤ v ∧ v ≤ 2) ∧ (k = 2 → 1 ≤ v ∧ v ≤ 9)) ∧
      (∀ M, f_X2_sets x v M = (if v ≠ M 9 k then (if k = 2 ∨ f_X0_howMany 1 (3 + (k : Int)) M ≤ v then (ax_wr (10 + M 9 k), f_X2_keepPast (ax_up (f_X2_begin M) 9 k v)) else (-3, M)) else (-2, M))) ∧
      ∀ M, f_X3_setsOne x v M = (if M 7 (271 + k) ≠ v then (if k = 2 ∨ f_X3_kindMany 7 (3 + (k : Int)) M ≤ v then (ax_wr (10 + M 7 (271 + k)), ax_up M 7 (271 + k) v) else (-3, M)) else (-2, M))) ∨
    ((∀ M, f_X2_sets x v M = (-1, M)) ∧ ∀ M, f_X3_setsOne x v M = (-1, M)) := by
  have f0 : ∀ M, f_X3_flag 0 M = 0 := fun _ => rfl
  have f1 : ∀ M, f_X3_flag 1 M = 1 := fun _ => rfl
  by_cases hx : 0 ≤ x ∧ x ≤ 2
  · have hk : x = 0 ∨ x = 1 ∨ x = 2 := by omega
    rcases hk with e | e | e
    · subst e
      have l0 : (ax_cs.getD 0 ("", [])).2.getD (0 : Int).toNat 0 = 1 := rfl
      have l1 : (ax_cs.getD 1 ("", [])).2.getD (0 : Int).toNat 0 = 3 := rfl
      by_cases hv : 1 ≤ v ∧ v ≤ 3
      · refine Or.inl ⟨0, by decide, rfl, ⟨fun _ => hv, fun h => absurd h (by decide), fun h => absurd h (by decide)⟩, fun M => ?_, fun M => ?_⟩
        · unfold f_X2_sets
          simp only [ax_bd]
          rw [l0, l1, if_neg (by decide), if_neg (by decide), if_neg (show ¬ (v < 1) by omega), if_pos (show v ≤ 3 by omega), if_neg (show ¬ ((0 : Int) = 2) by decide)]
          by_cases h1 : v ≠ M 9 0
          · rw [if_pos (show v ≠ M 9 (0 : Int).toNat from h1), if_pos h1]
            by_cases h2 : f_X0_howMany 1 (3 + 0) M ≤ v
            · rw [if_pos h2, if_pos (show (0 : Nat) = 2 ∨ f_X0_howMany 1 (3 + ((0 : Nat) : Int)) M ≤ v from Or.inr h2)]; rfl
            · rw [if_neg h2, if_neg (show ¬ ((0 : Nat) = 2 ∨ f_X0_howMany 1 (3 + ((0 : Nat) : Int)) M ≤ v) from fun h => h.elim (fun h => absurd h (by decide)) h2)]
          · rw [if_neg (show ¬ (v ≠ M 9 (0 : Int).toNat) from h1), if_neg h1]
        · unfold f_X3_setsOne f_X3_setsOne_J24 f_X3_setsOne_J52
          simp only [ax_bd]
          rw [fm_inE, if_pos (show (0 : Int) ≤ 0 ∧ (0 : Int) ≤ 2 by decide), if_neg (show ¬ ((1 : Int) = 0) by decide), if_neg (show ¬ ((0 : Int) = 1) by decide), if_neg (show ¬ ((0 : Int) ≠ 0) by decide), f1, fm_inE, if_pos hv, if_pos (show (1 : Int) ≠ 0 by decide), if_neg (show ¬ ((2 : Int) ≤ 0) by decide)]
          by_cases h1 : M 7 (271 + 0) ≠ v
          · rw [if_pos (show M 7 (271 + (0 : Int)).toNat ≠ v from h1), if_pos h1]
            by_cases h2 : f_X3_kindMany 7 (3 + 0) M ≤ v
            · rw [if_pos h2, if_pos (show (0 : Nat) = 2 ∨ f_X3_kindMany 7 (3 + ((0 : Nat) : Int)) M ≤ v from Or.inr h2)]; rfl
            · rw [if_neg h2, if_neg (show ¬ ((0 : Nat) = 2 ∨ f_X3_kindMany 7 (3 + ((0 : Nat) : Int)) M ≤ v) from fun h => h.elim (fun h => absurd h (by decide)) h2)]
          · rw [if_neg (show ¬ (M 7 (271 + (0 : Int)).toNat ≠ v) from h1), if_neg h1]
      · refine Or.inr ⟨fun M => ?_, fun M => ?_⟩
        · unfold f_X2_sets
          simp only [ax_bd]
          rw [l0, l1, if_neg (by decide), if_neg (by decide)]
          by_cases h1 : v < 1
          · rw [if_pos h1]
          · rw [if_neg h1, if_neg (show ¬ (v ≤ 3) by omega)]
        · unfold f_X3_setsOne f_X3_setsOne_J24 f_X3_setsOne_J52
          simp only [ax_bd]
          rw [fm_inE, if_pos (show (0 : Int) ≤ 0 ∧ (0 : Int) ≤ 2 by decide), if_neg (show ¬ ((1 : Int) = 0) by decide), if_neg (show ¬ ((0 : Int) = 1) by decide), if_neg (show ¬ ((0 : Int) ≠ 0) by decide), f1, fm_inE, if_neg hv, if_neg (fun h => h rfl)]
    · subst e
      have l0 : (ax_cs.getD 0 ("", [])).2.getD (1 : Int).toNat 0 = 0 := rfl
      have l1 : (ax_cs.getD 1 ("", [])).2.getD (1 : Int).toNat 0 = 2 := rfl
      by_cases hv : 0 ≤ v ∧ v ≤ 2
      · refine Or.inl ⟨1, by decide, rfl, ⟨fun h => absurd h (by decide), fun _ => hv, fun h => absurd h (by decide)⟩, fun M => ?_, fun M => ?_⟩
        · unfold f_X2_sets
          simp only [ax_bd]
          rw [l0, l1, if_neg (by decide), if_neg (by decide), if_neg (show ¬ (v < 0) by omega), if_pos (show v ≤ 2 by omega), if_neg (show ¬ ((1 : Int) = 2) by decide)]
          by_cases h1 : v ≠ M 9 1
          · rw [if_pos (show v ≠ M 9 (1 : Int).toNat from h1), if_pos h1]
            by_cases h2 : f_X0_howMany 1 (3 + 1) M ≤ v
            · rw [if_pos h2, if_pos (show (1 : Nat) = 2 ∨ f_X0_howMany 1 (3 + ((1 : Nat) : Int)) M ≤ v from Or.inr h2)]; rfl
            · rw [if_neg h2, if_neg (show ¬ ((1 : Nat) = 2 ∨ f_X0_howMany 1 (3 + ((1 : Nat) : Int)) M ≤ v) from fun h => h.elim (fun h => absurd h (by decide)) h2)]
          · rw [if_neg (show ¬ (v ≠ M 9 (1 : Int).toNat) from h1), if_neg h1]
        · unfold f_X3_setsOne f_X3_setsOne_J24 f_X3_setsOne_J52
          simp only [ax_bd]
          rw [fm_inE, if_pos (show (0 : Int) ≤ 1 ∧ (1 : Int) ≤ 2 by decide), if_neg (show ¬ ((1 : Int) = 0) by decide), if_pos trivial, if_pos (show (1 : Int) ≠ 0 by decide), if_neg (show ¬ ((1 : Int) ≠ 1) by decide), f0, fm_inE, if_pos hv, if_pos (show (1 : Int) ≠ 0 by decide), if_neg (show ¬ ((2 : Int) ≤ 1) by decide)]
          by_cases h1 : M 7 (271 + 1) ≠ v
          · rw [if_pos (show M 7 (271 + (1 : Int)).toNat ≠ v from h1), if_pos h1]
            by_cases h2 : f_X3_kindMany 7 (3 + 1) M ≤ v
            · rw [if_pos h2, if_pos (show (1 : Nat) = 2 ∨ f_X3_kindMany 7 (3 + ((1 : Nat) : Int)) M ≤ v from Or.inr h2)]; rfl
            · rw [if_neg h2, if_neg (show ¬ ((1 : Nat) = 2 ∨ f_X3_kindMany 7 (3 + ((1 : Nat) : Int)) M ≤ v) from fun h => h.elim (fun h => absurd h (by decide)) h2)]
          · rw [if_neg (show ¬ (M 7 (271 + (1 : Int)).toNat ≠ v) from h1), if_neg h1]
      · refine Or.inr ⟨fun M => ?_, fun M => ?_⟩
        · unfold f_X2_sets
          simp only [ax_bd]
          rw [l0, l1, if_neg (by decide), if_neg (by decide)]
          by_cases h1 : v < 0
          · rw [if_pos h1]
          · rw [if_neg h1, if_neg (show ¬ (v ≤ 2) by omega)]
        · unfold f_X3_setsOne f_X3_setsOne_J24 f_X3_setsOne_J52
          simp only [ax_bd]
          rw [fm_inE, if_pos (show (0 : Int) ≤ 1 ∧ (1 : Int) ≤ 2 by decide), if_neg (show ¬ ((1 : Int) = 0) by decide), if_pos trivial, if_pos (show (1 : Int) ≠ 0 by decide), if_neg (show ¬ ((1 : Int) ≠ 1) by decide), f0, fm_inE, if_neg hv, if_neg (fun h => h rfl)]
    · subst e
      have l0 : (ax_cs.getD 0 ("", [])).2.getD (2 : Int).toNat 0 = 1 := rfl
      have l1 : (ax_cs.getD 1 ("", [])).2.getD (2 : Int).toNat 0 = 9 := rfl
      by_cases hv : 1 ≤ v ∧ v ≤ 9
      · refine Or.inl ⟨2, by decide, rfl, ⟨fun h => absurd h (by decide), fun h => absurd h (by decide), fun _ => hv⟩, fun M => ?_, fun M => ?_⟩
        · unfold f_X2_sets
          simp only [ax_bd]
          rw [l0, l1, if_neg (by decide), if_neg (by decide), if_neg (show ¬ (v < 1) by omega), if_pos (show v ≤ 9 by omega), if_pos trivial, if_pos (show True ∨ f_X0_howMany 1 (3 + ((2 : Nat) : Int)) M ≤ v from Or.inl trivial)]
          rfl
        · unfold f_X3_setsOne f_X3_setsOne_J24 f_X3_setsOne_J52
          simp only [ax_bd]
          rw [fm_inE, if_pos (show (0 : Int) ≤ 2 ∧ (2 : Int) ≤ 2 by decide), if_neg (show ¬ ((1 : Int) = 0) by decide), if_neg (show ¬ ((2 : Int) = 1) by decide), if_pos (show (2 : Int) ≠ 0 by decide), if_pos (show (2 : Int) ≠ 1 by decide), f1, fm_inE, if_pos hv, if_pos (show (1 : Int) ≠ 0 by decide), if_pos (show (2 : Int) ≤ 2 by decide), if_pos (show True ∨ f_X3_kindMany 7 (3 + ((2 : Nat) : Int)) M ≤ v from Or.inl trivial)]
          rfl
      · refine Or.inr ⟨fun M => ?_, fun M => ?_⟩
        · unfold f_X2_sets
          simp only [ax_bd]
          rw [l0, l1, if_neg (by decide), if_neg (by decide)]
          by_cases h1 : v < 1
          · rw [if_pos h1]
          · rw [if_neg h1, if_neg (show ¬ (v ≤ 9) by omega)]
        · unfold f_X3_setsOne f_X3_setsOne_J24 f_X3_setsOne_J52
          simp only [ax_bd]
          rw [fm_inE, if_pos (show (0 : Int) ≤ 2 ∧ (2 : Int) ≤ 2 by decide), if_neg (show ¬ ((1 : Int) = 0) by decide), if_neg (show ¬ ((2 : Int) = 1) by decide), if_pos (show (2 : Int) ≠ 0 by decide), if_pos (show (2 : Int) ≠ 1 by decide), f1, fm_inE, if_neg hv, if_neg (fun h => h rfl)]
  · refine Or.inr ⟨fun M => ?_, fun M => ?_⟩
    · unfold f_X2_sets
      by_cases h0 : x < 0
      · rw [if_pos h0]
      · rw [if_neg h0, if_pos (by omega)]
    · unfold f_X3_setsOne
      rw [fm_inE, if_neg hx, if_pos rfl]
theorem pq_sets {x v : Int} (h : pr_G C Mc Mm) : pq C (True, f_X2_sets x v Mc) (f_X3_sets x v Mm) := by
  obtain ⟨p1, d, fr, p0⟩ := pd_begin h
  obtain ⟨_, hP⟩ := pm_putsBy h
  have hI := h.I
  have hG := h.1.1.2.1.2
  show pq C _ (ax_rc (f_X3_putsBy (ax_up Mm 0 0 0)) (fun M2 => ax_bd (f_X3_setsOne x v M2) (fun y3 => (if 0 ≤ y3.1 then ax_rc (f_X3_adds y3.1 y3.2) (fun y5 => (True, (y5.1, y5.2))) else (True, (y3.1, y3.2))))))
  refine pq_rc p1 ?_
  show pq C _ (ax_bd (f_X3_setsOne x v (f_X3_putsBy (ax_up Mm 0 0 0)).2) (fun y3 => (if 0 ≤ y3.1 then ax_rc (f_X3_adds y3.1 y3.2) (fun y5 => (True, (y5.1, y5.2))) else (True, (y3.1, y3.2)))))
  have hno : ∀ (a : Int) (P : ax_M), pr_G C Mc P → a < 0 → pq C (True, a, Mc) (ax_bd (a, P) (fun y3 : Int × ax_M => (if 0 ≤ y3.1 then ax_rc (f_X3_adds y3.1 y3.2) (fun y5 => (True, (y5.1, y5.2))) else (True, (y3.1, y3.2))))) := fun a P hG ha => by
    show pq C (True, a, Mc) (if 0 ≤ a then _ else (True, (a, P)))
    rw [if_neg (by omega)]
    exact ⟨trivial, trivial, rfl, hG⟩
  generalize f_X3_putsBy (ax_up Mm 0 0 0) = P at p1 d p0 hP ⊢
  rcases fx_set x v with ⟨k, hk, e, hv, h1, h2⟩ | ⟨h1, h2⟩
  · rw [h1, h2, show Mc 9 k = Mm 7 (271 + k) from fr_li (b := 1) h.c hk, d.2.1, fc_howMany, h.c, fm_kindMany, d.2.1]
    by_cases hne : Mm 7 (271 + k) ≠ v
    · rw [if_pos (fun h => hne h.symm), if_pos hne]
      by_cases h3 : k = 2 ∨ fo_many (Mm 7) (3 + (k : Int)) ≤ v
      · rw [if_pos h3, if_pos h3]
        have lm := hI.2.2.lm
        have hr : 0 ≤ Mm 7 (271 + k) ∧ Mm 7 (271 + k) ≤ 9 := by
          rcases (by omega : k = 0 ∨ k = 1 ∨ k = 2) with e | e | e <;> subst e
          · exact ⟨by have := lm.2.2.1; show 0 ≤ Mm 7 271; omega, by have := lm.2.2.2.1; show Mm 7 271 ≤ 9; omega⟩
          · exact ⟨by have := lm.2.2.2.2.1; show 0 ≤ Mm 7 272; omega, by have := lm.2.2.2.2.2.1; show Mm 7 272 ≤ 9; omega⟩
          · exact ⟨by have := lm.2.2.2.2.2.2.1; show 0 ≤ Mm 7 273; omega, by have := lm.2.2.2.2.2.2.2; show Mm 7 273 ≤ 9; omega⟩
        have e10 : 0 ≤ ax_wr (10 + Mm 7 (271 + k)) := by rw [ax_wr_id (by omega) (by omega)]; omega
        show pq C _ (if 0 ≤ ax_wr (10 + Mm 7 (271 + k)) then ax_rc (f_X3_adds (ax_wr (10 + Mm 7 (271 + k))) (ax_up P.2 7 (271 + k) v)) (fun y5 => (True, (y5.1, y5.2))) else _)
        rw [if_pos e10]
        have g := pd_gen (X := ax_up (f_X2_begin Mc) 9 k v) (Y := ax_up P.2 7 (271 + k) v) (D := C) d (Int.le_refl _) (ax_up_ne (by decide)) (ax_up_ne (by decide)) (ax_up_ne (by decide)) (fun s hs => ax_up_ne (by omega)) (fun f _ => ⟨by rw [ax_up_ne (by decide)], by rw [ax_up_ne (by decide)]⟩) (d.1.1.1.2.2.1.e (ax_up_ne (by decide)) (Int.le_refl _)) (fun f _ => by rw [ax_up_ne (by decide)]) (fun s hs => ax_up_ne (by omega)) ((fo_cr_L (b := 1) hk).trans (by rw [d.1.c.trans d.2.1])) (by rw [fo_up_at, d.2.1])
          (fo_lim_I hk hI (fun e => ⟨(hv.1 e).1, (hv.1 e).2, by subst e; exact h3.elim (fun h => absurd h (by decide)) id⟩) (fun e => ⟨(hv.2.1 e).1, (hv.2.1 e).2, by subst e; exact h3.elim (fun h => absurd h (by decide)) id⟩) hv.2.2) (by rw [fo_u_o (by omega)]; exact hG)
        have hT := g.1.2
        generalize ax_up (f_X2_begin Mc) 9 k v = A at g hT ⊢
        generalize ax_up P.2 7 (271 + k) v = B at g hT ⊢
        obtain ⟨a1, a2, a3⟩ := pd_fin (n := (B 0 1).toNat) g cQ.rf mQ.rf rfl ⟨pr_T_cg (Mc := A) (Nc := f_X2_keepPast A) (Mm := B) (keepPast_0 (by decide) (by decide)) (keepPast_o (by decide)) rfl rfl hT, by have := hT.2.1; omega⟩ (ax_wr (10 + Mm 7 (271 + k)))
        exact ⟨trivial, ⟨a1, trivial⟩, a2.symm, a3⟩
      · rw [if_neg h3, if_neg h3]
        exact hno (-3) _ hP (by decide)
    · rw [if_neg (fun h => hne (fun e => h e.symm)), if_neg hne]
      exact hno (-2) _ hP (by decide)
  · rw [h1, h2]
    exact hno (-1) _ hP (by decide)
/-- a write -/
theorem pq_writes {x v : Int} (hC : C < 2000000000) (h : pr_G C Mc Mm) : pq (C + 1) (f_X2_writes x v Mc) (f_X3_writes x v Mm) := by
  obtain ⟨p1, d, fr, p0⟩ := pd_begin h
  have hI := h.I
  have hG := h.1.1.2.1.2
  have hb := (pb_begin h).1
  by_cases hok : (0 ≤ x ∧ x ≤ 23) ∧ 0 ≤ v ∧ v ≤ 99
  · obtain ⟨p, rfl⟩ : ∃ p : Nat, x = (p : Int) := ⟨x.toNat, by omega⟩
    have hp : p < 24 := by omega
    obtain ⟨dm, m26, m27, m0⟩ := pd_marks d
    have e3 : f_X3_writes (p : Int) v Mm = ax_rc (f_X3_putsBy (ax_up Mm 0 0 0)) (fun M6 => ax_rc (f_X3_writesOne 7 (p : Int) v (f_X3_marks 7 M6)) (fun y8 => ax_rc (f_X3_enters (ax_rem y8.1 4) (ax_up y8.2 0 1 0)) (fun M10 => ax_rc (f_X3_entersMore 7 M10) (fun M11 => ax_rc (f_X3_adds (ax_div y8.1 4) M11) (fun y12 => (True, (y12.1, y12.2))))))) := by
      unfold f_X3_writes f_X3_isPage
      simp only [ax_bd]
      rw [fm_inE, if_pos hok.1, if_neg (show ¬ ((1 : Int) = 0) by decide), fm_inE, if_pos hok.2, if_pos (show (1 : Int) ≠ 0 by decide)]
    rw [e3]
    unfold f_X2_writes
    show pq (C + 1) (ax_rc (f_X0_write 1 (p : Int) v (f_X2_begin Mc 0 7) (f_X2_begin Mc)) (fun y2 => ax_bd (f_X2_settle y2.1 y2.2) (fun y3 => (if y3.1 = 0 then (True, (y2.1, y3.2)) else ax_bd (f_X2_tell (ax_rem (y3.2 1 14) 4) y3.2) (fun M5 => ax_bd (f_X2_tellMore M5) (fun M6 => (True, (y2.1, M6)))))))) _
    refine pq_rc p1 ?_
    show pq (C + 1) _ (ax_rc (f_X3_writesOne 7 (p : Int) v (f_X3_marks 7 (f_X3_putsBy (ax_up Mm 0 0 0)).2)) (fun y8 => ax_rc (f_X3_enters (ax_rem y8.1 4) (ax_up y8.2 0 1 0)) (fun M10 => ax_rc (f_X3_entersMore 7 M10) (fun M11 => ax_rc (f_X3_adds (ax_div y8.1 4) M11) (fun y12 => (True, (y12.1, y12.2)))))))
    generalize f_X3_putsBy (ax_up Mm 0 0 0) = P at p1 d p0 dm m26 m27 m0 ⊢
    generalize f_X3_marks 7 P.2 = Nm at dm m26 m27 m0 ⊢
    generalize f_X2_begin Mc = Nc at d fr dm ⊢
    obtain ⟨a, cs, ha, e7, hwc, hwm⟩ := pr_R.ev (dm.1.1.2.2.2.2.2 hC)
    obtain ⟨c1, c2, c3, c4, c5, c6, c7⟩ := rl_writeU (a := a) (b := 1) (ev := fo_ev cs) (v := v) (M := Nc) (by omega) hp (by omega) (dm.1.c.trans dm.2.1) hI (by omega) dm.1.1.1.2.2.1.1 (hwc 1 (by omega))
    obtain ⟨b1, b2, M0', b3, b4⟩ := fm_write (a := 7) (ev := fo_ev cs) (v := v) (M := Nm) ⟨by decide, Or.inl (by decide)⟩ (Or.inl rfl) dm.2.1 hp hI (by omega) hwm
    obtain ⟨i1, i2, i3⟩ := fo_write_ok (ev := fo_ev cs) (v := v) hp hI
    have hlen := lq_write (ev := fo_ev cs) (v := v) hp hI
    obtain ⟨_, _, _, l, el, hl, _⟩ := fo_wr1_ok (v := v) hp hI
    have el' : (fo_leaf p (fo_pre p (Mm 7), [])).2.1 = (l : Int) := el
    rw [el'] at c5 c6 b2
    rw [e7]
    have e0 : ∀ f, f ≠ 20 → f ≠ 21 → f ≠ 22 → f ≠ 23 → (f_X3_writesOne 7 (p : Int) v Nm).2.2 0 f = Nm 0 f := fun f f1 f2 f3 f4 => by
      rw [b3.2.2.2.2 f f1, b4.2.1 f f2 f4, fo_up_at, fo_u_o f3, fo_up_at, fo_u_o f1]
    have es : ∀ s, s ≠ 0 → s ≠ 5 → s ≠ 6 → s ≠ 7 → (s < 9 ∨ 12 < s) → (f_X3_writesOne 7 (p : Int) v Nm).2.2 s = Nm s := fun s s1 s2 s3 s4 s5 => by
      rw [b3.2.2.2.1 s s4 s1 s5, b4.1 s s1 s2 s3, ax_up_ne s1, ax_up_ne s1]
    have g := pd_gen (D := C + 1) (X := (f_X0_write 1 (p : Int) v (a : Int) Nc).2.2) (Y := (f_X3_writesOne 7 (p : Int) v Nm).2.2) dm (by omega) (c2.1 0 (by omega) (by omega) (by omega) (by omega)) (c2.1 11 (by omega) (by omega) (by omega) (by omega)) (c2.1 13 (by omega) (by omega) (by omega) (by omega)) (fun s hs => c2.1 s (by omega) (by omega) (by omega) (by omega))
      (fun f hf => by
        rcases ha with e | e <;> subst e
        · exact ⟨c2.2.1 f hf, by rw [c2.1 31 (by omega) (by omega) (by omega) (by omega)]⟩
        · exact ⟨by rw [c2.1 28 (by omega) (by omega) (by omega) (by omega)], c2.2.1 f hf⟩) (dm.1.1.1.2.2.1.w (c2.2.2 12 (by omega)) (by rw [c4]; omega) (by rw [c4]; omega) (by have := h.1.1.2.1.nn; omega)) (fun f hf => e0 f (by omega) (by omega) (by omega) (by omega)) (fun s hs => es s (by omega) (by omega) (by omega) (by omega) (by omega)) c3 b3.1 i1 (by rw [i2]; omega)
    have y26 : (f_X3_writesOne 7 (p : Int) v Nm).2.2 0 26 = Mm 7 265 := by rw [e0 26 (by decide) (by decide) (by decide) (by decide), m26]
    have y27 : (f_X3_writesOne 7 (p : Int) v Nm).2.2 0 27 = Mm 7 266 := by rw [e0 27 (by decide) (by decide) (by decide) (by decide), m27]
    have x14 := c6.1
    generalize f_X0_write 1 (p : Int) v (a : Int) Nc = A at c1 c5 g x14 ⊢
    generalize f_X3_writesOne 7 (p : Int) v Nm = B at b1 b2 g y26 y27 ⊢
    have hA : 0 ≤ A.2.1 := by rw [c5]; omega
    have hset := settle_p (X := A.2.2) hA
    refine pq_lc c1 ?_
    refine pq_rc b1 ?_
    show pq (C + 1) (ax_bd (f_X2_settle A.2.1 A.2.2) (fun y3 => (if y3.1 = 0 then (True, (A.2.1, y3.2)) else ax_bd (f_X2_tell (ax_rem (y3.2 1 14) 4) y3.2) (fun M5 => ax_bd (f_X2_tellMore M5) (fun M6 => (True, (A.2.1, M6))))))) _
    rw [hset]
    show pq (C + 1) (True, (A.2.1, f_X2_tellMore (f_X2_tell (ax_rem (f_X2_tellAnew (f_X2_keepPast A.2.2) 1 14) 4) (f_X2_tellAnew (f_X2_keepPast A.2.2))))) ((f_X3_enters (ax_rem B.2.1 4) (ax_up B.2.2 0 1 0)).1 ∧ (f_X3_entersMore 7 (f_X3_enters (ax_rem B.2.1 4) (ax_up B.2.2 0 1 0)).2).1 ∧ (f_X3_adds (ax_div B.2.1 4) (f_X3_entersMore 7 (f_X3_enters (ax_rem B.2.1 4) (ax_up B.2.2 0 1 0)).2).2).1 ∧ True, ((f_X3_adds (ax_div B.2.1 4) (f_X3_entersMore 7 (f_X3_enters (ax_rem B.2.1 4) (ax_up B.2.2 0 1 0)).2).2).2.1, (f_X3_adds (ax_div B.2.1 4) (f_X3_entersMore 7 (f_X3_enters (ax_rem B.2.1 4) (ax_up B.2.2 0 1 0)).2).2).2.2))
    have k14 : f_X2_tellAnew (f_X2_keepPast A.2.2) 1 14 = (l : Int) := by
      show ax_up (f_X2_keepPast A.2.2) 0 12 0 1 14 = (l : Int)
      rw [ax_up_ne (by decide), keepPast_o (by decide), x14]
    rw [k14, b2]
    have hT : pr_Tn 0 (f_X2_tellAnew (f_X2_keepPast A.2.2)) (ax_up B.2.2 0 1 0) := tn_anew
    have q0 : cQ (f_X2_keepPast A.2.2) (f_X2_tellAnew (f_X2_keepPast A.2.2)) := cq_anew
    have o0 : ∀ t, t ≠ 0 → f_X2_tellAnew (f_X2_keepPast A.2.2) t = A.2.2 t := fun t ht => by
      have : f_X2_tellAnew (f_X2_keepPast A.2.2) t = f_X2_keepPast A.2.2 t := ax_up_ne ht
      rw [this, keepPast_o ht]
    obtain ⟨t1, t2⟩ := tn_tell (x := ax_rem (l : Int) 4) hT (by decide)
    have q1 := cq_tell (x := ax_rem (l : Int) 4) (Mc := f_X2_tellAnew (f_X2_keepPast A.2.2))
    have q2 := mq_enters (x := ax_rem (l : Int) 4) (Mm := ax_up B.2.2 0 1 0)
    have o1 : ∀ t, t ≠ 0 → t ≠ 35 → f_X2_tell (ax_rem (l : Int) 4) (f_X2_tellAnew (f_X2_keepPast A.2.2)) t = A.2.2 t := fun t t1 t2 => by rw [tell_o t1 t2, o0 t t1]
    have o2 : ∀ t, t ≠ 0 → t ≠ 1 → (f_X3_enters (ax_rem (l : Int) 4) (ax_up B.2.2 0 1 0)).2 t = B.2.2 t := fun t t1 t2 => by rw [enters_o t1 t2, ax_up_ne t1]
    have o3 : ∀ f, f ≠ 1 → (f_X3_enters (ax_rem (l : Int) 4) (ax_up B.2.2 0 1 0)).2 0 f = B.2.2 0 f := fun f f1 => by rw [enters_0 f1, fo_up_at, fo_u_o f1]
    generalize f_X2_tell (ax_rem (l : Int) 4) (f_X2_tellAnew (f_X2_keepPast A.2.2)) = Z1 at t2 q1 o1 ⊢
    generalize f_X3_enters (ax_rem (l : Int) 4) (ax_up B.2.2 0 1 0) = W1 at t1 t2 q2 o2 o3 ⊢
    obtain ⟨s1, s2, s3, s4, s5⟩ := pd_more (q := B.2.2 7) (r := Mm 7) t2 (by decide) (by rw [← g.1.1.1.1]; exact fo_cr_same (fun k k1 k2 => o1 _ (by omega) (by omega))) (fun k k1 k2 => by rw [o1 11 (by decide) (by decide)]; exact g.2.2.2.2.1 k k1 k2) (o2 7 (by decide) (by decide)) (by rw [o3 26 (by decide)]; exact y26) (by rw [o3 27 (by decide)]; exact y27)
    obtain ⟨a1, a2, a3⟩ := pd_fin g ((q0.tr q1).tr s3) (((mQ_0 (by decide)).tr q2).tr s4) (by rw [s5, o2 13 (by decide) (by decide)]) s2 (ax_div (l : Int) 4)
    exact ⟨trivial, ⟨t1, s1, a1, trivial⟩, by dsimp only; rw [a2, c5, ax_div4 ⟨by omega, by omega⟩], a3⟩
  · have ew : ∀ a3 M, f_X0_write 1 x v a3 M = (True, -1, M) := fun a3 M => by
      unfold f_X0_write
      by_cases h1 : x < 0
      · rw [if_pos h1]
      · rw [if_neg h1]
        by_cases h2 : 24 ≤ x
        · rw [if_pos h2]
        · rw [if_neg h2]
          by_cases h3 : v < 0
          · rw [if_pos h3]
          · rw [if_neg h3, if_neg (by omega)]
    have e3 : f_X3_writes x v Mm = (True, -1, ax_up Mm 0 0 0) := by
      unfold f_X3_writes f_X3_isPage
      simp only [ax_bd]
      rw [fm_inE]
      by_cases h1 : 0 ≤ x ∧ x ≤ 23
      · rw [if_pos h1, if_neg (show ¬ ((1 : Int) = 0) by decide), fm_inE, if_neg (fun h2 => hok ⟨h1, h2⟩), if_neg (fun h => h rfl)]
      · rw [if_neg h1, if_pos rfl]
    rw [e3]
    show pq (C + 1) (ax_rc (f_X0_write 1 x v (f_X2_begin Mc 0 7) (f_X2_begin Mc)) (fun y2 => ax_bd (f_X2_settle y2.1 y2.2) (fun y3 => (if y3.1 = 0 then (True, (y2.1, y3.2)) else ax_bd (f_X2_tell (ax_rem (y3.2 1 14) 4) y3.2) (fun M5 => ax_bd (f_X2_tellMore M5) (fun M6 => (True, (y2.1, M6)))))))) _
    rw [ew]
    exact ⟨⟨trivial, trivial⟩, trivial, rfl, (hb.th).1.mono (by omega), hb.th.2⟩
end PRE
