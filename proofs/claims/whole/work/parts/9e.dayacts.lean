/-! ===== acts in a row, side by side ===== -/
section DYB
variable {C D : Int} {X Y X' Y' : ax_M} {r q : fo_R}
theorem fo_MR.n20 {a n0 : Nat} {M0 M : ax_M} {σ : fo_S} (h : fo_MR a n0 M0 M σ) : 0 ≤ M 0 20 ∧ M 0 20 ≤ 400 := by
  rw [h.2.1]
  split <;> omega
/-- what an act of a day leaves as it was, and keeps -/
def dy_P (C : Int) (r : fo_R) (X Y X' Y' : ax_M) : Prop := (∃ q', pr_D C r q' X' Y') ∧ ax_r32 (X' 1 11) ∧ (0 ≤ Y' 0 20 ∧ Y' 0 20 ≤ 400) ∧ X' 34 = X 34 ∧ (∀ s, s = 14 ∨ s = 15 ∨ s = 16 → Y' s = Y s) ∧ ∀ f, f = 26 ∨ f = 27 ∨ f = 31 → Y' 0 f = Y 0 f
/-- an act of a day: both answer the same -/
def dy_A (D : Int) (r : fo_R) (X Y : ax_M) (A : Prop × Int × ax_M) (B : Prop × Int × ax_M) : Prop := A.1 ∧ B.1 ∧ (0 ≤ A.2.1 ↔ 0 ≤ B.2.1) ∧ dy_P D r X Y A.2.2 B.2.2
/-- between acts -/
def dy_I (C : Int) (r : fo_R) (X Y : ax_M) : Prop := (∃ q, pr_D C r q X Y) ∧ ax_r32 (X 1 11) ∧ 0 ≤ Y 0 20 ∧ Y 0 20 ≤ 400
theorem dy_rf (h : dy_I C r X Y) (hD : C ≤ D) : dy_P D r X Y X Y := by
  obtain ⟨⟨q, hq⟩, h1, h2⟩ := h
  exact ⟨⟨q, hq.mono hD⟩, h1, h2, rfl, fun _ _ => rfl, fun _ _ => rfl⟩
theorem dy_no {x : Int} (h : dy_I C r X Y) (hD : C ≤ D) : dy_A D r X Y (True, x, X) (True, x, Y) := ⟨trivial, trivial, Iff.rfl, dy_rf h hD⟩
theorem dy_mk {n0 : Nat} {M0 : ax_M} {σ : fo_S} {A : Int × ax_M} {B : Prop × Int × ax_M} (h : pr_D C r q X Y) (hCD : C ≤ D) (e : A.1 = B.2.1) (b1 : B.1) (hF : fo_Fr 1 X A.2) (hX : fo_cr 1 A.2 = σ.1) (hY : fo_MR 7 n0 M0 B.2.2 σ) (ys : ∀ s, s ≠ 0 → M0 s = Y s) (y0 : ∀ f, f ≠ 21 → M0 0 f = Y 0 f) (hI : fo_I σ.1) (hc : σ.1 270 ≤ D) (h11 : ax_r32 (A.2 1 11)) (s1 : pr_SB D 1 A.2) : dy_A D r X Y (True, A) B := by
  obtain ⟨g1, g2⟩ := pd_act h hCD hF hX hY ys y0 hI hc s1
  exact ⟨trivial, b1, by rw [← e], ⟨_, g1⟩, h11, hY.n20, hF.1 34 (by omega), fun s hs => by rw [hY.2.2.2.1 s (by omega) (by omega) (by omega), ys s (by omega)], fun f hf => g2 f (by omega) (by omega)⟩
theorem dy_seal (hC : C ≤ 900000) (h : dy_I C r X Y) : dy_A (C + 1) r X Y (True, f_X0_sealRun 1 X) (f_X3_sealsNow Y) := by
  obtain ⟨⟨q, dm⟩, h11, h20⟩ := h
  have hI : fo_I q := by rw [← dm.2.1]; exact dm.1.I
  have hG : q 270 ≤ C := by have := dm.1.1.1.2.1.2; rw [dm.2.1] at this; exact this
  obtain ⟨c1, c2, c3⟩ := rl_actS (b := 1) (M := X) (dm.1.c.trans dm.2.1) hI dm.1.1.1.2.2.1.1 (dm.1.1.1.2.2.1.lim hC)
  have s1 := dm.1.1.1.2.2.1.act (c3.2 12 (by decide) (by decide) (by decide)) (rl_actS11 (b := 1) (M := X) (dm.1.c.trans dm.2.1) hI dm.1.1.1.2.2.1.1 (dm.1.1.1.2.2.1.lim hC))
  obtain ⟨e1, e2, n0, e3⟩ := fm_actS (M := Y) dm.2.1 hI (by omega) h20
  exact dy_mk dm (show C ≤ C + 1 by omega) (c1.trans e2.symm) e1 c3 c2 e3 (fun _ _ => rfl) (fun _ _ => rfl) (fo_actS_I hI) (by rw [fo_actS_270 hI]; omega) (s1.r32 (by omega)) s1
theorem dy_level (hC : C ≤ 900000) (h : dy_I C r X Y) : dy_A (C + 1) r X Y (True, f_X0_level 1 X) (f_X3_levelsNow Y) := by
  obtain ⟨⟨q, dm⟩, h11, h20⟩ := h
  have hI : fo_I q := by rw [← dm.2.1]; exact dm.1.I
  have hG : q 270 ≤ C := by have := dm.1.1.1.2.1.2; rw [dm.2.1] at this; exact this
  obtain ⟨c1, c2, c3, _⟩ := rl_actL (b := 1) (M := X) (dm.1.c.trans dm.2.1) hI dm.1.1.1.2.2.1.1 (dm.1.1.1.2.2.1.lim hC)
  have s1 := dm.1.1.1.2.2.1.act (c3.2 12 (by decide) (by decide) (by decide)) (rl_actL11 (b := 1) (M := X) (dm.1.c.trans dm.2.1) hI dm.1.1.1.2.2.1.1 (dm.1.1.1.2.2.1.lim hC))
  obtain ⟨e1, e2, n0, e3⟩ := fm_actL (M := Y) dm.2.1 hI h20
  exact dy_mk dm (show C ≤ C + 1 by omega) (c1.trans e2.symm) e1 c3 c2 e3 (fun s hs => by split; exact ax_up_ne hs; rfl) (fun f hf => by split; rw [fo_up_at, fo_u_o hf]; rfl) (fo_actL_I hI) (by rw [fo_actL_270 hI]; omega) (s1.r32 (by omega)) s1
theorem dy_merge {x : Int} (hC : C ≤ 900000) (h : dy_I C r X Y) : dy_A (C + 1) r X Y (True, f_X0_mergeFolder 1 x X) (f_X3_mergesOf x Y) := by
  have h' := h
  obtain ⟨⟨q, dm⟩, h11, h20⟩ := h
  have hI : fo_I q := by rw [← dm.2.1]; exact dm.1.I
  have hG : q 270 ≤ C := by have := dm.1.1.1.2.1.2; rw [dm.2.1] at this; exact this
  by_cases hx : 0 ≤ x ∧ x ≤ 5
  · obtain ⟨f, rfl⟩ : ∃ f : Nat, x = (f : Int) := ⟨x.toNat, by omega⟩
    have hf : f < 6 := by omega
    obtain ⟨c1, c2, c3⟩ := rl_actM (b := 1) (M := X) hf (dm.1.c.trans dm.2.1) hI dm.1.1.1.2.2.1.1 (dm.1.1.1.2.2.1.lim hC)
    have s1 := dm.1.1.1.2.2.1.act (c3.2 12 (by decide) (by decide) (by decide)) (rl_actM11 (b := 1) (M := X) hf (dm.1.c.trans dm.2.1) hI dm.1.1.1.2.2.1.1 (dm.1.1.1.2.2.1.lim hC))
    obtain ⟨e1, e2, n0, e3⟩ := fm_actM (M := Y) hf dm.2.1 hI (by omega) h20
    exact dy_mk dm (show C ≤ C + 1 by omega) (c1.trans e2.symm) e1 c3 c2 e3 (fun _ _ => rfl) (fun _ _ => rfl) (fo_actM_I hf hI) (by rw [fo_actM_270 hf hI]; omega) (s1.r32 (by omega)) s1
  · have e1 : f_X0_mergeFolder 1 x X = (-1, X) := by
      unfold f_X0_mergeFolder
      by_cases h0 : x < 0
      · rw [if_pos h0]
      · rw [if_neg h0, if_neg (by omega)]
    have e2 : f_X3_mergesOf x Y = (True, -1, Y) := by
      unfold f_X3_mergesOf
      rw [fm_inE, if_neg hx, if_neg (fun h => h rfl)]
    rw [e1, e2]
    exact dy_no h' (by omega)
theorem dy_clear {x : Int} (hx : 0 ≤ x ∧ x ≤ 1) (hC : C ≤ 900000) (h : dy_I C r X Y) : dy_A (C + 1) r X Y (True, f_X0_clearFirst 1 (f_X2_kindOfRow x X) X) (f_X3_clearsOf x Y) := by
  obtain ⟨⟨q, dm⟩, h11, h20⟩ := h
  have hI : fo_I q := by rw [← dm.2.1]; exact dm.1.I
  have hG : q 270 ≤ C := by have := dm.1.1.1.2.1.2; rw [dm.2.1] at this; exact this
  rcases fx_kind x with ⟨k, hk, e, k1, k2⟩ | ⟨k1, k2⟩
  · subst e
    rw [k1]
    have h34 : (3 : Int) + (k : Int) = 3 ∨ (3 : Int) + (k : Int) = 4 := by omega
    obtain ⟨c1, c2, c3⟩ := rl_actC (b := 1) (M := X) h34 (dm.1.c.trans dm.2.1) hI dm.1.1.1.2.2.1.1 (dm.1.1.1.2.2.1.lim hC)
    have s1 := dm.1.1.1.2.2.1.act (c3.2 12 (by decide) (by decide) (by decide)) (rl_actC11 (b := 1) (M := X) h34 (dm.1.c.trans dm.2.1) hI dm.1.1.1.2.2.1.1 (dm.1.1.1.2.2.1.lim hC))
    obtain ⟨e1, e2, n0, e3⟩ := fm_actC (M := Y) hk dm.2.1 hI (by omega) h20
    exact dy_mk dm (show C ≤ C + 1 by omega) (c1.trans e2.symm) e1 c3 c2 e3 (fun _ _ => rfl) (fun _ _ => rfl) (fo_actC_I h34 hI) (by rw [fo_actC_270 h34 hI]; omega) (s1.r32 (by omega)) s1
  · have := k2 X
    rw [fm_inE, if_pos hx] at this
    exact absurd this (by decide)
theorem dy_cool (h : dy_I C r X Y) : dy_A C r X Y (True, f_X0_coolAll 1 X) (True, f_X3_coolsAll Y) := by
  obtain ⟨⟨q, dm⟩, h11, h20⟩ := h
  have hI : fo_I q := by rw [← dm.2.1]; exact dm.1.I
  have hG : q 270 ≤ C := by have := dm.1.1.1.2.1.2; rw [dm.2.1] at this; exact this
  obtain ⟨c1, c2, c3⟩ := rl_cool (b := 1) (M := X)
  obtain ⟨e1, e2, e3⟩ := fm_cool (M := Y)
  rw [dm.1.c.trans dm.2.1] at c1 c2
  rw [dm.2.1] at e1 e2
  have g := pd_gen (X := (f_X0_coolAll 1 X).2) (Y := (f_X3_coolsAll Y).2) (D := C) dm (Int.le_refl _) (c3 0 (by decide)) (c3 11 (by decide)) (c3 13 (by decide)) (fun s hs => c3 s (by omega)) (fun f _ => ⟨by rw [c3 28 (by decide)], by rw [c3 31 (by decide)]⟩) (dm.1.1.1.2.2.1.e (c3 1 (by decide)) (Int.le_refl _)) (fun f _ => by rw [e3 0 (by decide)]) (fun s hs => e3 s (by omega)) c2 e2 (fo_cool_I hI) (by rw [fo_cool_270 hI]; exact hG)
  exact ⟨trivial, trivial, by rw [c1, e1], ⟨_, g⟩, by rw [c3 1 (by decide)]; exact h11, by rw [e3 0 (by decide)]; exact h20, c3 34 (by decide), fun s hs => e3 s (by omega), fun f _ => by rw [e3 0 (by decide)]⟩
theorem dy_write {x v : Int} (hv : 0 ≤ v ∧ v ≤ 99) (hC : C < 2000000000) (h : dy_I C r X Y) : dy_A (C + 1) r X Y (f_X0_write 1 x v (X 0 7) X) (if f_X3_isPage x Y = 0 then (True, ((-1), Y)) else ax_rc (f_X3_writesOne 7 x v Y) (fun y14 => (True, (y14.1, y14.2)))) := by
  have h' := h
  obtain ⟨⟨q, dm⟩, h11, h20⟩ := h
  have hI : fo_I q := by rw [← dm.2.1]; exact dm.1.I
  have hG : q 270 ≤ C := by have := dm.1.1.1.2.1.2; rw [dm.2.1] at this; exact this
  rcases fx_page x with ⟨p, hp, e, _, k2⟩ | ⟨_, k2⟩
  · subst e
    rw [k2, if_neg (by decide)]
    obtain ⟨a, cs, ha, e7, hwc, hwm⟩ := pr_R.ev (dm.1.1.2.2.2.2.2 hC)
    obtain ⟨c1, c2, c3, c4, c5, c6, c7⟩ := rl_writeU (a := a) (b := 1) (ev := fo_ev cs) (v := v) (M := X) (by omega) hp (by omega) (dm.1.c.trans dm.2.1) hI (by omega) dm.1.1.1.2.2.1.1 (hwc 1 (by omega))
    obtain ⟨b1, b2, M0', b3, b4⟩ := fm_write (a := 7) (ev := fo_ev cs) (v := v) (M := Y) ⟨by decide, Or.inl (by decide)⟩ (Or.inl rfl) dm.2.1 hp hI (by omega) hwm
    obtain ⟨i1, i2, i3⟩ := fo_write_ok (ev := fo_ev cs) (v := v) hp hI
    have hlen := lq_write (ev := fo_ev cs) (v := v) hp hI
    obtain ⟨_, _, _, l, el, hl, _⟩ := fo_wr1_ok (v := v) hp hI
    have el' : (fo_leaf p (fo_pre p q, [])).2.1 = (l : Int) := el
    rw [e7]
    have e0 : ∀ f, f ≠ 20 → f ≠ 21 → f ≠ 22 → f ≠ 23 → (f_X3_writesOne 7 (p : Int) v Y).2.2 0 f = Y 0 f := fun f f1 f2 f3 f4 => by
      rw [b3.2.2.2.2 f f1, b4.2.1 f f2 f4, fo_up_at, fo_u_o f3, fo_up_at, fo_u_o f1]
    have es : ∀ s, s ≠ 0 → s ≠ 5 → s ≠ 6 → s ≠ 7 → (s < 9 ∨ 12 < s) → (f_X3_writesOne 7 (p : Int) v Y).2.2 s = Y s := fun s s1 s2 s3 s4 s5 => by
      rw [b3.2.2.2.1 s s4 s1 s5, b4.1 s s1 s2 s3, ax_up_ne s1, ax_up_ne s1]
    have g := pd_gen (D := C + 1) (X := (f_X0_write 1 (p : Int) v (a : Int) X).2.2) (Y := (f_X3_writesOne 7 (p : Int) v Y).2.2) dm (by omega) (c2.1 0 (by omega) (by omega) (by omega) (by omega)) (c2.1 11 (by omega) (by omega) (by omega) (by omega)) (c2.1 13 (by omega) (by omega) (by omega) (by omega)) (fun s hs => c2.1 s (by omega) (by omega) (by omega) (by omega))
      (fun f hf => by
        rcases ha with e | e <;> subst e
        · exact ⟨c2.2.1 f hf, by rw [c2.1 31 (by omega) (by omega) (by omega) (by omega)]⟩
        · exact ⟨by rw [c2.1 28 (by omega) (by omega) (by omega) (by omega)], c2.2.1 f hf⟩) (dm.1.1.1.2.2.1.w (c2.2.2 12 (by omega)) (by rw [c4]; omega) (by rw [c4]; omega) (by have := dm.1.1.1.2.1.nn; omega)) (fun f hf => e0 f (by omega) (by omega) (by omega) (by omega)) (fun s hs => es s (by omega) (by omega) (by omega) (by omega) (by omega)) c3 b3.1 i1 (by rw [i2]; omega)
    exact ⟨c1, ⟨b1, trivial⟩, (by show (0 ≤ (f_X0_write 1 (p : Int) v (a : Int) X).2.1 ↔ 0 ≤ (f_X3_writesOne 7 (p : Int) v Y).2.1); rw [c5, b2, el']; omega), ⟨_, g⟩, by rw [c4]; unfold ax_r32; omega, b3.n20, c2.1 34 (by omega) (by omega) (by omega) (by omega), fun s hs => es s (by omega) (by omega) (by omega) (by omega) (by omega), fun f hf => e0 f (by omega) (by omega) (by omega) (by omega)⟩
  · have ew : ∀ a3 M, f_X0_write 1 x v a3 M = (True, -1, M) := fun a3 M => by
      have hx : ¬ (0 ≤ x ∧ x ≤ 23) := fun hx => by
        have := k2 X
        unfold f_X3_isPage at this
        rw [fm_inE, if_pos hx] at this
        exact absurd this (by decide)
      unfold f_X0_write
      by_cases h1 : x < 0
      · rw [if_pos h1]
      · rw [if_neg h1, if_pos (by omega)]
    rw [ew, k2, if_pos rfl]
    exact dy_no h' (by omega)
end DYB
