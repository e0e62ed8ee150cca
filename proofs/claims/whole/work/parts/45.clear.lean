/-! ===== a log cleared ===== -/
theorem fo_hasF_ex {B : Int} {r : fo_R} {b f : Nat} (h : fo_WI B r) (hb : b < 16) (hf : fo_hasF r b f = true) : ∃ l, l < 64 ∧ r l ≠ 0 ∧ (r l - 1) / 4 = (f : Int) := by
  obtain ⟨k, hk, h1, h2, h3⟩ := fo_hasF_iff.mp hf
  exact ⟨4 * b + k, by omega, by omega, h3⟩
theorem fo_clr_inv {B : Int} {b : Nat} {r0 : fo_R} (hB : 0 ≤ B) (hb : b < 16) : ∀ (n f : Nat) (σ : fo_S), f + n = 6 → fo_WI B σ.1 → fo_SI σ.1 → 3 ≤ σ.1 (192 + b) → (∀ g, f ≤ g → g < 6 → fo_hasF σ.1 b g = fo_hasF r0 b g) → (∀ g, g < f → fo_hasF σ.1 b g = false) →
    fo_WI B (fo_clr r0 b n f σ).1 ∧ fo_SI (fo_clr r0 b n f σ).1 ∧ (fo_clr r0 b n f σ).1 (192 + b) = σ.1 (192 + b) ∧ (fo_clr r0 b n f σ).1 (208 + b) = σ.1 (208 + b) ∧ ∀ g, g < 6 → fo_hasF (fo_clr r0 b n f σ).1 b g = false := by
  intro n
  induction n with
  | zero =>
    intro f σ hf h s hk h1 h2
    exact ⟨h, s, rfl, rfl, fun g hg => h2 g (by omega)⟩
  | succ n ih =>
    intro f σ hf h s hk h1 h2
    show fo_WI B (fo_clr r0 b n (f + 1) (if fo_hasF r0 b f = true then fo_merge f σ else σ)).1 ∧ fo_SI (fo_clr r0 b n (f + 1) (if fo_hasF r0 b f = true then fo_merge f σ else σ)).1 ∧ (fo_clr r0 b n (f + 1) (if fo_hasF r0 b f = true then fo_merge f σ else σ)).1 (192 + b) = σ.1 (192 + b) ∧ (fo_clr r0 b n (f + 1) (if fo_hasF r0 b f = true then fo_merge f σ else σ)).1 (208 + b) = σ.1 (208 + b) ∧ ∀ g, g < 6 → fo_hasF (fo_clr r0 b n (f + 1) (if fo_hasF r0 b f = true then fo_merge f σ else σ)).1 b g = false
    by_cases hm : fo_hasF r0 b f = true
    · rw [if_pos hm]
      have hfr := s.free h
      have hf6 : f < 6 := by omega
      have hmσ : fo_hasF σ.1 b f = true := by rw [h1 f (Nat.le_refl _) hf6]; exact hm
      obtain ⟨l1, l2, l3⟩ := fo_merge_log hf6 hB hfr h hb hk
      obtain ⟨q1, q2, q3, q4, q5⟩ := ih (f + 1) (fo_merge f σ) (by omega) (fo_WI_merge hf6 hB hfr h) (fo_SI_merge hf6 hB h s (fo_hasF_ex h hb hmσ)) (by rw [l1]; exact hk)
        (fun g hg1 hg2 => by rw [fo_hasF_merge hf6 hB hfr h hb hk (by omega)]; exact h1 g (by omega) hg2)
        (fun g hg => by
          by_cases e : g = f
          · rw [e]; exact fo_noF_merge hf6 hB hfr h hb hk
          · rw [fo_hasF_merge hf6 hB hfr h hb hk e]; exact h2 g (by omega))
      exact ⟨q1, q2, by rw [q3, l1], by rw [q4, l2], q5⟩
    · rw [if_neg hm]
      exact ih (f + 1) σ (by omega) h s hk (fun g hg1 hg2 => h1 g (by omega) hg2) (fun g hg => by
        by_cases e : g = f
        · rw [e, h1 f (Nat.le_refl _) (by omega)]; simpa using hm
        · exact h2 g (by omega))
/-- the first log of a row wiped, of which no leaf is the latest -/
theorem fo_SI_wlog {B : Int} {b : Nat} {r : fo_R} (hb : b < 16) (h : fo_WI B r) (s : fo_SI r) (hk : 3 ≤ r (192 + b)) (h0 : r (208 + b) = 0) (hn : ∀ g, g < 6 → fo_hasF r b g = false) : fo_SI (fo_wp b r) := by
  have kk : ∀ c, c < 16 → c ≠ b → fo_wp b r (192 + c) = r (192 + c) := fun c hc e => by rw [fo_wp_kd hc, if_neg e]
  have kb : fo_wp b r (192 + b) = 0 := by rw [fo_wp_kd hb, if_pos rfl]
  have nb : ∀ c, c < 16 → fo_wp b r (192 + c) ≠ 0 → c ≠ b := fun c hc e e' => by rw [e'] at e; exact e kb
  have oo : ∀ c, c < 16 → c ≠ b → r (192 + c) ≠ r (192 + b) → fo_wp b r (208 + c) = r (208 + c) := fun c hc e e2 => by
    rw [fo_wp_ow hc, if_neg e, if_neg (fun h => e2 h.2.1)]
  have pos : ∀ c, c < 16 → c ≠ b → r (192 + c) = r (192 + b) → 0 < r (208 + c) := fun c hc e e2 => by
    have h1 := (s.lo c hc (by omega)).1
    have h2 := s.lu c b hc hb (by omega) e2
    by_cases hz : r (208 + c) = 0
    · exact absurd (h2 (by omega)) e
    · omega
  have om : ∀ c, c < 16 → c ≠ b → r (192 + c) = r (192 + b) → fo_wp b r (208 + c) = r (208 + c) - 1 := fun c hc e e2 => by
    have := pos c hc e e2
    rw [fo_wp_ow hc, if_neg e, if_pos ⟨hk, e2, by omega⟩]
  have pp : ∀ j, j < 64 → j / 4 ≠ b → fo_wp b r j = r j := fun j hj e => by rw [fo_wp_pg hj, if_neg e]
  have m1 : fo_many r (r (192 + b)) = fo_many (fo_wp b r) (r (192 + b)) + 1 := fo_many_one hb rfl (by rw [kb]; omega) (fun c hc e => (kk c hc e).symm)
  have m2 : ∀ k, k ≠ 0 → k ≠ r (192 + b) → fo_many (fo_wp b r) k = fo_many r k := fun k hk0 hk1 => fo_many_congr (fun c hc => by
    by_cases e : c = b
    · subst e; rw [kb]; exact ⟨fun h => absurd h.symm hk0, fun h => absurd h.symm hk1⟩
    · rw [kk c hc e])
  have hh : ∀ j, 240 ≤ j → fo_wp b r j = r j := fun j hj => fo_wp_hi hb hj
  refine ⟨fun c d hc hd e1 e2 e3 => ?_, fun c d hc hd e1 e2 => ?_, fun c d hc hd e1 e2 e3 => ?_, fun c hc e1 => ?_, fun c hc e1 => ?_, ?_, fun c hc e1 k hk3 e2 => ?_, fun c hc e1 => ?_, fun l hl e1 => ?_, fun c hc e1 => ?_, fun k o hk3 ho hm => ?_⟩
  · have c1 := nb c hc (by omega)
    have d1 := nb d hd (by omega)
    rw [kk c hc c1] at e1
    rw [kk d hd d1] at e2
    rw [oo c hc c1 (by omega), oo d hd d1 (by omega)] at e3
    exact s.hu c d hc hd e1 e2 e3
  · have c1 := nb c hc (by omega)
    have d1 := nb d hd (by omega)
    rw [kk c hc c1] at e1
    rw [kk d hd d1] at e2
    exact s.ru c d hc hd e1 e2
  · have c1 := nb c hc (by omega)
    have d1 := nb d hd (by omega)
    rw [kk c hc c1] at e1 e2
    rw [kk d hd d1] at e2
    by_cases hq : r (192 + c) = r (192 + b)
    · rw [om c hc c1 hq, om d hd d1 (by omega)] at e3
      exact s.lu c d hc hd e1 e2 (by omega)
    · rw [oo c hc c1 hq, oo d hd d1 (by omega)] at e3
      exact s.lu c d hc hd e1 e2 e3
  · have c1 := nb c hc (by omega)
    rw [kk c hc c1] at e1
    rw [oo c hc c1 (by omega)]
    exact s.or c hc e1
  · have c1 := nb c hc (by omega)
    rw [kk c hc c1] at e1 ⊢
    have h1 := s.lo c hc e1
    by_cases hq : r (192 + c) = r (192 + b)
    · have h2 := pos c hc c1 hq
      rw [om c hc c1 hq, hq]
      rw [hq] at h1
      generalize fo_many (fo_wp b r) (r (192 + b)) = x at m1 ⊢
      generalize fo_many r (r (192 + b)) = y at m1 h1
      omega
    · rw [oo c hc c1 hq, m2 _ (by omega) hq]
      exact h1
  · have := s.lm
    unfold fo_Lm at this ⊢
    rw [hh 271 (by omega), hh 272 (by omega), hh 273 (by omega)]
    have a3 : fo_many (fo_wp b r) 3 ≤ fo_many r 3 := by
      by_cases e : r (192 + b) = 3
      · rw [e] at m1
        generalize fo_many (fo_wp b r) 3 = x at m1 ⊢
        generalize fo_many r 3 = y at m1 ⊢
        omega
      · rw [m2 3 (by decide) (fun h => e h.symm)]; exact Int.le_refl _
    have a4 : fo_many (fo_wp b r) 4 ≤ fo_many r 4 := by
      by_cases e : r (192 + b) = 4
      · rw [e] at m1
        generalize fo_many (fo_wp b r) 4 = x at m1 ⊢
        generalize fo_many r 4 = y at m1 ⊢
        omega
      · rw [m2 4 (by decide) (fun h => e h.symm)]; exact Int.le_refl _
    exact ⟨Int.le_trans a3 this.1, Int.le_trans a4 this.2.1, this.2.2⟩
  · have c1 := nb c hc (by omega)
    rw [kk c hc c1] at e1
    rw [pp _ (by omega) (by omega)] at e2
    rw [pp _ (by omega) (by omega)]
    exact s.cg c hc e1 k hk3 e2
  · have c1 := nb c hc (by omega)
    rw [kk c hc c1] at e1
    rw [pp _ (by omega) (by omega)]
    exact s.r0 c hc e1
  · rw [fo_wp_pg hl] at e1 ⊢
    by_cases e : l / 4 = b
    · rw [if_pos e] at e1; exact absurd rfl e1
    · rw [if_neg e] at e1 ⊢
      obtain ⟨c, hc, a1, a2⟩ := s.ha l hl e1
      have c1 : c ≠ b := fun e => by rw [e] at a1; omega
      exact ⟨c, hc, by rw [kk c hc c1]; exact a1, by rw [oo c hc c1 (by omega)]; exact a2⟩
  · have c1 := nb c hc (by omega)
    rw [kk c hc c1] at e1
    obtain ⟨l, hl, g1, g2⟩ := s.hb c hc e1
    have hp := h.pg l hl
    obtain ⟨m, em, hm, hpm⟩ : ∃ m : Nat, fo_lat r (r l - 1) = (m : Int) ∧ m < 64 ∧ r m = r l - 1 + 1 := by
      rcases fo_lat_spec r (r l - 1) with ⟨_, g⟩ | ⟨m, g, h2, h3, _⟩
      · exact absurd (by omega) (g l hl)
      · exact ⟨m, g, h2, h3⟩
    have hmb : m / 4 ≠ b := by
      intro e
      have hF : fo_hasF r b ((r l - 1) / 4).toNat = true := by
        refine fo_hasF_iff.mpr ⟨m % 4, by omega, ?_⟩
        rw [show 4 * b + m % 4 = m by omega, hpm, show r l - 1 + 1 - 1 = r l - 1 by omega]
        exact ⟨by omega, em, by omega⟩
      rw [hn _ (by omega)] at hF
      cases hF
    refine ⟨m, hm, ?_⟩
    rw [pp m hm hmb, oo c hc c1 (by omega), hpm]
    exact ⟨by omega, by rw [show r l - 1 + 1 - 1 = r l - 1 by omega]; exact g2⟩
  · by_cases e : k = r (192 + b)
    · rw [e] at hm hk3
      have hm' : o + 1 < fo_many r (r (192 + b)) := by
        generalize fo_many (fo_wp b r) (r (192 + b)) = x at m1 hm
        generalize fo_many r (r (192 + b)) = y at m1 ⊢
        omega
      obtain ⟨c, hc, a1, a2⟩ := s.ls _ (o + 1) hk3 (by omega) hm'
      have c1 : c ≠ b := fun e => by rw [e] at a2; omega
      exact ⟨c, hc, by rw [kk c hc c1, a1, e], by rw [om c hc c1 a1, a2]; omega⟩
    · rw [m2 k (by omega) e] at hm
      obtain ⟨c, hc, a1, a2⟩ := s.ls k o hk3 ho hm
      have c1 : c ≠ b := fun e' => by rw [e'] at a1; exact e a1.symm
      exact ⟨c, hc, by rw [kk c hc c1]; exact a1, by rw [oo c hc c1 (by rw [a1]; exact e)]; exact a2⟩
/-- the first log of a row -/
theorem fo_first_log {k : Int} {r : fo_R} (s : fo_SI r) (hk : 3 ≤ k) : fo_blk r k 0 = -1 ∨ ∃ c : Nat, fo_blk r k 0 = (c : Int) ∧ c < 16 ∧ r (192 + c) = k ∧ r (208 + c) = 0 := by
  rcases fo_blk_spec r k 0 with ⟨h, _⟩ | h
  · exact Or.inl h
  · exact Or.inr h
theorem fo_clear_ok {B k : Int} {c : Nat} {σ : fo_S} (hB : 0 ≤ B) (h : fo_WI B σ.1) (s : fo_SI σ.1) (hk : 3 ≤ k) (ec : fo_blk σ.1 k 0 = (c : Int)) (hc : c < 16) (h1 : σ.1 (192 + c) = k) (h2 : σ.1 (208 + c) = 0) :
    fo_WI B (fo_clear k σ).1 ∧ fo_SI (fo_clear k σ).1 ∧ fo_WI B (fo_clr σ.1 c 6 0 σ).1 ∧ fo_SI (fo_clr σ.1 c 6 0 σ).1 ∧ (fo_clr σ.1 c 6 0 σ).1 (192 + c) = k ∧ (fo_clr σ.1 c 6 0 σ).1 (208 + c) = 0 := by
  obtain ⟨q1, q2, q3, q4, q5⟩ := fo_clr_inv (r0 := σ.1) hB hc 6 0 σ (by omega) h s (by omega) (fun g _ _ => rfl) (fun g hg => by omega)
  unfold fo_clear
  rw [ec, fo_t0]
  exact ⟨fo_WI_wipe hc hB q1, fo_SI_cnt (by omega) (by omega) (fo_SI_wlog hc q1 q2 (by omega) (by omega) q5), q1, q2, by rw [q3, h1], by rw [q4, h2]⟩
theorem fo_clr_ex {r0 : fo_R} {b : Nat} : ∀ (n f : Nat) (σ : fo_S), ∃ t, (fo_clr r0 b n f σ).2 = σ.2 ++ t := by
  intro n
  induction n with
  | zero => intro f σ; exact ⟨[], by simp [fo_clr]⟩
  | succ n ih =>
    intro f σ
    obtain ⟨t, e⟩ := ih (f + 1) (if fo_hasF r0 b f = true then fo_merge f σ else σ)
    by_cases hm : fo_hasF r0 b f = true
    · obtain ⟨u, e2⟩ := fo_merge_ex (f := f) (σ := σ)
      refine ⟨u ++ t, ?_⟩
      show (fo_clr r0 b n (f + 1) (if fo_hasF r0 b f = true then fo_merge f σ else σ)).2 = _
      rw [e, if_pos hm, e2, List.append_assoc]
    · refine ⟨t, ?_⟩
      show (fo_clr r0 b n (f + 1) (if fo_hasF r0 b f = true then fo_merge f σ else σ)).2 = _
      rw [e, if_neg hm]
theorem fo_Tr_clr {s0 r0 : fo_R} {b : Nat} : ∀ (n f : Nat) (σ : fo_S), fo_Tr s0 σ → fo_Tr s0 (fo_clr r0 b n f σ) := by
  intro n
  induction n with
  | zero => intro f σ h; exact h
  | succ n ih =>
    intro f σ h
    refine ih (f + 1) _ ?_
    split
    · exact fo_Tr_merge h
    · exact h
theorem fo_clear_ex {k : Int} {σ : fo_S} : ∃ t, (fo_clear k σ).2 = σ.2 ++ t := by
  obtain ⟨t, e⟩ := fo_clr_ex (r0 := σ.1) (b := (fo_blk σ.1 k 0).toNat) 6 0 σ
  refine ⟨t ++ [(64 + (((fo_blk σ.1 k 0).toNat : Nat) : Int), 0, 0, 0)], ?_⟩
  simp only [fo_clear, fo_wipe]
  rw [e, List.append_assoc]
theorem fo_Tr_clear {s0 : fo_R} {k : Int} {σ : fo_S} (h : fo_Tr s0 σ) : fo_Tr s0 (fo_clear k σ) := fo_Tr_wipe (fo_Tr_clr 6 0 σ h)
/-! the class's clearFirst -/
theorem rl_clr {b c : Nat} {B w3 : Int} {r0 s0 : fo_R} {w : Prop} (hB : 0 ≤ B) (hc : c < 16) (hw3 : ∀ f, f < 6 → fo_bit w3 f = fo_hasF r0 c f) : ∀ (n f : Nat) (K : Int) (M : ax_M) (σ : fo_S), f + n = 6 → fo_WI B σ.1 → fo_SI σ.1 → 3 ≤ σ.1 (192 + c) → (∀ g, f ≤ g → g < 6 → fo_hasF σ.1 c g = fo_hasF r0 c g) → 100 ≤ K → K + n * 6 ≤ 1000000 → fo_RL b K M σ s0 w → fo_RL b (K + n * 6) (fo_fold (fz_cl b w3) n f M) (fo_clr r0 c n f σ) s0 w := by
  intro n
  induction n with
  | zero => intro f K M σ _ _ _ _ _ _ _ h; rw [fo_fold_z]; exact h.up (by omega)
  | succ n ih =>
    intro f K M σ hf h s hk h1 hK0 hK hr
    rw [fo_fold_s]
    show fo_RL b _ _ (fo_clr r0 c n (f + 1) (if fo_hasF r0 c f = true then fo_merge f σ else σ)) s0 w
    have hf6 : f < 6 := by omega
    have hstep : fo_RL b (K + 6) (fz_cl b w3 f M) (if fo_hasF r0 c f = true then fo_merge f σ else σ) s0 w := by
      unfold fz_cl
      rw [fo_test w3 (by omega), hw3 f hf6]
      by_cases hm : fo_hasF r0 c f = true
      · rw [if_pos hm, if_neg (by decide), if_pos hm]
        exact (rl_merge hf6 hB (s.free h) h (fun _ => rfl) hK0 (by omega) hr).1
      · rw [if_neg hm, if_pos rfl, if_neg hm]
        exact hr.up (by omega)
    have hgo : fo_WI B (if fo_hasF r0 c f = true then fo_merge f σ else σ).1 ∧ fo_SI (if fo_hasF r0 c f = true then fo_merge f σ else σ).1 ∧ 3 ≤ (if fo_hasF r0 c f = true then fo_merge f σ else σ).1 (192 + c) ∧ ∀ g, f + 1 ≤ g → g < 6 → fo_hasF (if fo_hasF r0 c f = true then fo_merge f σ else σ).1 c g = fo_hasF r0 c g := by
      by_cases hm : fo_hasF r0 c f = true
      · rw [if_pos hm]
        have hfr := s.free h
        obtain ⟨l1, l2, l3⟩ := fo_merge_log hf6 hB hfr h hc hk
        refine ⟨fo_WI_merge hf6 hB hfr h, fo_SI_merge hf6 hB h s (fo_hasF_ex h hc (by rw [h1 f (Nat.le_refl _) hf6]; exact hm)), by rw [l1]; exact hk, fun g hg1 hg2 => ?_⟩
        rw [fo_hasF_merge hf6 hB hfr h hc hk (by omega)]
        exact h1 g (by omega) hg2
      · rw [if_neg hm]
        exact ⟨h, s, hk, fun g hg1 hg2 => h1 g (by omega) hg2⟩
    have := ih (f + 1) (K + 6) _ _ (by omega) hgo.1 hgo.2.1 hgo.2.2.1 hgo.2.2.2 (by omega) (by omega) hstep
    rw [show K + ((n + 1 : Nat) : Int) * 6 = K + 6 + (n : Int) * 6 by omega]
    exact this
theorem fc_rn {b : Nat} {k : Int} : ∀ (n i : Nat) (M : ax_M), i + n ≤ 16 → fo_cr b (fo_fold (fz_rn b k) n i M) = fun j => if 208 + i ≤ j ∧ j < 208 + i + n ∧ fo_cr b M (j - 16) = k then ax_wr (fo_cr b M j - 1) else fo_cr b M j := by
  intro n
  induction n with
  | zero => intro i M _; rw [fo_fold_z]; funext j; rw [if_neg (by omega)]
  | succ n ih =>
    intro i M hi
    rw [fo_fold_s, ih (i + 1) _ (by omega)]
    have e1 : fo_cr b M (192 + i) = M (b + 4) i := fo_dKd (by omega)
    have e2 : fo_cr b M (208 + i) = M (b + 5) i := fo_dOw (by omega)
    have hs : fo_cr b (fz_rn b k i M) = if fo_cr b M (192 + i) = k then fo_u (fo_cr b M) (208 + i) (ax_wr (fo_cr b M (208 + i) - 1)) else fo_cr b M := by
      unfold fz_rn
      by_cases hh : M (b + 4) i = k
      · rw [if_neg (fun h => h hh), e1, if_pos hh, fo_cr_O (by omega), e2]
      · rw [if_pos hh, e1, if_neg hh]
    rw [hs]
    funext j
    by_cases hh : fo_cr b M (192 + i) = k
    · rw [if_pos hh]
      by_cases hj : j = 208 + i
      · subst hj
        rw [if_neg (by omega), fo_u_s, show 208 + i - 16 = 192 + i by omega, if_pos ⟨by omega, by omega, hh⟩]
      · rw [fo_u_o hj]
        by_cases hr : 208 + (i + 1) ≤ j ∧ j < 208 + (i + 1) + n
        · rw [fo_u_o (by omega)]
          by_cases hk : fo_cr b M (j - 16) = k
          · rw [if_pos ⟨hr.1, hr.2, hk⟩, if_pos ⟨by omega, by omega, hk⟩]
          · rw [if_neg (fun h => hk h.2.2), if_neg (fun h => hk h.2.2)]
        · rw [if_neg (fun h => hr ⟨h.1, h.2.1⟩), if_neg (fun h => by omega)]
    · rw [if_neg hh]
      by_cases hj : j = 208 + i
      · subst hj
        rw [if_neg (by omega), show 208 + i - 16 = 192 + i by omega, if_neg (fun h => hh h.2.2)]
      · by_cases hr : 208 + (i + 1) ≤ j ∧ j < 208 + (i + 1) + n
        · by_cases hk : fo_cr b M (j - 16) = k
          · rw [if_pos ⟨hr.1, hr.2, hk⟩, if_pos ⟨by omega, by omega, hk⟩]
          · rw [if_neg (fun h => hk h.2.2), if_neg (fun h => hk h.2.2)]
        · rw [if_neg (fun h => hr ⟨h.1, h.2.1⟩), if_neg (fun h => by omega)]
theorem fz_rn_f {b : Nat} {k : Int} {f : Nat} : ∀ (n i : Nat) (M : ax_M), fo_fold (fz_rn b k) n i M b f = M b f := by
  intro n
  induction n with
  | zero => intro i M; rw [fo_fold_z]
  | succ n ih =>
    intro i M
    rw [fo_fold_s, ih]
    unfold fz_rn
    split
    · rfl
    · rw [ax_up_ne (by omega)]
theorem rl_clear {b : Nat} {K B k : Int} {M : ax_M} {σ : fo_S} {r0 : fo_R} {w : Prop} {x : Int} (hB : 0 ≤ B) (hk : k = 3 ∨ k = 4) (hW : fo_WI B σ.1) (s : fo_SI σ.1) (hf : 0 ≤ fo_blk σ.1 k 0) (ha : fo_cr b M = σ.1 → x = k) (hK0 : 100 ≤ K) (hK : K + 37 ≤ 1000000) (h : fo_RL b K M σ r0 w) : fo_RL b (K + 37) (f_X0_clearFirst b x M).2 (fo_clear k σ) r0 w ∧ (fo_cr b M = σ.1 → (f_X0_clearFirst b x M).1 = f_J_bitCount (fo_fi σ.1 (fo_blk σ.1 k 0).toNat) (f_X0_clearFirst b x M).2) := by
  obtain ⟨c, ec, hc, h1, h2⟩ := (fo_first_log (k := k) s (by omega)).resolve_left (fun e => by rw [e] at hf; omega)
  obtain ⟨q1, q2, q3, q4, q5, q6⟩ := fo_clear_ok hB hW s (by omega) ec hc h1 h2
  by_cases hcr : fo_cr b M = σ.1
  · have hx := ha hcr
    subst hx
    have efi : f_X0_foldersIn b (c : Int) (f_X0_latestIn b (c : Int) M) M = fo_fi σ.1 c := by
      rw [fc_foldersIn hc (by rw [hcr]; exact hW.pg) (by rw [hcr]; exact hW.kd) (by rw [hcr]; exact hW.em) (by rw [hcr]; exact hW.on), hcr]
    have eM : f_X0_clearFirst b x M = (f_J_bitCount (fo_fi σ.1 c) (fo_fold (fz_rn b x) 16 0 (f_X0_wipe b (c : Int) (fo_fold (fz_cl b (fo_fi σ.1 c)) 6 0 M))), fo_fold (fz_rn b x) 16 0 (f_X0_wipe b (c : Int) (fo_fold (fz_cl b (fo_fi σ.1 c)) 6 0 M))) := by
      have e : f_X0_clearFirst b x M = f_X0_clearFirst_J12 b x M := by
        unfold f_X0_clearFirst
        rcases hk with e | e
        · rw [if_pos e]
        · rw [if_neg (by omega), if_pos e]
      rw [e]
      unfold f_X0_clearFirst_J12
      simp only [ax_bd]
      rw [fc_owned, hcr, ec, if_pos (by omega), efi, fz_clearL, fz_renL]
    rw [eM]
    refine ⟨?_, fun _ => by rw [ec, fo_t0]⟩
    have a1 := rl_clr (B := B) (r0 := σ.1) (w3 := fo_fi σ.1 c) hB hc (fun f hf => fo_fi_bit hW.pg hc (by omega)) 6 0 K M σ (by omega) hW s (by omega) (fun g _ _ => rfl) hK0 (by omega) h
    have a2 := rl_wipeN (x := (c : Int)) hc (fun _ => rfl) (q3.wi c hc) (q3.ct 266 (by omega) (by omega)) (by omega) (by omega) a1
    unfold fo_clear
    rw [ec, fo_t0]
    have a3 : fo_RL b (K + ((6 : Nat) : Int) * 6 + 1) (fo_fold (fz_rn b x) 16 0 (f_X0_wipe b (c : Int) (fo_fold (fz_cl b (fo_fi σ.1 c)) 6 0 M))) (fo_wipe c (fo_clr σ.1 c 6 0 σ)) r0 w := by
      refine fo_RL_o (σ := fo_wipeN c (fo_clr σ.1 c 6 0 σ)) a2 (fo_Dz.fold (c := 0) (by omega) (fun i M => (fz_rnz i M).1) 16 0 _) (fz_rn_f 16 0 _) (fz_rn_f 16 0 _) (fun j hj => ?_) (fun hc' => ?_) (by omega)
      · simp only [fo_wipeN]
        rw [fo_cnt_o (by omega), fo_cnt_o (by omega)]
        simp only [fo_wn, fo_wp]
        rw [if_pos hj, if_pos hj]
      · rw [fc_rn 16 0 _ (by omega)]
        generalize hρ : (fo_clr σ.1 c 6 0 σ).1 = ρ at q3 q4 q5 q6
        have hcc : fo_cr b (f_X0_wipe b (c : Int) (fo_fold (fz_cl b (fo_fi σ.1 c)) 6 0 M)) = fo_cnt 266 (fo_wn c ρ) := by rw [hc', ← hρ]; rfl
        rw [hcc]
        funext j
        by_cases hj : 208 ≤ j ∧ j < 224
        · obtain ⟨i, rfl⟩ : ∃ i, j = 208 + i := ⟨j - 208, by omega⟩
          have hi : i < 16 := by omega
          rw [fo_cnt_o (by omega), fo_cnt_o (by omega), fo_cnt_o (by omega), fo_wp_ow hi, show 208 + i - 16 = 192 + i by omega]
          have w1 : fo_wn c ρ (192 + i) = if i = c then 0 else ρ (192 + i) := by
            simp only [fo_wn]
            rw [if_neg (by omega)]
            by_cases e : i = c
            · rw [if_pos (by omega), if_pos e]
            · rw [if_neg (by omega), if_neg (by omega), if_neg (by omega), if_neg e]
          have w2 : fo_wn c ρ (208 + i) = if i = c then 0 else ρ (208 + i) := by
            simp only [fo_wn]
            rw [if_neg (by omega), if_neg (by omega)]
            by_cases e : i = c
            · rw [if_pos (by omega), if_pos e]
            · rw [if_neg (by omega), if_neg (by omega), if_neg e]
          rw [w1, w2]
          by_cases e : i = c
          · rw [if_pos e, if_pos e, if_pos e, if_neg (fun h => by omega)]
          · rw [if_neg e, if_neg e, if_neg e]
            by_cases e2 : ρ (192 + i) = x
            · have hlo := q4.lo i hi (by omega)
              have hlm := q3.ow i hi
              have hpos : 0 < ρ (208 + i) := by
                by_cases hz : ρ (208 + i) = 0
                · exact absurd (q4.lu i c hi hc (by omega) (by omega) (by omega)) e
                · omega
              rw [if_pos ⟨by omega, by omega, e2⟩, if_pos ⟨by omega, by omega, by omega⟩, ax_wr_id (by omega) (by omega)]
            · rw [if_neg (fun h => e2 h.2.2), if_neg (fun h => e2 (by rw [h.2.1, q5]))]
        · rw [if_neg (fun h => hj ⟨by omega, by omega⟩)]
          have e : fo_wn c ρ j = fo_wp c ρ j := by
            simp only [fo_wn, fo_wp]
            grind (splits := 20)
          unfold fo_cnt
          rw [fo_u_eq, fo_u_eq, e]
          have e6 : fo_wn c ρ 266 = fo_wp c ρ 266 := by
            simp only [fo_wn, fo_wp]
            grind (splits := 20)
          rw [e6]
    exact a3.up (by omega)
  · exact ⟨fo_RL_ne h hcr fz_clear.1 hK (fo_Tr_clear h.1) fo_clear_ex, fun h' => absurd h' hcr⟩
