/-! ===== the class's write, from the count of (6) on ===== -/
section FOX
variable {b a : Nat} {K : Int} {M N : ax_M} {σ : fo_S} {r0 : fo_R} {w : Prop}
theorem fo_RL_live (h : fo_RL b K M σ r0 w) (hl : M b 12 = 1073741824 ∨ M b 11 ≤ M b 12) : fo_Lv b M σ w := by
  obtain ⟨_, h | ⟨h1, h2, h | h⟩⟩ := h
  · exact h.1.2
  · exact h.2.2
  · have := h.1
    omega
theorem fz_count_b {x : Int} : (f_X0_countOne b x M) b = M b := by
  unfold f_X0_countOne
  repeat' split
  all_goals first | rfl | (simp only [ax_bd]; rw [ax_up_ne (by omega)])
theorem fo_wrL_no {ev : fo_R → Int} {p : Nat} {v : Int} {r : fo_R} (h : fo_wrL ev p v r = false) : fo_write ev p v r = fo_wr2 p v r := by
  unfold fo_write
  rw [if_neg (by rw [h]; decide)]
theorem fo_wrL_yes {ev : fo_R → Int} {p : Nat} {v : Int} {r : fo_R} (h : fo_wrL ev p v r = true) : fo_write ev p v r = fo_level (fo_wr2 p v r) := by
  unfold fo_write
  rw [if_pos h]
theorem fo_write_cases {ev : fo_R → Int} {p : Nat} {v : Int} {r : fo_R} : fo_write ev p v r = fo_wr2 p v r ∨ fo_write ev p v r = fo_level (fo_wr2 p v r) := by
  unfold fo_write
  split
  · exact Or.inr rfl
  · exact Or.inl rfl
/-- what a write leaves in the fields of the class, where nothing is cut -/
def fo_Wf (b : Nat) (ev : fo_R → Int) (p : Nat) (v : Int) (r : fo_R) (l : Int) (N : ax_M) : Prop :=
  N b 14 = l ∧ N b 16 = (if fo_wrL ev p v r = true then 1 else 0) ∧ (fo_wrL ev p v r = true → N b 17 = fo_lvl (fo_wr2 p v r).1 1)
theorem fo_Wf_fin {ev : fo_R → Int} {p : Nat} {v l c x : Int} {r : fo_R} (h14 : N b 14 = l) (h15 : N b 15 = c) (hx : x = (if fo_wrL ev p v r = true then 1 else 0)) (h17 : fo_wrL ev p v r = true → N b 17 = fo_lvl (fo_wr2 p v r).1 1) : (ax_up N b 16 x) b 14 / 4 = l / 4 ∧ fo_Wf b ev p v r l (ax_up N b 16 x) ∧ (ax_up N b 16 x) b 15 = c := by
  refine ⟨by rw [fo_up_at, fo_u_o (by omega), h14], ⟨by rw [fo_up_at, fo_u_o (by omega), h14], by rw [fo_up_at, fo_u_s, hx], fun h => by rw [fo_up_at, fo_u_o (by omega)]; exact h17 h⟩, by rw [fo_up_at, fo_u_o (by omega), h15]⟩
theorem rl_J301 {p : Nat} {v B : Int} {r : fo_R} {ev : fo_R → Int} {j8 : Int} (hB : 0 ≤ B) (hab : b + 11 < a) (hW : fo_WI B (fo_wr2 p v r).1) (hw : fo_Wv a b ev M)
    (hth : ∀ N, fo_cr b N = (fo_wr2 p v r).1 → ∀ i, i < 6 → (f_X0_thingsNow b N) (b + 11) i = fo_things (fo_wr2 p v r).1 i) (hσ : fo_wr2 p v r = (fo_cnt 264 σ.1, σ.2)) (hct : 0 ≤ σ.1 264 ∧ σ.1 264 ≤ 99999) (hK0 : 100 ≤ K) (hK : K + 5 ≤ 1000000) (hrl : fo_RL b K M σ r0 False) :
    fo_RL b (K + 5) (f_X0_write_J301 b (a : Int) j8 M).2.2 (fo_write ev p v r) r0 False ∧ ((M b 12 = 1073741824 ∨ M b 11 ≤ M b 12) → (f_X0_write_J301 b (a : Int) j8 M).2.1 = (if 0 < j8 then j8 else 0) / 4 ∧ fo_Wf b ev p v r (if 0 < j8 then j8 else 0) (f_X0_write_J301 b (a : Int) j8 M).2.2 ∧ (f_X0_write_J301 b (a : Int) j8 M).2.2 b 15 = M b 15) := by
  have g1 : fo_RL b K (f_X0_countOne b 1 (ax_up M b 14 (if 0 < j8 then j8 else 0))) (fo_wr2 p v r) r0 False := by
    rw [hσ]
    exact rl_count (k := 1) (by omega) (by omega) hct (by omega) (fo_RL_b (by omega) (by omega) hrl)
  by_cases hl : M b 12 = 1073741824 ∨ M b 11 ≤ M b 12
  · have eb : (f_X0_countOne b 1 (ax_up M b 14 (if 0 < j8 then j8 else 0))) b = fo_u (M b) 14 (if 0 < j8 then j8 else 0) := by rw [fz_count_b, fo_up_at]
    have z2 : fw_Z b a 0 M (f_X0_countOne b 1 (ax_up M b 14 (if 0 < j8 then j8 else 0))) := fw_tr (fw_of hab (fz_count (x := 1))) (fw_b hab (by omega)) (by omega) (Int.le_refl _)
    unfold f_X0_write_J301
    simp only [ax_bd]
    generalize f_X0_countOne b 1 (ax_up M b 14 (if 0 < j8 then j8 else 0)) = M31 at g1 eb z2 ⊢
    generalize (if 0 < j8 then j8 else 0) = l at eb ⊢
    have e14 : M31 b 14 = l := by rw [eb, fo_u_s]
    have e15 : M31 b 15 = M b 15 := by rw [eb, fo_u_o (by omega)]
    have e12 : M31 b 12 = M b 12 := by rw [eb, fo_u_o (by omega)]
    have e11 : M31 b 11 = M b 11 := by rw [eb, fo_u_o (by omega)]
    obtain ⟨v1, v2⟩ := fo_RL_live g1 (by rw [e12, e11]; exact hl)
    have hwr : fo_wrL ev p v r = (decide ((∃ q ∈ (fo_wr2 p v r).2, 64 ≤ q.1) ∧ 0 < ev (fo_things (fo_wr2 p v r).1)) && fo_lvlOk (fo_wr2 p v r).1) := rfl
    split
    · rename_i h13
      have hno : fo_wrL ev p v r = false := by
        rw [hwr, decide_eq_false, Bool.false_and]
        rintro ⟨h1, _⟩
        exact (v2.mpr (Or.inr h1)) h13
      rw [fo_wrL_no hno]
      refine ⟨(fo_RL_b (by omega) (by omega) g1).up (by omega), fun _ => fo_Wf_fin e14 e15 (by rw [hno]; rfl) (fun h => by rw [hno] at h; exact absurd h (by decide))⟩
    · rename_i h13
      have hq : ∃ q ∈ (fo_wr2 p v r).2, 64 ≤ q.1 := (v2.mp h13).resolve_left id
      have t1 := hth M31 v1
      have z3 : fw_Z b a 0 M31 (f_X0_thingsNow b M31) := fw_e hab (fun s h1 _ _ => fz_things s h1) (fun f _ => by rw [fz_things a (by omega)])
      have g2 : fo_RL b K (f_X0_thingsNow b M31) (fo_wr2 p v r) r0 False := fo_RL_e (fun s h1 h2 => fz_things s (by omega)) g1
      have eb2 : (f_X0_thingsNow b M31) b = M31 b := fz_things b (by omega)
      have z4 := fw_tr z3 z2 (by omega) (Int.le_refl _)
      generalize f_X0_thingsNow b M31 = M37 at t1 z4 g2 eb2 ⊢
      obtain ⟨w1, w2, w3, w4⟩ := fw_Wv hab z4 hw M37 rfl rfl
      have ey := w4 _ t1
      have g3 : fo_RL b K (f_X1_worth (a : Int) 6 (b + 11) M37).2.2 (fo_wr2 p v r) r0 False := fo_RL_e (fun s h1 h2 => w2 s (by omega) (by omega)) g2
      have eb3 : (f_X1_worth (a : Int) 6 (b + 11) M37).2.2 b = M31 b := by rw [w2 b (by omega) (by omega), eb2]
      generalize f_X1_worth (a : Int) 6 (b + 11) M37 = y at w1 ey g3 eb3 ⊢
      unfold ax_rc
      dsimp only
      rw [ey]
      generalize hev : ev (fo_things (fo_wr2 p v r).1) = e at hwr ⊢
      split
      · rename_i h0
        have hno : fo_wrL ev p v r = false := by
          rw [hwr, decide_eq_false, Bool.false_and]
          rintro ⟨_, h1⟩
          omega
        rw [fo_wrL_no hno]
        refine ⟨(fo_RL_b (by omega) (by omega) g3).up (by omega), fun _ => fo_Wf_fin (by rw [eb3, e14]) (by rw [eb3, e15]) (by rw [hno]; rfl) (fun h => by rw [hno] at h; exact absurd h (by decide))⟩
      · rename_i h0
        have v3 := fo_RL_live g3 (by rw [eb3, e12, e11]; exact hl)
        obtain ⟨l1, l2⟩ := rl_level hB hW hK0 hK g3
        obtain ⟨l3, l4⟩ := l2 v3.1
        have zl := fz_level (b := b) (M := y.2.2)
        have el14 : (f_X0_level b y.2.2).2 b 14 = l := by rw [zl.2.2 14 (by omega) (by omega) (by omega), eb3, e14]
        have el15 : (f_X0_level b y.2.2).2 b 15 = M b 15 := by rw [zl.2.2 15 (by omega) (by omega) (by omega), eb3, e15]
        generalize f_X0_level b y.2.2 = z at l1 l3 l4 el14 el15 ⊢
        have hwr' : fo_wrL ev p v r = fo_lvlOk (fo_wr2 p v r).1 := by
          rw [hwr, decide_eq_true (⟨hq, by omega⟩), Bool.true_and]
        by_cases ok : fo_lvlOk (fo_wr2 p v r).1 = true
        · rw [if_pos ok] at l3 l4
          obtain ⟨g, f, q, p', _⟩ := fo_lvlOk_spec ok
          rw [if_neg (by omega)]
          have hyes : fo_wrL ev p v r = true := by rw [hwr', ok]
          rw [fo_wrL_yes hyes]
          refine ⟨fo_RL_b (by omega) (by omega) l1, fun _ => fo_Wf_fin el14 el15 (by rw [if_pos hyes]) (fun _ => l4)⟩
        · rw [if_neg ok] at l3
          rw [if_pos (by omega)]
          have hno : fo_wrL ev p v r = false := by rw [hwr']; exact Bool.eq_false_iff.mpr ok
          have elv : fo_level (fo_wr2 p v r) = fo_wr2 p v r := by
            unfold fo_level
            rw [if_neg ok]
          rw [fo_wrL_no hno]
          rw [elv] at l1
          refine ⟨fo_RL_b (by omega) (by omega) l1, fun _ => fo_Wf_fin el14 el15 (by rw [hno]; rfl) (fun h => by rw [hno] at h; exact absurd h (by decide))⟩
  · refine ⟨?_, fun h => absurd h hl⟩
    obtain ⟨ht0, h | ⟨h1, h2, h | h⟩⟩ := hrl
    · exact absurd (Or.inl h.1.1) hl
    · exact absurd (Or.inr h.2.1) hl
    · have hT := g1.1
      have hz := (fz_J301 (j8 := j8) hab hw).2.1
      have ex : (fo_wr2 p v r).2 = σ.2 := by rw [hσ]
      rcases fo_write_cases (ev := ev) (p := p) (v := v) (r := r) with e | e
      · rw [e]
        exact fo_RL_dd h1 h2 h hz hK hT ⟨[], by rw [ex]; simp⟩
      · rw [e]
        obtain ⟨t, et⟩ := fo_level_ex (σ := fo_wr2 p v r)
        exact fo_RL_dd h1 h2 h hz hK (fo_Tr_level hT) ⟨t, by rw [et, ex]⟩
end FOX
