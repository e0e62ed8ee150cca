/-! ===== the class's write is the picture's ===== -/
theorem fc_room {b : Nat} {k B : Int} {M : ax_M} (hk : 3 ≤ k) (hW : fo_WI B (fo_cr b M)) (s : fo_SI (fo_cr b M)) : f_X0_roomInLogs b k M = fo_room (fo_cr b M) k := by
  unfold f_X0_roomInLogs
  simp only [ax_bd]
  rw [fc_howMany, fc_owned]
  unfold fo_room
  by_cases hm : fo_many (fo_cr b M) k ≤ 0
  · rw [if_pos hm]
    rcases fo_blk_spec (fo_cr b M) k (fo_many (fo_cr b M) k - 1) with ⟨e, _⟩ | ⟨c, e, hc, a1, a2⟩
    · rw [if_pos e]
    · have hlo := s.lo c hc (by omega)
      rw [a1, a2] at hlo
      generalize fo_many (fo_cr b M) k = m at *
      omega
  · rw [if_neg hm]
    obtain ⟨c, hc, a1, a2⟩ := s.ls k (fo_many (fo_cr b M) k - 1) hk (by generalize fo_many (fo_cr b M) k = m at *; omega) (by generalize fo_many (fo_cr b M) k = m at *; omega)
    have ec : fo_blk (fo_cr b M) k (fo_many (fo_cr b M) k - 1) = (c : Int) := fo_blk_of hc a1 a2 (fun d hd b1 b2 => s.lu d c hd hc (by omega) (by rw [a1, b1]) (by rw [a2, b2]))
    obtain ⟨f1, _, _⟩ := fo_fill_spec hW.pg hc (s.cg c hc (by omega))
    rw [ec, fc_filled' hc hW.pg, fo_t0, if_neg (by omega)]
    generalize fo_fill (fo_cr b M) c = n at *
    by_cases hn : n = 4
    · rw [if_neg (by omega), if_neg (by omega)]
    · rw [if_pos (by omega), if_pos (by omega)]
      omega
section FOW
variable {b : Nat} {K : Int} {M N : ax_M} {σ : fo_S} {r0 : fo_R} {w : Prop}
/-- what lies outside the row -/
theorem fo_RL_b {i : Nat} {v : Int} (hi : i ≠ 11 ∧ i ≠ 12 ∧ i ≠ 13) (hK : K ≤ 1000000) (h : fo_RL b K M σ r0 w) : fo_RL b K (ax_up M b i v) σ r0 w := by
  have e := fo_RL_o (N := ax_up M b i v) (r' := σ.1) h ⟨by rw [fo_up_at, fo_u_o (by omega)], fun _ _ _ => ⟨by rw [fo_up_at, fo_u_o (by omega)]; omega, by rw [fo_up_at, fo_u_o (by omega)]; omega, fun j hj => by rw [fo_cr_o (Or.inl (Nat.le_refl _))]⟩⟩ (by rw [fo_up_at, fo_u_o (by omega)]) (by rw [fo_up_at, fo_u_o (by omega)]) (fun j _ => rfl) (fun hc => by rw [fo_cr_o (Or.inl (Nat.le_refl _)), hc]) hK
  exact e
theorem fo_cr_eqM (h : ∀ s, b ≤ s → s ≤ b + 9 → N s = M s) : fo_cr b N = fo_cr b M := fo_cr_same (fun k h1 h2 => h _ (by omega) (by omega))
theorem fo_RL_e (h : ∀ s, b ≤ s → s ≤ b + 9 → N s = M s) (g : fo_RL b K M σ r0 w) : fo_RL b K N σ r0 w := by
  unfold fo_RL fo_Lv fo_Dd at g ⊢
  rw [fo_cr_eqM h, h b (by omega) (by omega)]
  exact g
end FOW
/-! what a write touches -/
def fo_Fw (b a : Nat) (M N : ax_M) : Prop := (∀ s, s < b ∨ b + 9 < s → s ≠ b + 11 → s ≠ a → s ≠ a + 2 → N s = M s) ∧ (∀ f, f ≠ 3 → N a f = M a f) ∧ ∀ f, f < 11 ∨ f = 12 ∨ 17 < f → N b f = M b f
def fw_Z (b a : Nat) (c : Int) (M N : ax_M) : Prop := fo_Dz b c M N ∧ fo_Fw b a M N
theorem fw_tr {b a : Nat} {c d e : Int} {M N O : ax_M} (g : fw_Z b a d N O) (h : fw_Z b a c M N) (hc : 0 ≤ d) (he : c + d ≤ e) : fw_Z b a e M O :=
  ⟨h.1.tr g.1 hc he, fun s h1 h2 h3 h4 => (g.2.1 s h1 h2 h3 h4).trans (h.2.1 s h1 h2 h3 h4), fun f h1 => (g.2.2.1 f h1).trans (h.2.2.1 f h1), fun f h1 => (g.2.2.2 f h1).trans (h.2.2.2 f h1)⟩
theorem fw_rf {b a : Nat} {c : Int} {M : ax_M} (h : 0 ≤ c) : fw_Z b a c M M := ⟨fo_Dz.rf h, fun _ _ _ _ _ => rfl, fun _ _ => rfl, fun _ _ => rfl⟩
theorem fw_of {b a : Nat} {c : Int} {M N : ax_M} (hab : b + 11 < a) (h : fz_Z b c M N) : fw_Z b a c M N :=
  ⟨h.1, fun s h1 _ _ _ => h.2.1 s h1, fun f _ => by rw [h.2.1 a (by omega)], fun f h1 => h.2.2 f (by omega) (by omega) (by omega)⟩
theorem fw_b {b a i : Nat} {M : ax_M} {v : Int} (hab : b + 11 < a) (hi : 13 ≤ i ∧ i ≤ 17) : fw_Z b a 0 M (ax_up M b i v) :=
  ⟨⟨by rw [fo_up_at, fo_u_o (by omega)], fun _ _ _ => ⟨by rw [fo_up_at, fo_u_o (by omega)]; omega, by rw [fo_up_at, fo_u_o (by omega)]; omega, fun j hj => by rw [fo_cr_o (Or.inl (Nat.le_refl _))]⟩⟩,
   fun s h1 _ _ _ => ax_up_ne (by omega), fun f _ => by rw [ax_up_ne (by omega)], fun f h1 => by rw [fo_up_at, fo_u_o (by omega)]⟩
theorem fw_e {b a : Nat} {M N : ax_M} (hab : b + 11 < a) (h : ∀ s, s ≠ b + 11 → s ≠ a → s ≠ a + 2 → N s = M s) (h3 : ∀ f, f ≠ 3 → N a f = M a f) : fw_Z b a 0 M N := by
  have e : fo_cr b N = fo_cr b M := fo_cr_eqM (fun s h1 h2 => h s (by omega) (by omega) (by omega))
  have eb : N b = M b := h b (by omega) (by omega) (by omega)
  exact ⟨⟨by rw [eb], fun _ _ _ => ⟨by rw [eb]; omega, by rw [eb]; omega, fun j _ => by rw [e]⟩⟩, fun s _ h2 h4 h5 => h s h2 h4 h5, h3, fun f _ => by rw [eb]⟩
theorem fz_things {b : Nat} {M : ax_M} : ∀ s, s ≠ b + 11 → (f_X0_thingsNow b M) s = M s := by
  intro s hs
  unfold f_X0_thingsNow
  simp only [ax_bd]
  rw [ax_up_ne hs, ax_up_ne hs, ax_up_ne hs, ax_up_ne hs, ax_up_ne hs, ax_up_ne hs]
/-- the rule is worth ev -/
def fo_Wv (a b : Nat) (ev : fo_R → Int) (M : ax_M) : Prop := ∀ N : ax_M, N a 1 = M a 1 → N (a + 1) = M (a + 1) → (f_X1_worth (a : Int) 6 (b + 11) N).1 ∧ (∀ s, s ≠ a → s ≠ a + 2 → (f_X1_worth (a : Int) 6 (b + 11) N).2.2 s = N s) ∧ (∀ f, f ≠ 3 → (f_X1_worth (a : Int) 6 (b + 11) N).2.2 a f = N a f) ∧ ∀ t : fo_R, (∀ i, i < 6 → N (b + 11) i = t i) → (f_X1_worth (a : Int) 6 (b + 11) N).2.1 = ev t
theorem fw_Wv {a b : Nat} {c : Int} {ev : fo_R → Int} {M N : ax_M} (hab : b + 11 < a) (h : fw_Z b a c M N) (hw : fo_Wv a b ev M) : fo_Wv a b ev N := fun O h1 h2 => hw O (by rw [h1, h.2.2.1 1 (by omega)]) (by rw [h2, h.2.1 (a + 1) (by omega) (by omega) (by omega) (by omega)])
theorem fz_J301 {a b : Nat} {j8 : Int} {ev : fo_R → Int} {M : ax_M} (hab : b + 11 < a) (hw : fo_Wv a b ev M) : (f_X0_write_J301 b (a : Int) j8 M).1 ∧ fw_Z b a 5 M (f_X0_write_J301 b (a : Int) j8 M).2.2 := by
  unfold f_X0_write_J301
  simp only [ax_bd]
  have z1 : fw_Z b a 0 M (ax_up M b 14 (if 0 < j8 then j8 else 0)) := fw_b hab (by omega)
  have z2 := fw_tr (fw_of hab (fz_count (x := 1))) z1 (by omega) (Int.le_refl _)
  generalize f_X0_countOne b 1 (ax_up M b 14 (if 0 < j8 then j8 else 0)) = M31 at z2 ⊢
  split
  · exact ⟨trivial, fw_tr (fw_b hab (by omega)) z2 (by omega) (by omega)⟩
  · have z3 : fw_Z b a 0 M31 (f_X0_thingsNow b M31) := fw_e hab (fun s h1 _ _ => fz_things s h1) (fun f _ => by rw [fz_things a (by omega)])
    have z4 := fw_tr z3 z2 (by omega) (Int.le_refl _)
    generalize f_X0_thingsNow b M31 = M37 at z4 ⊢
    obtain ⟨w1, w2, w3, w4⟩ := fw_Wv hab z4 hw M37 rfl rfl
    have z5 : fw_Z b a 0 M37 (f_X1_worth (a : Int) 6 (b + 11) M37).2.2 := fw_e hab (fun s _ h1 h2 => w2 s h1 h2) w3
    have z6 := fw_tr z5 z4 (by omega) (Int.le_refl _)
    generalize f_X1_worth (a : Int) 6 (b + 11) M37 = y at w1 z6 ⊢
    unfold ax_rc
    dsimp only
    split
    · exact ⟨⟨w1, trivial⟩, fw_tr (fw_b hab (by omega)) z6 (by omega) (by omega)⟩
    · have z7 := fw_tr (fw_of hab (fz_level (M := y.2.2))) z6 (by omega) (e := 5) (by omega)
      split
      · exact ⟨⟨w1, trivial⟩, fw_tr (fw_b hab (by omega)) z7 (by omega) (by omega)⟩
      · exact ⟨⟨w1, trivial⟩, fw_tr (fw_b hab (by omega)) z7 (by omega) (by omega)⟩
