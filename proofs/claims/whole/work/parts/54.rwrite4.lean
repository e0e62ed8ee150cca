/-! ===== the class's write, whole ===== -/
section FOZ
variable {b a : Nat} {K : Int} {M N : ax_M} {σ : fo_S} {r0 : fo_R} {w : Prop}
theorem fo_room_or {B k : Int} {r : fo_R} (hk : 3 ≤ k) (h : fo_WI B r) (s : fo_SI r) : fo_room r k = -1 ∨ 0 ≤ fo_room r k := by
  unfold fo_room
  by_cases hm : fo_many r k ≤ 0
  · rw [if_pos hm]; exact Or.inl rfl
  · rw [if_neg hm]
    obtain ⟨c, hc, a1, a2⟩ := s.ls k (fo_many r k - 1) hk (by generalize fo_many r k = m at *; omega) (by generalize fo_many r k = m at *; omega)
    have ec : fo_blk r k (fo_many r k - 1) = (c : Int) := fo_blk_of hc a1 a2 (fun d hd b1 b2 => s.lu d c hd hc (by omega) (by rw [a1, b1]) (by rw [a2, b2]))
    rw [ec]
    split
    · exact Or.inr (by omega)
    · exact Or.inl rfl
theorem rl_J252 {p : Nat} {v k : Int} {r : fo_R} {ev : fo_R → Int} {τ : fo_S} (hab : b + 11 < a) (hp : p < 24) (hI : fo_I r) (hw : fo_Wv a b ev M)
    (hth : ∀ N, fo_cr b N = (fo_wr2 p v r).1 → ∀ i, i < 6 → (f_X0_thingsNow b N) (b + 11) i = fo_things (fo_wr2 p v r).1 i) (ht : fo_leaf p (fo_pre p r, []) = (5, 4 * fo_free τ.1, (fo_take k (fo_many τ.1 k) τ.1, τ.2))) (hfr : 0 ≤ fo_free τ.1) (hK0 : 100 ≤ K) (hK : K + 12 ≤ 1000000)
    (hrl : fo_RL b K M τ r0 False) (h15 : M b 15 = 5) :
    fo_Wd b a (K + 12) 12 ev p v r r0 (4 * fo_free τ.1) 5 M (f_X0_write_J252 b (a : Int) (p : Int) v ((p % 4 : Nat) : Int) k M) := by
  unfold f_X0_write_J252
  simp only [ax_bd]
  have zt := fw_of hab (fz_take (b := b) (M := M) (k := k) (o := f_X0_howMany b k M))
  have eb : (f_X0_take b k (f_X0_howMany b k M) M).2 b = M b := fz_take_b
  have g := rl_take (b := b) (M := M) (k := k) (k' := k) (o := fo_many τ.1 k) (o' := f_X0_howMany b k M) hfr (fun hc => ⟨rfl, by rw [fc_howMany, hc]⟩) (by omega) hrl
  refine fo_Wd_up (rl_J268 (M := (f_X0_take b k (f_X0_howMany b k M) M).2) (t := (5, 4 * fo_free τ.1, (fo_take k (fo_many τ.1 k) τ.1, τ.2))) hab hp hI (fw_Wv hab zt hw) hth ht hK0 hK g (by rw [eb, h15]) (fun hl => ?_)) zt (by omega) (by omega) (Int.le_refl _)
  rw [eb] at hl
  have hv := fo_RL_live hrl hl
  rw [rl_take1 hv.1]
  dsimp only
  omega
theorem rl_J211 {p : Nat} {v k B : Int} {r : fo_R} {ev : fo_R → Int} (hB : 0 ≤ B) (hab : b + 11 < a) (hp : p < 24) (hI : fo_I r) (hw : fo_Wv a b ev M)
    (hth : ∀ N, fo_cr b N = (fo_wr2 p v r).1 → ∀ i, i < 6 → (f_X0_thingsNow b N) (b + 11) i = fo_things (fo_wr2 p v r).1 i) (hk : k = 3 ∨ k = 4) (hl1 : 1 ≤ σ.1 (268 + k.toNat)) (hW : fo_WI B σ.1) (s : fo_SI σ.1) (hx : fo_Hx ((p / 4 : Nat) : Int) σ.1)
    (ht : fo_leaf p (fo_pre p r, []) = (5, (fo_logA k σ).1, (fo_logA k σ).2)) (hK0 : 100 ≤ K) (hK : K + 49 ≤ 1000000)
    (hrl : fo_RL b K M σ r0 False) (hlv : M b 12 = 1073741824 ∨ M b 11 ≤ M b 12) (h15 : M b 15 = 5) :
    fo_Wd b a (K + 49) 49 ev p v r r0 (fo_logA k σ).1 5 M (f_X0_write_J211 b (a : Int) (p : Int) v ((p % 4 : Nat) : Int) k M) := by
  obtain ⟨hcr, _⟩ := fo_RL_live hrl hlv
  have hroom : f_X0_roomInLogs b k M = fo_room σ.1 k := by rw [fc_room (by omega) (by rw [hcr]; exact hW) (by rw [hcr]; exact s), hcr]
  unfold f_X0_write_J211
  simp only [ax_bd]
  rw [hroom, fc_howMany, hcr]
  have hA : fo_logA k σ = if 0 ≤ fo_room σ.1 k then (fo_room σ.1 k, σ) else (4 * fo_free (fo_logC k σ).1, (fo_take k (fo_many (fo_logC k σ).1 k) (fo_logC k σ).1, (fo_logC k σ).2)) := rfl
  rcases fo_room_or (k := k) (by omega) hW s with hr | hr
  · rw [if_neg (by omega)]
    rw [if_neg (by omega)] at hA
    rw [hA] at ht ⊢
    obtain ⟨w1, w2, w3, w4, w5⟩ := fo_logC_ok hB hk hl1 hW s
    have hfr := w2.free w1
    have lm := s.lm
    unfold fo_Lm at lm
    have hle : fo_many σ.1 k ≤ σ.1 (268 + k.toNat) := by
      rcases hk with e | e
      · subst e; exact lm.1
      · subst e; exact lm.2.1
    have elim : M (b + 8) (k - 3).toNat = σ.1 (268 + k.toNat) := by
      have e1 : fo_cr b M (271 + (k - 3).toNat) = M (b + 8) (k - 3).toNat := fo_dLi (by omega)
      rw [← e1, hcr]
      rcases hk with e | e <;> subst e <;> rfl
    have e2 : σ.1 (if k = 4 then 272 else 271) = σ.1 (268 + k.toNat) := by rcases hk with e | e <;> subst e <;> rfl
    rw [elim]
    by_cases hc : fo_many σ.1 k < σ.1 (268 + k.toNat)
    · rw [if_pos hc]
      have eC : fo_logC k σ = σ := by
        unfold fo_logC
        rw [e2, if_neg (by exact Int.ne_of_lt hc)]
      rw [eC] at ht hfr ⊢
      have q := rl_J252 (K := K) (M := M) (r0 := r0) hab hp hI hw hth ht hfr hK0 (by omega) hrl h15
      exact fo_Wd_up q (fw_rf (c := 0) (by omega)) (by omega) (by omega) (by omega)
    · rw [if_neg hc]
      have hem : fo_many σ.1 k = σ.1 (268 + k.toNat) := Int.le_antisymm hle (Int.not_lt.mp hc)
      have eC : fo_logC k σ = fo_clear k σ := by
        unfold fo_logC
        rw [e2, if_pos hem]
      obtain ⟨c, hc16, a1, a2⟩ := s.ls k 0 (by omega) (Int.le_refl 0) (by rw [hem]; omega)
      have ec : fo_blk σ.1 k 0 = (c : Int) := fo_blk_of hc16 a1 a2 (fun d hd b1 b2 => s.lu d c hd hc16 (by omega) (by omega) (by omega))
      rw [eC] at ht hfr ⊢
      obtain ⟨g1, _⟩ := rl_clear (x := k) hB hk hW s (by omega) (fun _ => rfl) hK0 (by omega) hrl
      have zc := fw_of hab (fz_clear (b := b) (M := M) (k := k))
      have q := rl_J252 (K := K + 37) (M := (f_X0_clearFirst b k M).2) (r0 := r0) hab hp hI (fw_Wv hab zc hw) hth ht hfr (by omega) (by omega) g1 (by rw [(fz_clear (b := b) (M := M) (k := k)).2.2 15 (by omega) (by omega) (by omega), h15])
      exact fo_Wd_up q zc (by omega) (by omega) (by omega)
  · rw [if_pos (by omega)]
    rw [if_pos hr] at hA
    rw [hA] at ht ⊢
    have q := rl_J268 (K := K) (M := M) (r0 := r0) (t := (5, fo_room σ.1 k, σ)) hab hp hI hw hth ht hK0 (by omega) hrl h15 (fun _ => rfl)
    exact fo_Wd_up q (fw_rf (c := 0) (by omega)) (by omega) (by omega) (by omega)
end FOZ
