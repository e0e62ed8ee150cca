/-! ===== what a write of the class leaves, without a limit of steps and with one ===== -/
theorem fo_ap_same : ∀ (t : List fo_T) (r q : fo_R), (∀ j, j < 192 → r j = q j) → ∀ j, j < 192 → fo_ap r t j = fo_ap q t j := by
  intro t
  induction t with
  | nil => intro r q h j hj; exact h j hj
  | cons s t ih =>
    intro r q h j hj
    refine ih (fo_ap1 r s) (fo_ap1 q s) (fun k hk => ?_) j hj
    unfold fo_ap1
    split
    · simp only [fo_u_eq]
      rw [h k hk]
    · dsimp only
      rw [h k hk]
section FOCW
variable {a b p : Nat} {v : Int} {M : ax_M} {r : fo_R} {ev : fo_R → Int}
theorem rl_writeU (hab : b + 11 < a) (hp : p < 24) (hv : 0 ≤ v ∧ v < 100) (hr : fo_cr b M = r) (hI : fo_I r) (hclk : r 270 < 2147483647) (hlim : M b 12 = 1073741824) (hw : fo_Wv a b ev M) :
    (f_X0_write b (p : Int) v (a : Int) M).1 ∧ fo_Fw b a M (f_X0_write b (p : Int) v (a : Int) M).2.2 ∧ fo_cr b (f_X0_write b (p : Int) v (a : Int) M).2.2 = (fo_write ev p v r).1 ∧
    (f_X0_write b (p : Int) v (a : Int) M).2.2 b 11 = ((fo_write ev p v r).2.length : Int) ∧ (f_X0_write b (p : Int) v (a : Int) M).2.1 = (fo_leaf p (fo_pre p r, [])).2.1 / 4 ∧
    fo_Wf b ev p v r (fo_leaf p (fo_pre p r, [])).2.1 (f_X0_write b (p : Int) v (a : Int) M).2.2 ∧ (f_X0_write b (p : Int) v (a : Int) M).2.2 b 15 = (fo_leaf p (fo_pre p r, [])).1 := by
  obtain ⟨h1, h2, h3, h4⟩ := rl_writeT hab hp hv hr hI hclk (Or.inl hlim) hw
  obtain ⟨k1, k2, k3⟩ := h4 hlim
  have e12 : (f_X0_write b (p : Int) v (a : Int) M).2.2 b 12 = 1073741824 := by rw [h2.2.2 12 (Or.inr (Or.inl rfl)), hlim]
  have hlen := lq_write (ev := ev) (v := v) hp hI
  generalize f_X0_write b (p : Int) v (a : Int) M = R at h1 h2 h3 k1 k2 k3 e12 ⊢
  obtain ⟨_, h | ⟨g1, g2, _⟩⟩ := h3
  · refine ⟨h1, h2, h.1.2.1, ?_, k1, k2, k3⟩
    have e0 : fo_r0 p r 300 = 0 := by
      unfold fo_r0
      rw [fo_u_s]
    rw [h.2.1, e0]
    have : ((fo_write ev p v r).2.length : Int) ≤ 49 := by omega
    rw [ax_wr_id (by omega) (by omega)]
    omega
  · omega
theorem rl_writeC (hab : b + 11 < a) (hp : p < 24) (hv : 0 ≤ v ∧ v < 100) (hr : fo_cr b M = r) (hI : fo_I r) (hclk : r 270 < 2147483647) (hlim : 0 ≤ M b 12 ∧ M b 12 ≤ 99) (hw : fo_Wv a b ev M) :
    (f_X0_write b (p : Int) v (a : Int) M).1 ∧ fo_Fw b a M (f_X0_write b (p : Int) v (a : Int) M).2.2 ∧ ∀ j, j < 192 → fo_cr b (f_X0_write b (p : Int) v (a : Int) M).2.2 j = fo_ap r ((fo_write ev p v r).2.take (M b 12).toNat) j := by
  obtain ⟨h1, h2, h3, _⟩ := rl_writeT hab hp hv hr hI hclk (Or.inr hlim) hw
  have e12 : (f_X0_write b (p : Int) v (a : Int) M).2.2 b 12 = M b 12 := h2.2.2 12 (Or.inr (Or.inl rfl))
  generalize f_X0_write b (p : Int) v (a : Int) M = R at h1 h2 h3 e12 ⊢
  refine ⟨h1, h2, fun j hj => ?_⟩
  have hs : ∀ j, j < 192 → fo_r0 p r j = r j := fun j hj => by
    unfold fo_r0
    rw [fo_u_o (by omega), fo_pre_o hp (by omega) (by omega)]
  rw [← fo_ap_same _ _ _ hs j hj]
  obtain ⟨ht, h | ⟨g1, g2, h | h⟩⟩ := h3
  · omega
  · rw [h.2.2.1, ht j hj, List.take_of_length_le (by omega)]
  · rw [← e12]
    exact h.2.2.2 j hj
theorem rl_writeC11 (hab : b + 11 < a) (hp : p < 24) (hv : 0 ≤ v ∧ v < 100) (hr : fo_cr b M = r) (hI : fo_I r) (hclk : r 270 < 2147483647) (hlim : 0 ≤ M b 12 ∧ M b 12 ≤ 99) (hw : fo_Wv a b ev M) :
    0 ≤ (f_X0_write b (p : Int) v (a : Int) M).2.2 b 11 ∧ (f_X0_write b (p : Int) v (a : Int) M).2.2 b 11 ≤ 160 := by
  obtain ⟨h1, h2, h3, _⟩ := rl_writeT hab hp hv hr hI hclk (Or.inr hlim) hw
  have e12 : (f_X0_write b (p : Int) v (a : Int) M).2.2 b 12 = M b 12 := h2.2.2 12 (Or.inr (Or.inl rfl))
  generalize f_X0_write b (p : Int) v (a : Int) M = R at h1 h2 h3 e12 ⊢
  obtain ⟨ht, h | ⟨g1, g2, h | h⟩⟩ := h3
  · have := h.1.1
    omega
  · have := h.1
    have := h.2.1
    omega
  · have := h.1
    have := h.2.1
    omega
end FOCW
