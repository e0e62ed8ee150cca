/-! ===== a whole write keeps what holds ===== -/
def fo_I (r : fo_R) : Prop := 0 ≤ r 270 ∧ fo_WI (r 270) r ∧ fo_SI r
theorem fo_pre_o {p j : Nat} {r : fo_R} (hp : p < 24) (h0 : j ≠ 270) (h1 : j < 240 ∨ 264 ≤ j) : fo_pre p r j = r j := by
  unfold fo_pre
  rw [fo_u_o (by omega), fo_u_o h0]
theorem fo_pre_270 {p : Nat} {r : fo_R} (hp : p < 24) : fo_pre p r 270 = r 270 + 1 := by
  unfold fo_pre
  rw [fo_u_o (by omega), fo_u_s]
theorem fo_pre_keep {B : Int} {p : Nat} {r : fo_R} (hp : p < 24) (h : fo_WI B r) (s : fo_SI r) : fo_WI B (fo_pre p r) ∧ fo_SI (fo_pre p r) := by
  refine fo_keep (fun j h0 h1 => fo_pre_o hp h0 h1) (fun q hq => ?_) h s
  unfold fo_pre
  by_cases e : 240 + q = 240 + p
  · rw [e, fo_u_s]
    have := h.ht p hp
    split <;> omega
  · rw [fo_u_o e, fo_u_o (by omega)]
    exact h.ht q hq
/-- a row's upper end -/
def fo_Up (r0 r : fo_R) : Prop := ∀ j, 270 ≤ j → r j = r0 j
theorem fo_Up_cnt {w : Nat} {r0 r : fo_R} (hw : w < 270) (h : fo_Up r0 r) : fo_Up r0 (fo_cnt w r) := fun j hj => by rw [fo_cnt_o (by omega)]; exact h j hj
/-- what holds once the page lies in its leaf -/
theorem fo_wr1_ok {p : Nat} {v : Int} {r : fo_R} (hp : p < 24) (h : fo_I r) :
    fo_WI (r 270 + 1) (fo_wr1 p v r).2.2.1 ∧ fo_SI (fo_wr1 p v r).2.2.1 ∧ fo_Up (fo_pre p r) (fo_wr1 p v r).2.2.1 ∧ (∃ l : Nat, (fo_wr1 p v r).2.1 = (l : Int) ∧ l < 64 ∧ ((fo_wr1 p v r).1 = 4 → (fo_wr1 p v r).2.2.1 (192 + l / 4) = 2 ∧ l % 4 = p % 4)) := by
  obtain ⟨h0, hW, hs⟩ := h
  obtain ⟨pW, pS⟩ := fo_pre_keep hp hW hs
  obtain ⟨l, el, q1, q2, q3, q4, q5⟩ := fo_leaf_ok (p := p) (σ := (fo_pre p r, [])) h0 hp pW pS
  have hl : l < 64 := q3.1
  unfold fo_wr1
  dsimp only
  rw [el, fo_t0]
  obtain ⟨w1, w2⟩ := fo_Rdy_put (v := v) h0 ⟨by omega, by omega⟩ q1 q2 q3
  exact ⟨w1, w2, fun j hj => by rw [fo_put_hi hl (by omega), q4 j hj], l, rfl, hl, fun e => by rw [fo_put_hi hl (by omega)]; exact q5 e⟩
theorem fo_wr2_ok {p : Nat} {v : Int} {r : fo_R} (hp : p < 24) (h : fo_I r) : fo_WI (r 270 + 1) (fo_wr2 p v r).1 ∧ fo_SI (fo_wr2 p v r).1 ∧ fo_Up (fo_pre p r) (fo_wr2 p v r).1 := by
  obtain ⟨w1, w2, w3, l, el, hl, h4⟩ := fo_wr1_ok (v := v) hp h
  have hB : 0 ≤ r 270 + 1 := by have := h.1; omega
  unfold fo_wr2
  split
  · rename_i e
    obtain ⟨hk, _⟩ := h4 e.1
    rcases fo_run_spec (fo_wr1 p v r).2.2.1 with ⟨er, g⟩ | ⟨b, er, hb, hkb⟩
    · exact absurd hk (g _ (by omega))
    · dsimp only
      unfold fo_seal
      rw [er, fo_t0]
      obtain ⟨hd, eo⟩ := fo_run_dst w1 w2 hb hkb
      obtain ⟨q1, q2⟩ := fo_WI_seal hB hd hkb w1 w2
      obtain ⟨k1, k2, k3⟩ := fo_seal_keep hB hb hkb w1 w2
      exact ⟨fo_WI_cnt (by omega) (by omega) q1, fo_SI_cnt (by omega) (by omega) q2, fo_Up_cnt (by omega) (fun j hj => by rw [k2 j hj]; exact w3 j hj)⟩
  · exact ⟨fo_WI_cnt (by omega) (by omega) w1, fo_SI_cnt (by omega) (by omega) w2, fo_Up_cnt (by omega) w3⟩
theorem fo_level_hi {B : Int} {j : Nat} {σ : fo_S} (hW : fo_WI B σ.1) (hj : 270 ≤ j) : (fo_level σ).1 j = σ.1 j := by
  unfold fo_level
  split
  · rename_i e
    obtain ⟨h, b, q, p, q1, p1, q2, p2, _⟩ := fo_lvlOk_spec e
    rw [q, p, fo_t0, fo_t0]
    exact (fo_level_pt q1 p1 q2 p2 hW).2.2.2.2.2.2.1 j (by omega) (by omega) (by omega)
  · rfl
theorem fo_write_ok {ev : fo_R → Int} {p : Nat} {v : Int} {r : fo_R} (hp : p < 24) (h : fo_I r) : fo_I (fo_write ev p v r).1 ∧ (fo_write ev p v r).1 270 = r 270 + 1 ∧ ∀ j, 271 ≤ j → (fo_write ev p v r).1 j = r j := by
  obtain ⟨w1, w2, w3⟩ := fo_wr2_ok (v := v) hp h
  have hB : 0 ≤ r 270 + 1 := by have := h.1; omega
  have k : fo_WI (r 270 + 1) (fo_write ev p v r).1 ∧ fo_SI (fo_write ev p v r).1 ∧ fo_Up (fo_pre p r) (fo_write ev p v r).1 := by
    unfold fo_write
    split
    · obtain ⟨l1, l2⟩ := fo_level_keep hB w1 w2
      exact ⟨l1, l2, fun j hj => by rw [fo_level_hi w1 hj, w3 j hj]⟩
    · exact ⟨w1, w2, w3⟩
  obtain ⟨k1, k2, k3⟩ := k
  have e : (fo_write ev p v r).1 270 = r 270 + 1 := by rw [k3 270 (by omega), fo_pre_270 hp]
  refine ⟨⟨by rw [e]; exact hB, by rw [e]; exact k1, k2⟩, e, fun j hj => by rw [k3 j (by omega), fo_pre_o hp (by omega) (by omega)]⟩
