/-! ===== what a store in the class's memory does to the row ===== -/
section FOMEM
variable {P V T K O W H L Y : Nat → Int}
theorem fo_dec_put {l : Nat} {p v s : Int} (hl : l < 64) (hp : p ≠ -1) : fo_dec (fo_u P l p) (fo_u V l v) (fo_u T l s) K O W H L Y = fo_u (fo_u (fo_u (fo_dec P V T K O W H L Y) l (p + 1)) (64 + l) v) (128 + l) s := by
  funext j
  simp only [fo_dec, fo_u]
  grind (splits := 20)
theorem fo_dec_wipe {b : Nat} : fo_dec (fun j => if j / 4 = b then -1 else P j) V T K O W H L Y = fun j => if j < 192 ∧ j % 64 / 4 = b then 0 else fo_dec P V T K O W H L Y j := by
  funext j
  simp only [fo_dec]
  grind (splits := 20)
theorem fo_dec_K {c : Nat} {k : Int} (hc : c < 16) : fo_dec P V T (fo_u K c k) O W H L Y = fo_u (fo_dec P V T K O W H L Y) (192 + c) k := by
  funext j
  simp only [fo_dec, fo_u]
  grind (splits := 20)
theorem fo_dec_O {c : Nat} {k : Int} (hc : c < 16) : fo_dec P V T K (fo_u O c k) W H L Y = fo_u (fo_dec P V T K O W H L Y) (208 + c) k := by
  funext j
  simp only [fo_dec, fo_u]
  grind (splits := 20)
theorem fo_dec_W {c : Nat} {k : Int} (hc : c < 16) : fo_dec P V T K O (fo_u W c k) H L Y = fo_u (fo_dec P V T K O W H L Y) (224 + c) k := by
  funext j
  simp only [fo_dec, fo_u]
  grind (splits := 20)
theorem fo_dec_H {c : Nat} {k : Int} (hc : c < 24) : fo_dec P V T K O W (fo_u H c k) L Y = fo_u (fo_dec P V T K O W H L Y) (240 + c) k := by
  funext j
  simp only [fo_dec, fo_u]
  grind (splits := 20)
theorem fo_dec_Y {c : Nat} {k : Int} (h0 : 1 ≤ c) (hc : c < 7) : fo_dec P V T K O W H L (fo_u Y c k) = fo_u (fo_dec P V T K O W H L Y) (263 + c) k := by
  funext j
  simp only [fo_dec, fo_u]
  grind (splits := 20)
theorem fo_dec_L {c : Nat} {k : Int} (hc : c < 3) : fo_dec P V T K O W H (fo_u L c k) Y = fo_u (fo_dec P V T K O W H L Y) (271 + c) k := by
  funext j
  simp only [fo_dec, fo_u]
  grind (splits := 20)
theorem fo_dec_Y0 {k : Int} : fo_dec P V T K O W H L (fo_u Y 0 k) = fo_u (fo_dec P V T K O W H L Y) 270 k := by
  funext j
  simp only [fo_dec, fo_u]
  grind (splits := 20)
end FOMEM
theorem fo_up_at {M : ax_M} {s i : Nat} {v : Int} : ax_up M s i v s = fo_u (M s) i v := by
  funext j
  simp [ax_up, fo_u]
theorem fo_upn {M : ax_M} {b i j c : Nat} {v : Int} (h : i ≠ j) : ax_up M (b + i) c v (b + j) = M (b + j) := ax_up_ne (by omega)
section FOUP
variable {b : Nat} {M : ax_M} {v : Int}
/-- a row is made of nine slots alone -/
theorem fo_cr_same {N : ax_M} (h : ∀ k, 1 ≤ k → k ≤ 9 → N (b + k) = M (b + k)) : fo_cr b N = fo_cr b M := by
  unfold fo_cr
  rw [h 1 (by omega) (by omega), h 2 (by omega) (by omega), h 3 (by omega) (by omega), h 4 (by omega) (by omega), h 5 (by omega) (by omega), h 6 (by omega) (by omega), h 7 (by omega) (by omega), h 8 (by omega) (by omega), h 9 (by omega) (by omega)]
theorem fo_cr_o {s i : Nat} (h : s ≤ b ∨ b + 9 < s) : fo_cr b (ax_up M s i v) = fo_cr b M := fo_cr_same (fun k h1 h2 => ax_up_ne (by omega))
theorem fo_cr_K {c : Nat} (hc : c < 16) : fo_cr b (ax_up M (b + 4) c v) = fo_u (fo_cr b M) (192 + c) v := by
  unfold fo_cr
  rw [fo_upn (i := 4) (j := 1) (by decide), fo_upn (i := 4) (j := 2) (by decide), fo_upn (i := 4) (j := 3) (by decide), fo_upn (i := 4) (j := 5) (by decide), fo_upn (i := 4) (j := 6) (by decide), fo_upn (i := 4) (j := 7) (by decide), fo_upn (i := 4) (j := 8) (by decide), fo_upn (i := 4) (j := 9) (by decide), fo_up_at, fo_dec_K hc]
theorem fo_cr_O {c : Nat} (hc : c < 16) : fo_cr b (ax_up M (b + 5) c v) = fo_u (fo_cr b M) (208 + c) v := by
  unfold fo_cr
  rw [fo_upn (i := 5) (j := 1) (by decide), fo_upn (i := 5) (j := 2) (by decide), fo_upn (i := 5) (j := 3) (by decide), fo_upn (i := 5) (j := 4) (by decide), fo_upn (i := 5) (j := 6) (by decide), fo_upn (i := 5) (j := 7) (by decide), fo_upn (i := 5) (j := 8) (by decide), fo_upn (i := 5) (j := 9) (by decide), fo_up_at, fo_dec_O hc]
theorem fo_cr_W {c : Nat} (hc : c < 16) : fo_cr b (ax_up M (b + 6) c v) = fo_u (fo_cr b M) (224 + c) v := by
  unfold fo_cr
  rw [fo_upn (i := 6) (j := 1) (by decide), fo_upn (i := 6) (j := 2) (by decide), fo_upn (i := 6) (j := 3) (by decide), fo_upn (i := 6) (j := 4) (by decide), fo_upn (i := 6) (j := 5) (by decide), fo_upn (i := 6) (j := 7) (by decide), fo_upn (i := 6) (j := 8) (by decide), fo_upn (i := 6) (j := 9) (by decide), fo_up_at, fo_dec_W hc]
theorem fo_cr_H {c : Nat} (hc : c < 24) : fo_cr b (ax_up M (b + 7) c v) = fo_u (fo_cr b M) (240 + c) v := by
  unfold fo_cr
  rw [fo_upn (i := 7) (j := 1) (by decide), fo_upn (i := 7) (j := 2) (by decide), fo_upn (i := 7) (j := 3) (by decide), fo_upn (i := 7) (j := 4) (by decide), fo_upn (i := 7) (j := 5) (by decide), fo_upn (i := 7) (j := 6) (by decide), fo_upn (i := 7) (j := 8) (by decide), fo_upn (i := 7) (j := 9) (by decide), fo_up_at, fo_dec_H hc]
theorem fo_cr_L {c : Nat} (hc : c < 3) : fo_cr b (ax_up M (b + 8) c v) = fo_u (fo_cr b M) (271 + c) v := by
  unfold fo_cr
  rw [fo_upn (i := 8) (j := 1) (by decide), fo_upn (i := 8) (j := 2) (by decide), fo_upn (i := 8) (j := 3) (by decide), fo_upn (i := 8) (j := 4) (by decide), fo_upn (i := 8) (j := 5) (by decide), fo_upn (i := 8) (j := 6) (by decide), fo_upn (i := 8) (j := 7) (by decide), fo_upn (i := 8) (j := 9) (by decide), fo_up_at, fo_dec_L hc]
theorem fo_cr_Y {c : Nat} (h0 : 1 ≤ c) (hc : c < 7) : fo_cr b (ax_up M (b + 9) c v) = fo_u (fo_cr b M) (263 + c) v := by
  unfold fo_cr
  rw [fo_upn (i := 9) (j := 1) (by decide), fo_upn (i := 9) (j := 2) (by decide), fo_upn (i := 9) (j := 3) (by decide), fo_upn (i := 9) (j := 4) (by decide), fo_upn (i := 9) (j := 5) (by decide), fo_upn (i := 9) (j := 6) (by decide), fo_upn (i := 9) (j := 7) (by decide), fo_upn (i := 9) (j := 8) (by decide), fo_up_at, fo_dec_Y h0 hc]
theorem fo_cr_Y0 : fo_cr b (ax_up M (b + 9) 0 v) = fo_u (fo_cr b M) 270 v := by
  unfold fo_cr
  rw [fo_upn (i := 9) (j := 1) (by decide), fo_upn (i := 9) (j := 2) (by decide), fo_upn (i := 9) (j := 3) (by decide), fo_upn (i := 9) (j := 4) (by decide), fo_upn (i := 9) (j := 5) (by decide), fo_upn (i := 9) (j := 6) (by decide), fo_upn (i := 9) (j := 7) (by decide), fo_upn (i := 9) (j := 8) (by decide), fo_up_at, fo_dec_Y0]
end FOUP
theorem fo_cr_put {b l : Nat} {M : ax_M} {p v s : Int} (hl : l < 64) (hp : p ≠ -1) : fo_cr b (ax_up (ax_up (ax_up M (b + 1) l p) (b + 2) l v) (b + 3) l s) = fo_u (fo_u (fo_u (fo_cr b M) l (p + 1)) (64 + l) v) (128 + l) s := by
  have e1 : ax_up (ax_up (ax_up M (b + 1) l p) (b + 2) l v) (b + 3) l s (b + 1) = fo_u (M (b + 1)) l p := by rw [fo_upn (by decide), fo_upn (by decide), fo_up_at]
  have e2 : ax_up (ax_up (ax_up M (b + 1) l p) (b + 2) l v) (b + 3) l s (b + 2) = fo_u (M (b + 2)) l v := by rw [fo_upn (by decide), fo_up_at, fo_upn (by decide)]
  have e3 : ax_up (ax_up (ax_up M (b + 1) l p) (b + 2) l v) (b + 3) l s (b + 3) = fo_u (M (b + 3)) l s := by rw [fo_up_at, fo_upn (by decide), fo_upn (by decide)]
  have e : ∀ k, 4 ≤ k → ax_up (ax_up (ax_up M (b + 1) l p) (b + 2) l v) (b + 3) l s (b + k) = M (b + k) := fun k hk => by rw [fo_upn (by omega), fo_upn (by omega), fo_upn (by omega)]
  unfold fo_cr
  rw [e1, e2, e3, e 4 (by omega), e 5 (by omega), e 6 (by omega), e 7 (by omega), e 8 (by omega), e 9 (by omega), fo_dec_put hl hp]
/-! steps, by what they do to leaves -/
def fo_ap1 (r : fo_R) (q : fo_T) : fo_R :=
  if q.1 < 64 then fo_u (fo_u (fo_u r q.1.toNat (q.2.1 + 1)) (64 + q.1.toNat) q.2.2.1) (128 + q.1.toNat) q.2.2.2
  else fun j => if j < 192 ∧ j % 64 / 4 = (q.1 - 64).toNat then 0 else r j
def fo_ap (r : fo_R) (t : List fo_T) : fo_R := t.foldl fo_ap1 r
theorem fo_ap_snoc {r : fo_R} {t : List fo_T} {q : fo_T} : fo_ap r (t ++ [q]) = fo_ap1 (fo_ap r t) q := by simp [fo_ap]
def fo_Tr (r0 : fo_R) (σ : fo_S) : Prop := ∀ j, j < 192 → σ.1 j = fo_ap r0 σ.2 j
theorem fo_Tr_put {r0 : fo_R} {σ : fo_S} {l : Nat} {p v s : Int} (hl : l < 64) (h : fo_Tr r0 σ) : fo_Tr r0 (fo_put l p v s σ) := by
  intro j hj
  simp only [fo_put]
  rw [fo_ap_snoc]
  simp only [fo_ap1]
  rw [if_pos (by omega), fo_t0]
  simp only [fo_u_eq]
  rw [h j hj]
theorem fo_Tr_o {r0 : fo_R} {σ : fo_S} {r : fo_R} (hr : ∀ j, j < 192 → r j = σ.1 j) (h : fo_Tr r0 σ) : fo_Tr r0 (r, σ.2) := fun j hj => (hr j hj).trans (h j hj)
theorem fo_Tr_wipe {r0 : fo_R} {σ : fo_S} {b : Nat} (h : fo_Tr r0 σ) : fo_Tr r0 (fo_wipe b σ) := by
  intro j hj
  simp only [fo_wipe]
  rw [fo_ap_snoc, fo_cnt_o (by omega)]
  simp only [fo_ap1, fo_wp]
  rw [if_neg (show ¬ ((64 : Int) + (b : Int) < 64) by omega), if_pos hj, show ((64 : Int) + (b : Int) - 64).toNat = b by omega]
  by_cases e : j % 64 / 4 = b
  · rw [if_pos e, if_pos ⟨hj, e⟩]
  · rw [if_neg e, if_neg (fun h => e h.2), h j hj]
theorem fo_Tr_copy {r0 : fo_R} {σ : fo_S} {g l : Nat} (hl : l < 64) (h : fo_Tr r0 σ) : fo_Tr r0 (fo_copy g l σ) :=
  fo_Tr_o (σ := fo_put l (σ.1 g - 1) (σ.1 (64 + g)) (σ.1 (128 + g)) σ) (fun j hj => fo_cnt_o (by omega)) (fo_Tr_put hl h)
