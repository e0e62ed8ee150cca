/-! ===== cuts, side by side ===== -/
section PRC
variable {C D : Int} {Mc Mm Nc Nm Zc Zm X Y M : ax_M} {r τ q : fo_R} {val : Int → Int → Int}
theorem fc_pick {b : Nat} {p : Int} : (f_X0_latestOf b p M = -1 ∧ ∀ c, c < 64 → M (b + 1) c ≠ p) ∨ ∃ l : Nat, f_X0_latestOf b p M = (l : Int) ∧ l < 64 ∧ M (b + 1) l = p ∧ ∀ c, c < 64 → M (b + 1) c = p → M (b + 3) c ≤ M (b + 3) l := by
  have h : ∀ (n i : Nat) (v : Int), i + n = 64 → ((v = -1 ∧ ∀ c, c < i → M (b + 1) c ≠ p) ∨ ∃ l : Nat, v = (l : Int) ∧ l < i ∧ M (b + 1) l = p ∧ ∀ c, c < i → M (b + 1) c = p → M (b + 3) c ≤ M (b + 3) l) →
      ((f_X0_latestOf_L4 b p M n i v (fun z => z) = -1 ∧ ∀ c, c < 64 → M (b + 1) c ≠ p) ∨ ∃ l : Nat, f_X0_latestOf_L4 b p M n i v (fun z => z) = (l : Int) ∧ l < 64 ∧ M (b + 1) l = p ∧ ∀ c, c < 64 → M (b + 1) c = p → M (b + 3) c ≤ M (b + 3) l) := by
    intro n
    induction n with
    | zero =>
      intro i v hi hI
      have : i = 64 := by omega
      subst this
      exact hI
    | succ n ih =>
      intro i v hi hI
      simp only [f_X0_latestOf_L4, f_X0_latestOf_B4]
      by_cases hp : M (b + 1) i ≠ p
      · rw [if_pos hp]
        refine ih (i + 1) v (by omega) ?_
        rcases hI with ⟨e, hn⟩ | ⟨l, e, hl, h1, h2⟩
        · refine Or.inl ⟨e, fun c hc => ?_⟩
          by_cases hci : c = i
          · rw [hci]; exact hp
          · exact hn c (by omega)
        · refine Or.inr ⟨l, e, by omega, h1, fun c hc hcp => ?_⟩
          by_cases hci : c = i
          · exact absurd (by rw [← hci]; exact hcp) hp
          · exact h2 c (by omega) hcp
      · rw [if_neg hp]
        have hp' : M (b + 1) i = p := Classical.byContradiction hp
        have keep : ∀ l : Nat, l < i → M (b + 1) l = p → (∀ c, c < i → M (b + 1) c = p → M (b + 3) c ≤ M (b + 3) l) → M (b + 3) i ≤ M (b + 3) l → ∀ c, c < i + 1 → M (b + 1) c = p → M (b + 3) c ≤ M (b + 3) l := fun l _ _ h2 h3 c hc hcp => by
          by_cases hci : c = i
          · rw [hci]; exact h3
          · exact h2 c (by omega) hcp
        have newl : (∀ c, c < i → M (b + 1) c = p → M (b + 3) c ≤ M (b + 3) i) → ∀ c, c < i + 1 → M (b + 1) c = p → M (b + 3) c ≤ M (b + 3) i := fun h2 c hc hcp => by
          by_cases hci : c = i
          · rw [hci]; exact Int.le_refl _
          · exact h2 c (by omega) hcp
        rcases hI with ⟨e, hn⟩ | ⟨l, e, hl, h1, h2⟩
        · rw [if_pos e]
          exact ih (i + 1) _ (by omega) (Or.inr ⟨i, rfl, by omega, hp', newl (fun c hc hcp => absurd hcp (hn c hc))⟩)
        · rw [if_neg (show ¬ (v = -1) by omega)]
          subst e
          by_cases hT : M (b + 3) i = M (b + 3) l
          · split
            · exact ih (i + 1) _ (by omega) (Or.inr ⟨l, rfl, by omega, h1, keep l hl h1 h2 (by omega)⟩)
            · exact ih (i + 1) _ (by omega) (Or.inr ⟨i, rfl, by omega, hp', newl (fun c hc hcp => by have := h2 c hc hcp; omega)⟩)
          · have eL : f_X0_isLater b (i : Int) (l : Int) M = if M (b + 3) i ≤ M (b + 3) l then 0 else 1 := by
              unfold f_X0_isLater
              rw [if_neg (by omega), if_neg (by omega), if_neg (by omega), if_pos (by omega), fo_t0, fo_t0, if_neg hT]
            rw [eL]
            by_cases hle : M (b + 3) i ≤ M (b + 3) l
            · rw [if_pos hle, if_pos rfl]
              exact ih (i + 1) _ (by omega) (Or.inr ⟨l, rfl, by omega, h1, keep l hl h1 h2 hle⟩)
            · rw [if_neg hle, if_neg (by decide)]
              exact ih (i + 1) _ (by omega) (Or.inr ⟨i, rfl, by omega, hp', newl (fun c hc hcp => by have := h2 c hc hcp; omega)⟩)
  unfold f_X0_latestOf
  exact h 64 0 (-1) rfl (Or.inl ⟨rfl, fun c hc => absurd hc (Nat.not_lt_zero c)⟩)
/-- what is read of a page, of leaves as they may be -/
def fq_V (q : fo_R) (p x : Int) : Prop := (x = 100 ∧ ∀ c, c < 64 → q c ≠ p + 1) ∨ ∃ l : Nat, l < 64 ∧ q l = p + 1 ∧ (∀ c, c < 64 → q c = p + 1 → q (128 + c) ≤ q (128 + l)) ∧ x = q (64 + l)
theorem fq_u {p x y : Int} (hL : fo_LV val q) (hp : 0 ≤ p) (hx : fq_V q p x) (hy : fq_V q p y) : x = y := by
  rcases hx with ⟨ex, nx⟩ | ⟨l, hl, l1, l2, ex⟩
  · rcases hy with ⟨ey, _⟩ | ⟨m, hm, m1, m2, ey⟩
    · rw [ex, ey]
    · exact absurd m1 (nx m hm)
  · rcases hy with ⟨ey, ny⟩ | ⟨m, hm, m1, m2, ey⟩
    · exact absurd l1 (ny l hl)
    · have a := l2 m hm m1
      have b := m2 l hl l1
      have e : q (128 + l) = q (128 + m) := by omega
      rw [ex, ey, (hL l hl).2.2.2.2 (by omega), (hL m hm).2.2.2.2 (by omega), l1, m1, e]
theorem fc_V {b : Nat} {p : Int} (h : ∀ j, j < 192 → fo_cr b M j = q j) (hp : 0 ≤ p) : fq_V q p (f_X0_valueOf b p M) := by
  have e1 : ∀ l, l < 64 → M (b + 1) l = q l - 1 := fun l hl => by rw [fr_pg (r := fo_cr b M) rfl hl, h l (by omega)]
  have e2 : ∀ l, l < 64 → q l ≠ 0 → M (b + 2) l = q (64 + l) := fun l hl h0 => by rw [fr_vl (r := fo_cr b M) rfl hl (by rw [h l (by omega)]; exact h0), h _ (by omega)]
  have e3 : ∀ l, l < 64 → q l ≠ 0 → M (b + 3) l = q (128 + l) := fun l hl h0 => by rw [fr_st (r := fo_cr b M) rfl hl (by rw [h l (by omega)]; exact h0), h _ (by omega)]
  unfold f_X0_valueOf
  simp only [ax_bd_e]
  rcases fc_pick (M := M) (b := b) (p := p) with ⟨e, hn⟩ | ⟨l, e, hl, h1, h2⟩
  · rw [e, if_neg (fun h => h rfl)]
    refine Or.inl ⟨rfl, fun c hc e' => hn c hc ?_⟩
    rw [e1 c hc, e']
    omega
  · rw [e, if_pos (show (l : Int) ≠ -1 by omega), fo_t0]
    have el := e1 l hl
    have hl0 : q l = p + 1 := by omega
    refine Or.inr ⟨l, hl, hl0, fun c hc hcp => ?_, e2 l hl (by omega)⟩
    have := h2 c hc (by rw [e1 c hc]; omega)
    rw [e3 c hc (by omega), e3 l hl (by omega)] at this
    exact this
theorem fm_V {a : Nat} {p : Int} (h : ∀ j, j < 192 → M a j = q j) (hL : fo_LV val q) (hp : 0 ≤ p) : fq_V q p (f_X3_valueOf a p M) := by
  unfold f_X3_valueOf
  simp only [ax_bd_e]
  rw [fm_latest hp (fun l hl => by rw [h l (by omega)]; exact ⟨(hL l hl).1, (hL l hl).2.1⟩) (fun l hl => by rw [h _ (by omega)]; exact ⟨(hL l hl).2.2.1, (hL l hl).2.2.2.1⟩)]
  rcases fo_lat_spec (M a) p with ⟨e, hn⟩ | ⟨l, e, hl, h1, _⟩
  · rw [e, if_neg (by omega)]
    exact Or.inl ⟨rfl, fun c hc => by rw [← h c (by omega)]; exact hn c hc⟩
  · have hm := (fo_lat_max e).2.2
    rw [e, if_pos (by omega), fo_t64, h _ (by omega)]
    rw [h l (by omega)] at h1
    refine Or.inr ⟨l, hl, h1, fun c hc hcp => ?_, rfl⟩
    have := hm c hc (by rw [h c (by omega)]; exact hcp)
    rw [h _ (by omega), h _ (by omega)] at this
    exact this
theorem fo_LV_r {p : Nat} {v : Int} (hI : fo_I r) (hclk : r 270 ≤ 2147483647) : fo_LV (fo_val r p v) r := fun l hl => by
  have a := hI.2.1.pg l hl
  have b := hI.2.1.sb l hl
  exact ⟨a.1, a.2, b.1, by omega, fo_val_old hI hl⟩
/-- the steps that are done, on a row of their own -/
theorem fm_emp8 {c : Nat} : (∀ s, s ≠ 8 → f_X3_emptiesBlock 8 (c : Int) M s = M s) ∧ ∀ j, f_X3_emptiesBlock 8 (c : Int) M 8 j = if j < 192 ∧ j % 64 / 4 = c ∧ c < 16 then 0 else if c < 16 then M 8 j else f_X3_emptiesBlock 8 (c : Int) M 8 j := by
  have t : ∀ i : Nat, ((4 * (c : Int)) + (i : Int)).toNat = 4 * c + i := fun i => by omega
  have t2 : ∀ i : Nat, (64 + ((4 * (c : Int)) + (i : Int))).toNat = 64 + (4 * c + i) := fun i => by omega
  have t3 : ∀ i : Nat, (128 + ((4 * (c : Int)) + (i : Int))).toNat = 128 + (4 * c + i) := fun i => by omega
  constructor
  · intro s hs
    unfold f_X3_emptiesBlock
    simp only [f_X3_emptiesBlock_L2, f_X3_emptiesBlock_B2, ax_bd_e]
    repeat rw [ax_up_ne hs]
  · intro j
    by_cases hc : c < 16
    · unfold f_X3_emptiesBlock
      simp only [f_X3_emptiesBlock_L2, f_X3_emptiesBlock_B2, ax_bd_e, t, t2, t3, fo_up_at, fo_u_eq]
      clear t t2 t3
      repeat' split
      all_goals first | rfl | omega
    · rw [if_neg (fun h => hc h.2.2), if_neg hc]
theorem pq_cutsL {A : Prop × Int × ax_M} {x k w4 : Int} {t : List fo_T} {S : ax_M} {kx : ax_M → Prop × Int × ax_M} (ht : fo_TV val t) (hlen : t.length ≤ 49) (h9 : ∀ i q, t[i]? = some q → S 9 i = q.1 ∧ S 10 i = q.2.1 ∧ S 11 i = q.2.2.1 ∧ S 12 i = q.2.2.2) (hk : 0 ≤ k)
    (hfin : ∀ Mf : ax_M, (∀ s, s ≠ 8 → Mf s = S s) → (∀ j, j < 192 → Mf 8 j = fo_ap r (t.take k.toNat) j) → (∀ j, 192 ≤ j → Mf 8 j = S 8 j) → pq C A (kx Mf)) :
    ∀ (n i : Nat) (M : ax_M), i + n = t.length → (i : Int) ≤ k → (∀ s, s ≠ 8 → M s = S s) → (∀ j, j < 192 → M 8 j = fo_ap r (t.take i) j) → (∀ j, 192 ≤ j → M 8 j = S 8 j) → pq C A (f_X3_cuts_L66 x k w4 n (i : Int) M kx) := by
  intro n
  induction n with
  | zero =>
    intro i M hi hik m1 m2 m3
    refine hfin M m1 (fun j hj => ?_) m3
    rw [m2 j hj, List.take_of_length_le (by omega), List.take_of_length_le (by omega)]
  | succ n ih =>
    intro i M hi hik m1 m2 m3
    simp only [f_X3_cuts_L66, f_X3_cuts_B66, ax_bd_e]
    by_cases hki : k ≤ (i : Int)
    · rw [if_pos hki]
      have e : k.toNat = i := by omega
      exact hfin M m1 (fun j hj => by rw [m2 j hj, e]) m3
    · rw [if_neg hki]
      have hil : i < t.length := by omega
      have hq : t[i]? = some t[i] := List.getElem?_eq_getElem hil
      obtain ⟨q1, q2, q3, q4⟩ := h9 i _ hq
      obtain ⟨v1, v2, v3⟩ := ht _ (List.getElem_mem hil)
      have et : t.take (i + 1) = t.take i ++ [t[i]] := by
        rw [List.take_succ, hq]
        rfl
      generalize t[i] = q at q1 q2 q3 q4 v1 v2 v3 et
      have e9 : M 9 (i : Int).toNat = q.1 := by rw [fo_t0, m1 9 (by decide), q1]
      rw [show (i : Int) + 1 = ((i + 1 : Nat) : Int) by omega]
      by_cases h64 : 64 ≤ q.1
      · rw [if_pos (by rw [e9]; exact h64), e9, ax_wr_id (by omega) (by omega)]
        obtain ⟨c, ec⟩ : ∃ c : Nat, q.1 - 64 = (c : Int) := ⟨(q.1 - 64).toNat, by omega⟩
        have hc : c < 16 := by omega
        rw [ec]
        obtain ⟨p1, p2⟩ := fm_emp8 (M := M) (c := c)
        refine pq_rq (by omega) ?_
        refine ih (i + 1) _ (by omega) (by omega) (fun s hs => by rw [p1 s hs, m1 s hs]) (fun j hj => ?_) (fun j hj => by rw [p2 j, if_neg (by omega), if_pos hc, m3 j hj])
        rw [p2 j, et, fo_ap_snoc]
        unfold fo_ap1
        rw [if_neg (show ¬ (q.1 < 64) by omega), ec, fo_t0]
        by_cases hb : j % 64 / 4 = c
        · rw [if_pos ⟨hj, hb, hc⟩, if_pos ⟨hj, hb⟩]
        · rw [if_neg (fun h => hb h.2.1), if_pos hc, if_neg (fun h => hb h.2), m2 j hj]
      · rw [if_neg (by rw [e9]; exact h64)]
        obtain ⟨u1, u2, u3, u4, _⟩ := v3 (by omega)
        obtain ⟨l, el⟩ : ∃ l : Nat, q.1 = (l : Int) := ⟨q.1.toNat, by omega⟩
        have hl : l < 64 := by omega
        have f9 : ∀ (N : ax_M), N 9 = M 9 → N 9 (i : Int).toNat = (l : Int) := fun N hN => by rw [hN, e9, el]
        have e10 : M 10 (i : Int).toNat = q.2.1 := by rw [fo_t0, m1 10 (by decide), q2]
        have a1 : ∀ v, ax_up M 8 l v 9 = M 9 := fun v => ax_up_ne (by decide)
        have a2 : ∀ v w, ax_up (ax_up M 8 l v) 8 (64 + l) w 9 = M 9 := fun v w => by rw [ax_up_ne (by decide), a1]
        rw [f9 M rfl, fo_t0 l, e10, ax_wr_id (show -2147483648 ≤ q.2.1 + 1 by omega) (by omega), f9 _ (a1 _), ax_wr_id (show -2147483648 ≤ 64 + (l : Int) by omega) (by omega), fo_t64, f9 _ (a2 _ _), ax_wr_id (show -2147483648 ≤ 128 + (l : Int) by omega) (by omega), fo_t128]
        have e11 : ax_up M 8 l (q.2.1 + 1) 11 (i : Int).toNat = q.2.2.1 := by rw [ax_up_ne (by decide), fo_t0, m1 11 (by decide), q3]
        rw [e11]
        have e12 : ax_up (ax_up M 8 l (q.2.1 + 1)) 8 (64 + l) q.2.2.1 12 (i : Int).toNat = q.2.2.2 := by rw [ax_up_ne (by decide), ax_up_ne (by decide), fo_t0, m1 12 (by decide), q4]
        rw [e12]
        refine pq_rq (by omega) ?_
        refine pq_rq (by omega) ?_
        refine pq_rq (by omega) ?_
        refine ih (i + 1) _ (by omega) (by omega) (fun s hs => by rw [ax_up_ne hs, ax_up_ne hs, ax_up_ne hs, m1 s hs]) (fun j hj => ?_) (fun j hj => ?_)
        · rw [et, fo_ap_snoc]
          unfold fo_ap1
          rw [if_pos (show q.1 < 64 by omega), el, fo_t0, fo_up_at, fo_up_at, fo_up_at]
          simp only [fo_u_eq]
          rw [m2 j hj]
        · rw [fo_up_at, fo_up_at, fo_up_at, fo_u_o (by omega), fo_u_o (by omega), fo_u_o (by omega), m3 j hj]
theorem bt_o {t : Nat} (h : pr_P C Nc Nm) (ht : t ≤ 13 ∨ 23 < t) : f_X2_beginTrial Nc t = Nc t := by
  obtain ⟨hs1, hs2⟩ := h.sl
  obtain ⟨l1, _⟩ := fc_load (b := 13) (s := 25) (n := 2466) (o := fo_sl Nc) (M := Nc) (Or.inr (by omega)) hs2
  unfold f_X2_beginTrial
  simp only [ax_bd_e]
  rw [hs1]
  have hm1 : ∀ (L : ax_M) t, t ≠ 23 → f_X0_mark 13 L t = L t := fun L t ht => ax_cp_o ht
  rw [hm1 _ t (by omega), l1 t (by omega)]
/-- how many other pages would be read otherwise -/
theorem pq_cutsN {p : Nat} {w4 : Int} {kc km : Int → Prop × Int × ax_M} (h13 : ∀ i : Nat, i < 24 → f_X0_valueOf 13 (i : Int) Zc = f_X3_valueOf 8 (i : Int) Zm) (h1 : ∀ i : Nat, i < 24 → f_X0_valueOf 1 (i : Int) Zc = f_X3_valueOf 7 (i : Int) Zm) (hk : ∀ z, pq C (kc z) (km z)) :
    ∀ (n i : Nat) (v : Int), i + n = 24 → pq C (f_X2_cuts_L102 (p : Int) w4 Zc n i v kc) (f_X3_cuts_L189 (p : Int) w4 Zm n i v km) := by
  intro n
  induction n with
  | zero => intro i v _; exact hk v
  | succ n ih =>
    intro i v hi
    simp only [f_X2_cuts_L102, f_X2_cuts_B102, f_X3_cuts_L189, f_X3_cuts_B189]
    have f0 : f_X3_flag 0 Zm = 0 := rfl
    have f1 : f_X3_flag 1 Zm = 1 := rfl
    rw [h13 i (by omega), h1 i (by omega), f0, f1]
    by_cases hp : (i : Int) = (p : Int)
    · rw [if_pos hp, if_pos hp]
      exact ih (i + 1) _ (by omega)
    · rw [if_neg hp, if_neg hp]
      by_cases he : f_X3_valueOf 8 (i : Int) Zm = f_X3_valueOf 7 (i : Int) Zm
      · rw [if_pos he, if_pos he]
        exact ih (i + 1) _ (by omega)
      · rw [if_neg he, if_neg he]
        exact ih (i + 1) _ (by omega)
theorem pq_cuts {x v k : Int} (hC : C < 2000000000) (h : pr_G C Mc Mm) : pq C (f_X2_cuts x v k Mc) (f_X3_cuts x v k Mm) := by
  have hG := h.th (x := 0)
  have hB := pb_B hG
  have e7 : ax_up Mm 0 0 0 7 = Mm 7 := ax_up_ne (by decide)
  rw [e7] at hB
  have hV := pv_begin hB
  have h270 := h.1.1.2.1.2
  have hI := h.I
  unfold f_X2_cuts f_X3_cuts
  simp only [ax_bd_e]
  have hno : ∀ A : Prop × Int × ax_M, ¬ ((0 ≤ v ∧ v ≤ 99) ∧ 0 ≤ k ∧ k ≤ 99) → (if v < 0 then (True, ((-1 : Int), Mc)) else if 100 ≤ v then (True, (-1, Mc)) else if k < 0 then (True, (-1, Mc)) else if k ≤ 99 then A else (True, (-1, Mc))) = (True, (-1, Mc)) := fun A hn => by
    by_cases h1 : v < 0
    · rw [if_pos h1]
    rw [if_neg h1]
    by_cases h2 : 100 ≤ v
    · rw [if_pos h2]
    rw [if_neg h2]
    by_cases h3 : k < 0
    · rw [if_pos h3]
    rw [if_neg h3, if_neg (by omega)]
  have hmo : ∀ A : Prop × Int × ax_M, ¬ ((0 ≤ v ∧ v ≤ 99) ∧ 0 ≤ k ∧ k ≤ 99) → (if (if 0 ≤ v ∧ v ≤ 99 then (1 : Int) else 0) = 0 then (True, ((-1 : Int), ax_up Mm 0 0 0)) else if (if 0 ≤ k ∧ k ≤ 99 then (1 : Int) else 0) ≠ 0 then A else (True, (-1, ax_up Mm 0 0 0))) = (True, (-1, ax_up Mm 0 0 0)) := fun A hn => by
    by_cases h1 : 0 ≤ v ∧ v ≤ 99
    · rw [if_pos h1, if_neg (show ¬ ((1 : Int) = 0) by decide), if_neg (fun h2 => hn ⟨h1, h2⟩), if_neg (show ¬ ((0 : Int) ≠ 0) by decide)]
    · rw [if_neg h1, if_pos rfl]
  rcases fx_page x with ⟨p, hp, e, h1, h2⟩ | ⟨h1, h2⟩
  · subst e
    rw [h1, h2, if_neg (show ¬ ((1 : Int) = 0) by decide), if_neg (show ¬ ((1 : Int) = 0) by decide), fm_inE, fm_inE]
    by_cases hok : (0 ≤ v ∧ v ≤ 99) ∧ 0 ≤ k ∧ k ≤ 99
    · rw [if_neg (show ¬ (v < 0) by omega), if_neg (show ¬ (100 ≤ v) by omega), if_neg (show ¬ (k < 0) by omega), if_pos hok.2.2, if_pos hok.1, if_neg (show ¬ ((1 : Int) = 0) by decide), if_pos hok.2, if_pos (show (1 : Int) ≠ 0 by decide)]
      generalize f_X2_beginTrial (f_X2_begin Mc) = T at hV ⊢
      generalize f_X3_copiesAll (ax_up Mm 0 0 0) = S at hV ⊢
      obtain ⟨a, cs, ha, e7', hwc, hwm⟩ := pr_R.ev (hV.1.1.1.2.2.2.2.2 hC)
      have hwc13 := hwc 13 (by omega)
      obtain ⟨a1, a2, a3, a4, _, _, a7, ⟨a8, a8'⟩, _, _⟩ := pv_write (v := v) ha hp (by omega) (by omega) hwc13 hwm hV
      have hxq := xq_write (ev := fo_ev cs) (v := v) hp hI (by omega)
      have hlen := lq_write (ev := fo_ev cs) (v := v) hp hI
      rw [e7']
      refine pq_lc a1 ?_
      refine pq_rc a2 ?_
      generalize f_X0_write 13 (p : Int) v (a : Int) T = X at a1 a3 a4 a7 ⊢
      generalize f_X3_writesOne 8 (p : Int) v S = Y at a2 a3 a8 a8' ⊢
      rw [a7, a8]
      have hB2 := a3.1
      have hV2 := pv_begin hB2
      have hbt : ∀ t, (t ≤ 13 ∨ 23 < t) → f_X2_beginTrial X.2.2 t = X.2.2 t := fun t ht => bt_o hB2.1.1.2.1 ht
      obtain ⟨m1, m2, m3, _, _⟩ := fm_copiesAll (M := Y.2.2) (fun j hj => by rw [hB2.1.1.1.2.2.2.2 j hj, pr_7hi hB2.1.1.1 j hj])
      generalize f_X2_beginTrial X.2.2 = T2 at hV2 hbt ⊢
      generalize f_X3_copiesAll Y.2.2 = S2 at hV2 m1 m2 m3 ⊢
      generalize ht : (fo_write (fo_ev cs) p v (Mm 7)).2 = t at hlen a8' ⊢
      have htv : fo_TV (fo_val (Mm 7) p v) t := by rw [← ht]; exact hxq.2.2
      -- the second write, with a limit
      have u0 : ∀ s, s ≠ 13 → ax_up T2 13 12 k s = T2 s := fun s hs => ax_up_ne hs
      have u12 : ax_up T2 13 12 k 13 12 = k := by rw [fo_up_at, fo_u_s]
      have ucr : fo_cr 13 (ax_up T2 13 12 k) = Mm 7 := by rw [fo_cr_o (Or.inl (Nat.le_refl _))]; exact hV2.2.1
      generalize ax_up T2 13 12 k = T3 at u0 u12 ucr ⊢
      have e37 : T3 0 7 = (a : Int) := by rw [u0 0 (by decide), hbt 0 (by omega), a4.1 0 (by omega) (by omega) (by omega) (by omega), e7']
      have hw3 : fo_Wv a 13 (fo_ev cs) T3 := fun N n1 n2 => hwc13 N (by rw [n1, u0 a (by omega), hbt a (by omega), a4.2.1 1 (by decide)]) (by rw [n2, u0 (a + 1) (by omega), hbt (a + 1) (by omega), a4.1 (a + 1) (by omega) (by omega) (by omega) (by omega)])
      obtain ⟨b1, b2, b3⟩ := rl_writeC (a := a) (b := 13) (ev := fo_ev cs) (v := v) (M := T3) (by omega) hp (by omega) ucr hI (by omega) (by rw [u12]; exact hok.2) hw3
      rw [e37]
      refine pq_lc b1 ?_
      have b11 := rl_writeC11 (a := a) (b := 13) (ev := fo_ev cs) (v := v) (M := T3) (by omega) hp (by omega) ucr hI (by omega) (by rw [u12]; exact hok.2) hw3
      rw [u12, ht] at b3
      generalize f_X0_write 13 (p : Int) v (a : Int) T3 = Z at b1 b2 b3 b11 ⊢
      have z0 : ∀ s, s ≠ 13 → ax_up Z.2.2 13 12 1073741824 s = Z.2.2 s := fun s hs => ax_up_ne hs
      have z12 : ax_up Z.2.2 13 12 1073741824 13 12 = 1073741824 := by rw [fo_up_at, fo_u_s]
      have zcr : fo_cr 13 (ax_up Z.2.2 13 12 1073741824) = fo_cr 13 Z.2.2 := fo_cr_o (Or.inl (Nat.le_refl _))
      have z11 : ax_up Z.2.2 13 12 1073741824 13 11 = Z.2.2 13 11 := by rw [fo_up_at, fo_u_o (by decide)]
      generalize ax_up Z.2.2 13 12 1073741824 = M14 at z0 z12 z11 zcr ⊢
      have zf : ∀ s, (s < 13 ∨ 22 < s) → s ≠ 24 → s ≠ a → s ≠ a + 2 → M14 s = T2 s := fun s s1 s2 s3 s4 => by rw [z0 s (by omega), b2.1 s s1 s2 s3 s4, u0 s (by omega)]
      have hq : cQ T2 M14 := cQ_of (fun s hs => zf s (by omega) (by omega) (by omega) (by omega)) (fun i _ => by rw [zf 25 (by omega) (by omega) (by omega) (by omega)]) (cS.w (by rw [z12]; exact hV2.1.1.1.1.2.2.2.1.1.symm) (by omega) (by omega)) (fun f hf => by
        have g : M14 a f = T2 a f := by rw [z0 a (by omega), b2.2.1 f hf, u0 a (by omega)]
        rcases ha with e | e <;> subst e
        · exact ⟨g, by rw [zf 31 (by omega) (by omega) (by omega) (by omega)]⟩
        · exact ⟨by rw [zf 28 (by omega) (by omega) (by omega) (by omega)], g⟩)
      refine pq_cutsL (r := Mm 7) (val := fo_val (Mm 7) p v) (S := S2) htv hlen (fun i q hq' => by rw [m2 9 (by decide) (by decide), m2 10 (by decide) (by decide), m2 11 (by decide) (by decide), m2 12 (by decide) (by decide)]; exact a8' i q hq') hok.2.1 (fun Mf f1 f2 f3 => ?_) _ 0 S2 (by omega) hok.2.1 (fun _ _ => rfl) (fun j _ => by rw [hV2.2.2.1]; rfl) (fun _ _ => rfl)
      have hmq : mQ S2 Mf := mQ_of (fun s hs => f1 s (by omega)) (fun f _ => by rw [f1 0 (by decide)]) (fun i _ => by rw [f1 13 (by decide)]) (fun j hj => f3 j (by omega))
      have hB3 : pr_B C (Mm 7) M14 Mf := pr_B_q hq hmq (zf 25 (by omega) (by omega) (by omega) (by omega)) (by rw [zf 0 (by omega) (by omega) (by omega) (by omega)]) (zf 35 (by omega) (by omega) (by omega) (by omega)) (by rw [f1 0 (by decide)]) (f1 1 (by decide)) hV2.1
      have hLr : fo_LV (fo_val (Mm 7) p v) (Mm 7) := fo_LV_r hI (by omega)
      have hLq : fo_LV (fo_val (Mm 7) p v) (fo_ap (Mm 7) (t.take k.toNat)) := fo_LV_ap _ _ hLr (fun q hq' => htv q (List.mem_of_mem_take hq'))
      have c13 : ∀ j, j < 192 → fo_cr 13 M14 j = fo_ap (Mm 7) (t.take k.toNat) j := fun j hj => by rw [zcr]; exact b3 j hj
      generalize fo_ap (Mm 7) (t.take k.toNat) = q at f2 hLq c13
      have hv13 : ∀ i : Nat, i < 24 → f_X0_valueOf 13 (i : Int) M14 = f_X3_valueOf 8 (i : Int) Mf := fun i _ => fq_u hLq (by omega) (fc_V c13 (by omega)) (fm_V f2 hLq (by omega))
      have hv1 : ∀ i : Nat, i < 24 → f_X0_valueOf 1 (i : Int) M14 = f_X3_valueOf 7 (i : Int) Mf := fun i _ => fq_u hLr (by omega) (fc_V (fun j _ => by rw [hB3.1.c, hB3.2.1]) (by omega)) (fm_V (fun j _ => by rw [hB3.2.1]) hLr (by omega))
      unfold f_X3_cuts_J183
      simp only [ax_bd_e]
      refine pq_cutsN hv13 hv1 (fun z => ?_) 24 0 0 rfl
      have s0 := vs_anew hB3.1.1 hB3.2.1
      unfold pq ax_rc
      dsimp only
      generalize f_X2_tellAnew M14 = Z0 at s0 ⊢
      generalize ax_up Mf 0 1 0 = W0 at s0 ⊢
      obtain ⟨q1, s1⟩ := vs_tell (x := (t.length : Int)) s0 (by decide)
      generalize f_X2_tell ((t.length : Int)) Z0 = Z1 at s1 ⊢
      generalize f_X3_enters ((t.length : Int)) W0 = y1 at q1 s1 ⊢
      obtain ⟨q2, s2⟩ := vs_tell (x := z) s1 (by decide)
      generalize f_X2_tell (z) Z1 = Z2 at s2 ⊢
      generalize f_X3_enters (z) y1.2 = y2 at q2 s2 ⊢
      have ea : f_X0_valueOf 13 (p : Int) Z2 = f_X3_valueOf 8 (p : Int) y2.2 := by
        refine fq_u hLq (by omega) (fc_V (fun j hj => ?_) (by omega)) (fm_V (fun j hj => by rw [s2.2.2.1 8 (by decide) (by decide)]; exact f2 j hj) hLq (by omega))
        rw [← c13 j hj]
        exact congrFun (fo_cr_same (fun k k1 k2 => s2.2.1 _ (by omega) (by omega))) j
      exact ⟨trivial, ⟨q1, q2, trivial⟩, ea, s2.1.g⟩
    · rw [hno _ hok, hmo _ hok]
      exact ⟨trivial, trivial, rfl, hG⟩
  · rw [h1, h2, if_pos rfl, if_pos rfl]
    exact ⟨trivial, trivial, rfl, hG⟩
end PRC
