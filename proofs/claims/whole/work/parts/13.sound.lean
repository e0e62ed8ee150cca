/-! ===== a stretch is sound ===== -/
def ax_kok (own : String) (K : ax_K) : Prop :=
  (∀ q ∈ K.1, ∃ C T N ty, ax_cls q.2.1 C T N ty ∧ q.2.2.1 < N ∧ (ax_fs q.2.1)[q.2.2.1]? = some ((ax_fs q.2.1).getD q.2.2.1 (0, 0, 0)) ∧ ax_fk ((ax_fs q.2.1).getD q.2.2.1 (0, 0, 0)) ∧
    (ax_pty ((ax_fs q.2.1).getD q.2.2.1 (0, 0, 0)) (ty q.2.2.1) ∧ (T q.2.2.1).2.2.2 = false ∨ 2 ≤ ((ax_fs q.2.1).getD q.2.2.1 (0, 0, 0)).1 ∧ ((ax_fs q.2.1).getD q.2.2.1 (0, 0, 0)).1 ≤ 6) ∧
    ((q.2.2.2 = false ∧ Cond.fieldLink own q.1 (T q.2.2.1).1 (T q.2.2.1).2.1 (T q.2.2.1).2.2.1 ∈ ax_T) ∨ ∃ host, Cond.fieldLinkNest own q.1 (T q.2.2.1).1 (T q.2.2.1).2.1 (T q.2.2.1).2.2.1 host ∈ lw_tbl)) ∧
  (∀ q ∈ K.2.1, Cond.constant own q.1 (Int32.ofInt q.2) ∈ ax_T ∧ ax_r32 q.2) ∧
  (∀ q ∈ K.2.2.1, Cond.constantLong own q.1 (Int64.ofInt q.2) ∈ ax_T ∧ ax_r64 q.2) ∧
  (∀ q ∈ K.2.2.2.1, ∃ cs, ax_cs[q.2.1]? = some cs ∧ Cond.fieldLink own q.1 "FlashFolio" cs.1 "[I" ∈ ax_T) ∧
  (∀ q ∈ K.2.2.2.2, ∃ tx, (own, q.1, q.2, tx) ∈ ax_tr)
theorem ax_sLdI_inv {i : Nat} {σ σ' : ax_S} (h : ax_sLdI i σ = some σ') : ∃ u n, (i, ((0, u, n) : ax_V)) ∈ σ.1 ∧ σ' = (σ.1, (0, 0, n) :: σ.2.1, σ.2.2) := by
  unfold ax_sLdI at h
  split at h
  · rename_i u n e
    exact ⟨u, n, ax_lk_mem e, (Option.some.inj h).symm⟩
  · cases h
theorem ax_sLdL_inv {i : Nat} {σ σ' : ax_S} (h : ax_sLdL i σ = some σ') : ∃ u n, (i, ((1, u, n) : ax_V)) ∈ σ.1 ∧ σ' = (σ.1, (1, 0, n) :: σ.2.1, σ.2.2) := by
  unfold ax_sLdL at h
  split at h
  · rename_i u n e
    exact ⟨u, n, ax_lk_mem e, (Option.some.inj h).symm⟩
  · cases h
theorem ax_sLdA_inv {i : Nat} {σ σ' : ax_S} (h : ax_sLdA i σ = some σ') : ∃ v, (i, v) ∈ σ.1 ∧ ax_isR v = true ∧ σ' = (σ.1, v :: σ.2.1, σ.2.2) := by
  unfold ax_sLdA at h
  split at h
  · rename_i v e
    split at h
    · rename_i hv
      exact ⟨v, ax_lk_mem e, hv, (Option.some.inj h).symm⟩
    · cases h
  · cases h
theorem ax_sSt_inv {i : Nat} {σ σ' : ax_S} (h : ax_sSt i σ = some σ') : ∃ u n r, σ.2.1 = (0, u, n) :: r ∧ σ' = (ax_put σ.1 i (0, u, n), r, σ.2.2) := by
  unfold ax_sSt at h
  split at h
  · rename_i u n r e
    exact ⟨u, n, r, e, (Option.some.inj h).symm⟩
  · cases h
theorem ax_sStL_inv {i : Nat} {σ σ' : ax_S} (h : ax_sStL i σ = some σ') : ∃ u n r, σ.2.1 = (1, u, n) :: r ∧ σ' = (ax_put2 σ.1 i (1, u, n), r, σ.2.2) := by
  unfold ax_sStL at h
  split at h
  · rename_i u n r e
    exact ⟨u, n, r, e, (Option.some.inj h).symm⟩
  · cases h
theorem ax_sStA_inv {i : Nat} {σ σ' : ax_S} (h : ax_sStA i σ = some σ') : ∃ v r, σ.2.1 = v :: r ∧ ax_isR v = true ∧ σ' = (ax_put σ.1 i v, r, σ.2.2) := by
  unfold ax_sStA at h
  split at h
  · rename_i v r e
    split at h
    · rename_i hv
      exact ⟨v, r, e, hv, (Option.some.inj h).symm⟩
    · cases h
  · cases h
theorem ax_sB_inv {w : Nat} {f g : Int → Int → Int} {c : Int → Int → Prop} {σ σ' : ax_S} (h : ax_sB w f g c σ = some σ') : ∃ u v a b r, σ.2.1 = (0, u, b) :: (0, v, a) :: r ∧ ((w = 0 ∧ σ' = (σ.1, (0, 0, f a b) :: r, σ.2.2)) ∨ σ' = (σ.1, (0, 0, g a b) :: r, σ.2.2.1, σ.2.2.2 ∧ c a b) ∧ w ≠ 0) := by
  unfold ax_sB at h
  split at h
  · rename_i u b v a r e
    refine ⟨u, v, a, b, r, e, ?_⟩
    split at h
    · rename_i hw
      exact Or.inl ⟨hw, (Option.some.inj h).symm⟩
    · rename_i hw
      exact Or.inr ⟨(Option.some.inj h).symm, hw⟩
  · cases h
theorem ax_sBc_inv {w : Nat} {f g : Int → Int → Int} {c0 c : Int → Int → Prop} {σ σ' : ax_S} (h : ax_sBc w f g c0 c σ = some σ') : ∃ u v a b r, σ.2.1 = (0, u, b) :: (0, v, a) :: r ∧ (σ' = (σ.1, (0, 0, f a b) :: r, σ.2.2.1, σ.2.2.2 ∧ c0 a b) ∨ σ' = (σ.1, (0, 0, g a b) :: r, σ.2.2.1, σ.2.2.2 ∧ c a b)) := by
  unfold ax_sBc at h
  split at h
  · rename_i u b v a r e
    refine ⟨u, v, a, b, r, e, ?_⟩
    split at h
    · exact Or.inl (Option.some.inj h).symm
    · exact Or.inr (Option.some.inj h).symm
  · cases h
theorem ax_sU_inv {f : Int → Int} {σ σ' : ax_S} (h : ax_sU f σ = some σ') : ∃ u a r, σ.2.1 = (0, u, a) :: r ∧ σ' = (σ.1, (0, 0, f a) :: r, σ.2.2) := by
  unfold ax_sU at h
  split at h
  · rename_i u a r e
    exact ⟨u, a, r, e, (Option.some.inj h).symm⟩
  · cases h
theorem ax_sGet_inv {c f : Nat} {σ σ' : ax_S} (h : ax_sGet c f σ = some σ') : ∃ a r, σ.2.1 = (2, c, a) :: r ∧ σ' = (σ.1, ax_gf ((ax_fs c).getD f (0, 0, 0)) a (σ.2.2.1 a.toNat f) :: r, σ.2.2) := by
  unfold ax_sGet at h
  split at h
  · rename_i c' a r e
    split at h
    · rename_i hc
      subst hc
      exact ⟨a, r, e, (Option.some.inj h).symm⟩
    · cases h
  · cases h
theorem ax_sPut_inv {c f : Nat} {σ σ' : ax_S} (h : ax_sPut c f σ = some σ') : ∃ v a r, σ.2.1 = v :: (2, c, a) :: r ∧ ax_pfk ((ax_fs c).getD f (0, 0, 0)) v = true ∧ σ' = (σ.1, r, ax_up σ.2.2.1 a.toNat f v.2.2, ax_pfc ((ax_fs c).getD f (0, 0, 0)) v σ.2.2.2) := by
  unfold ax_sPut at h
  split at h
  · rename_i v c' a r e
    split at h
    · rename_i hc
      obtain ⟨hc, hp⟩ := hc
      subst hc
      exact ⟨v, a, r, e, hp, (Option.some.inj h).symm⟩
    · cases h
  · cases h
theorem ax_sAld_inv {k j : Nat} {σ σ' : ax_S} (h : ax_sAld k j σ = some σ') : ∃ u i n a r, (σ.2.1 = (0, u, i) :: (k, n, a) :: r ∧ σ' = (σ.1, (j, 0, σ.2.2.1 a.toNat i.toNat) :: r, σ.2.2.1, σ.2.2.2 ∧ 0 ≤ i ∧ i < n)) ∨
    (σ.2.1 = (0, u, i) :: (10, n, a) :: r ∧ k = 3 ∧ σ' = (σ.1, (0, 0, (ax_cs.getD n ("", [])).2.getD i.toNat 0) :: r, σ.2.2.1, σ.2.2.2 ∧ 0 ≤ i ∧ i < (ax_cs.getD n ("", [])).2.length)) := by
  unfold ax_sAld at h
  split at h
  · rename_i u i k' n a r e
    refine ⟨u, i, n, a, r, ?_⟩
    split at h
    · rename_i hk
      subst hk
      exact Or.inl ⟨e, (Option.some.inj h).symm⟩
    · split at h
      · rename_i hk
        obtain ⟨hk, hk2⟩ := hk
        subst hk
        exact Or.inr ⟨e, hk2, (Option.some.inj h).symm⟩
      · cases h
  · cases h
theorem ax_sAst_inv {k j : Nat} {c : Int → Prop → Prop} {σ σ' : ax_S} (h : ax_sAst k j c σ = some σ') : ∃ w x u i n a r, σ.2.1 = (j, w, x) :: (0, u, i) :: (k, n, a) :: r ∧ σ' = (σ.1, r, ax_up σ.2.2.1 a.toNat i.toNat x, c x (σ.2.2.2 ∧ 0 ≤ i ∧ i < n)) := by
  unfold ax_sAst at h
  split at h
  · rename_i j' w x u i k' n a r e
    split at h
    · rename_i hk
      obtain ⟨hk, hj⟩ := hk
      subst hk; subst hj
      exact ⟨w, x, u, i, n, a, r, e, (Option.some.inj h).symm⟩
    · cases h
  · cases h
theorem ax_sLen_inv {σ σ' : ax_S} (h : ax_sLen σ = some σ') : ∃ k n a r, σ.2.1 = (k, n, a) :: r ∧ (k = 3 ∨ k = 4 ∨ k = 5 ∨ k = 6) ∧ σ' = (σ.1, (0, 0, (n : Int)) :: r, σ.2.2.1, σ.2.2.2 ∧ (n : Int) ≤ 2147483647) := by
  unfold ax_sLen at h
  split at h
  · rename_i k n a r e
    split at h
    · rename_i hk
      exact ⟨k, n, a, r, e, hk, (Option.some.inj h).symm⟩
    · cases h
  · cases h
theorem ax_sLL_inv {f : Int → Int → Int} {σ σ' : ax_S} (h : ax_sLL f σ = some σ') : ∃ u v a b r, σ.2.1 = (1, u, b) :: (1, v, a) :: r ∧ σ' = (σ.1, (1, 0, f a b) :: r, σ.2.2.1, σ.2.2.2 ∧ b ≠ 0) := by
  unfold ax_sLL at h
  split at h
  · rename_i u b v a r e
    exact ⟨u, v, a, b, r, e, (Option.some.inj h).symm⟩
  · cases h
theorem ax_sInc_inv {i w : Nat} {z : Int} {σ σ' : ax_S} (h : ax_sInc i w z σ = some σ') : ∃ u n, (i, ((0, u, n) : ax_V)) ∈ σ.1 ∧ (σ' = (ax_put σ.1 i (0, 0, ax_wr (n + z)), σ.2) ∨ σ' = (ax_put σ.1 i (0, 0, n + z), σ.2.1, σ.2.2.1, σ.2.2.2 ∧ ax_r32 (n + z))) := by
  unfold ax_sInc at h
  split at h
  · rename_i u n e
    refine ⟨u, n, ax_lk_mem e, ?_⟩
    split at h
    · exact Or.inl (Option.some.inj h).symm
    · exact Or.inr (Option.some.inj h).symm
  · cases h
theorem ax_wr_rid {x : Int} (h : ax_r32 x) : ax_wr x = x := ax_wr_id h.1 h.2
theorem ax_div_id {a b : Int} (ha : ax_r32 a) (h0 : 0 ≤ a) (hb : 0 < b) : ax_div a b = a / b := by
  unfold ax_div
  rw [Int.tdiv_eq_ediv_of_nonneg h0]
  have h1 : 0 ≤ a / b := Int.ediv_nonneg h0 (by omega)
  have h2 : a / b ≤ a := Int.ediv_le_self b h0
  exact ax_wr_id (by omega) (by have := ha.2; omega)
theorem ax_rem_id {a b : Int} (h0 : 0 ≤ a) (hb : 0 < b) : ax_rem a b = a % b := by
  unfold ax_rem
  rw [Int.tmod_eq_emod_of_nonneg h0]
theorem ax_csr : ∀ q ∈ ax_cs, ∀ i : Nat, ax_r32 (q.2.getD i 0) := by
  intro q hq i
  have h : ∀ x ∈ q.2, ax_r32 x := by
    simp only [ax_cs, List.mem_cons, List.not_mem_nil, or_false] at hq
    rcases hq with rfl | rfl | rfl <;> (intro x hx; simp only [List.mem_cons, List.not_mem_nil, or_false] at hx; unfold ax_r32; omega)
  rw [List.getD_eq_getElem?_getD]
  cases he : q.2[i]? with
  | none => show ax_r32 0; unfold ax_r32; omega
  | some x => exact h x (List.mem_of_getElem? he)
theorem ax_pfk_ok {q : Nat × Nat × Nat} {v : ax_V} {C : Prop} (h : ax_pfk q v = true) (hc : ax_pfc q v C) : C ∧ ax_pfok q v := by
  obtain ⟨k, u, δ⟩ := q
  obtain ⟨a, b, n⟩ := v
  simp only [ax_pfk, Bool.or_eq_true, Bool.and_eq_true, beq_iff_eq] at h
  rcases h with (⟨rfl, rfl⟩ | ⟨rfl, rfl⟩) | ⟨⟨rfl, rfl⟩, rfl⟩
  · by_cases hu : u = 0
    · subst hu
      exact ⟨by simpa [ax_pfc] using hc, Or.inl ⟨rfl, rfl, fun h => absurd rfl h⟩⟩
    · have hc : C ∧ 0 ≤ n ∧ n < u := by simpa [ax_pfc, hu] using hc
      exact ⟨hc.1, Or.inl ⟨rfl, rfl, fun _ => hc.2⟩⟩
  · have hc : C ∧ 0 ≤ n ∧ n ≤ 1 := by simpa [ax_pfc] using hc
    exact ⟨hc.1, Or.inr (Or.inl ⟨rfl, rfl, hc.2⟩)⟩
  · exact ⟨by simpa [ax_pfc] using hc, Or.inr (Or.inr ⟨rfl, rfl, rfl⟩)⟩
section AXR
variable {L : ax_L} {G : ax_G} {d : Nat} {Q : Option ax_V → ax_M → Prop}
/-- the range of an int on the stack may be used -/
theorem ax_rng2 {pc : Nat} {lc : List (Nat × ax_V)} {st : List ax_V} {M : ax_M} {u v : Nat} {a b : Int} (k : ax_r32 a → ax_r32 b → ax_W L G d pc lc ((0, u, b) :: (0, v, a) :: st) M Q) : ax_W L G d pc lc ((0, u, b) :: (0, v, a) :: st) M Q := by
  intro p l e s m args below meth c X H locs ls hC hl hok hR hS
  exact k hok.pop.topI hok.topI p l e s m args below meth c X H locs ls hC hl hok hR hS
theorem ax_st_ok (hLy : ax_lay L) (hK : ax_kok (ax_own G) (ax_kk G)) {o : ax_O} {lc lc' : List (Nat × ax_V)} {st st' : List ax_V} {M M' : ax_M} {C C' : Prop} (hd : decode (ax_cc G) o.1 = .ok (o.2.1, o.2.2.1)) (hp : ax_pool (ax_kk G) (ax_nL G) o = true) (h : ax_st o (lc, st, M, C) = some (lc', st', M', C')) (hC' : C') :
    C ∧ (ax_W L G d (ax_next o) lc' st' M' Q → ax_W L G d o.1 lc st M Q) := by
  obtain ⟨pc, i, len, a, b, z⟩ := o
  dsimp only at hd
  cases i with
  | iconst n =>
    simp only [ax_pool, Bool.and_eq_true, decide_eq_true_eq, beq_iff_eq] at hp
    obtain ⟨hn, rfl⟩ := hp
    simp only [ax_st, Option.some.injEq, Prod.mk.injEq] at h; obtain ⟨rfl, rfl, rfl, rfl⟩ := h
    exact ⟨hC', fun k => ax_iconst hd hn k⟩
  | bipush n =>
    simp only [ax_pool, Bool.and_eq_true, decide_eq_true_eq, beq_iff_eq] at hp
    obtain ⟨hn, rfl⟩ := hp
    simp only [ax_st, Option.some.injEq, Prod.mk.injEq] at h; obtain ⟨rfl, rfl, rfl, rfl⟩ := h
    exact ⟨hC', fun k => ax_bipush hd hn k⟩
  | sipush n =>
    simp only [ax_pool, Bool.and_eq_true, decide_eq_true_eq, beq_iff_eq] at hp
    obtain ⟨hn, rfl⟩ := hp
    simp only [ax_st, Option.some.injEq, Prod.mk.injEq] at h; obtain ⟨rfl, rfl, rfl, rfl⟩ := h
    exact ⟨hC', fun k => ax_sipush hd hn k⟩
  | ldc i =>
    simp only [ax_pool, Bool.and_eq_true, beq_iff_eq] at hp
    obtain ⟨hn, rfl⟩ := hp
    by_cases ha : a = 0
    · simp only [ax_st, ha, if_true, Option.some.injEq, Prod.mk.injEq] at h
      obtain ⟨rfl, rfl, rfl, rfl⟩ := h
      rw [if_pos ha] at hn
      obtain ⟨h1, h2⟩ := hK.2.1 _ (List.contains_iff_mem.mp hn)
      exact ⟨hC', fun k => ax_ldc hd h1 h2 k⟩
    · simp only [ax_st, ha, if_false, Option.some.injEq, Prod.mk.injEq] at h
      obtain ⟨rfl, rfl, rfl, rfl⟩ := h
      rw [if_neg ha] at hn
      obtain ⟨tx, h1⟩ := hK.2.2.2.2 _ (List.contains_iff_mem.mp hn)
      exact ⟨hC', fun k => ax_ldcS hd h1 k⟩
  | ldc_w i =>
    simp only [ax_pool, Bool.and_eq_true, beq_iff_eq] at hp
    obtain ⟨hn, rfl⟩ := hp
    by_cases ha : a = 0
    · simp only [ax_st, ha, if_true, Option.some.injEq, Prod.mk.injEq] at h
      obtain ⟨rfl, rfl, rfl, rfl⟩ := h
      obtain ⟨h1, h2⟩ := hK.2.1 _ (List.contains_iff_mem.mp hn)
      exact ⟨hC', fun k => ax_ldcw hd h1 h2 k⟩
    · simp only [ax_st, ha, if_false] at h
      cases h
  | ldc2_w i =>
    simp only [ax_pool, Bool.and_eq_true, beq_iff_eq] at hp
    obtain ⟨hn, rfl⟩ := hp
    simp only [ax_st, Option.some.injEq, Prod.mk.injEq] at h; obtain ⟨rfl, rfl, rfl, rfl⟩ := h
    obtain ⟨h1, h2⟩ := hK.2.2.1 _ (List.contains_iff_mem.mp hn)
    exact ⟨hC', fun k => ax_ldc2 hd h1 h2 k⟩
  | lconst n =>
    simp only [ax_pool, beq_iff_eq] at hp
    subst hp
    simp only [ax_st, Option.some.injEq, Prod.mk.injEq] at h; obtain ⟨rfl, rfl, rfl, rfl⟩ := h
    exact ⟨hC', fun k => ax_lconst hd k⟩
  | iload i =>
    simp only [ax_pool, beq_iff_eq] at hp
    subst hp
    obtain ⟨u, n, hm, he⟩ := ax_sLdI_inv h
    simp only [Prod.mk.injEq] at he; obtain ⟨rfl, rfl, rfl, rfl⟩ := he
    exact ⟨hC', fun k => ax_iload hd hm k⟩
  | iload_n i =>
    simp only [ax_pool, beq_iff_eq] at hp
    subst hp
    obtain ⟨u, n, hm, he⟩ := ax_sLdI_inv h
    simp only [Prod.mk.injEq] at he; obtain ⟨rfl, rfl, rfl, rfl⟩ := he
    exact ⟨hC', fun k => ax_iload_n hd rfl hm k⟩
  | lload i =>
    simp only [ax_pool, beq_iff_eq] at hp
    subst hp
    obtain ⟨u, n, hm, he⟩ := ax_sLdL_inv h
    simp only [Prod.mk.injEq] at he; obtain ⟨rfl, rfl, rfl, rfl⟩ := he
    exact ⟨hC', fun k => ax_lload hd hm k⟩
  | lload_n i =>
    simp only [ax_pool, beq_iff_eq] at hp
    subst hp
    obtain ⟨u, n, hm, he⟩ := ax_sLdL_inv h
    simp only [Prod.mk.injEq] at he; obtain ⟨rfl, rfl, rfl, rfl⟩ := he
    exact ⟨hC', fun k => ax_lload_n hd rfl hm k⟩
  | aload i =>
    simp only [ax_pool, beq_iff_eq] at hp
    subst hp
    obtain ⟨v, hm, hv, he⟩ := ax_sLdA_inv h
    simp only [Prod.mk.injEq] at he; obtain ⟨rfl, rfl, rfl, rfl⟩ := he
    exact ⟨hC', fun k => ax_aload hd hm hv k⟩
  | aload_n i =>
    simp only [ax_pool, beq_iff_eq] at hp
    subst hp
    obtain ⟨v, hm, hv, he⟩ := ax_sLdA_inv h
    simp only [Prod.mk.injEq] at he; obtain ⟨rfl, rfl, rfl, rfl⟩ := he
    exact ⟨hC', fun k => ax_aload_n hd rfl hm hv k⟩
  | istore i =>
    simp only [ax_pool, Bool.and_eq_true, decide_eq_true_eq, beq_iff_eq] at hp
    obtain ⟨hi, rfl⟩ := hp
    obtain ⟨u, n, r, e, he⟩ := ax_sSt_inv h
    dsimp only at e; subst e
    simp only [Prod.mk.injEq] at he; obtain ⟨rfl, rfl, rfl, rfl⟩ := he
    exact ⟨hC', fun k => ax_istore hd hi k⟩
  | istore_n i =>
    simp only [ax_pool, Bool.and_eq_true, decide_eq_true_eq, beq_iff_eq] at hp
    obtain ⟨hi, rfl⟩ := hp
    obtain ⟨u, n, r, e, he⟩ := ax_sSt_inv h
    dsimp only at e; subst e
    simp only [Prod.mk.injEq] at he; obtain ⟨rfl, rfl, rfl, rfl⟩ := he
    exact ⟨hC', fun k => ax_istore_n hd rfl hi k⟩
  | lstore i =>
    simp only [ax_pool, Bool.and_eq_true, decide_eq_true_eq, beq_iff_eq] at hp
    obtain ⟨hi, rfl⟩ := hp
    obtain ⟨u, n, r, e, he⟩ := ax_sStL_inv h
    dsimp only at e; subst e
    simp only [Prod.mk.injEq] at he; obtain ⟨rfl, rfl, rfl, rfl⟩ := he
    exact ⟨hC', fun k => ax_lstore hd hi k⟩
  | lstore_n i =>
    simp only [ax_pool, Bool.and_eq_true, decide_eq_true_eq, beq_iff_eq] at hp
    obtain ⟨hi, rfl⟩ := hp
    obtain ⟨u, n, r, e, he⟩ := ax_sStL_inv h
    dsimp only at e; subst e
    simp only [Prod.mk.injEq] at he; obtain ⟨rfl, rfl, rfl, rfl⟩ := he
    exact ⟨hC', fun k => ax_lstore_n hd rfl hi k⟩
  | astore i =>
    simp only [ax_pool, Bool.and_eq_true, decide_eq_true_eq, beq_iff_eq] at hp
    obtain ⟨hi, rfl⟩ := hp
    obtain ⟨v, r, e, hv, he⟩ := ax_sStA_inv h
    dsimp only at e; subst e
    simp only [Prod.mk.injEq] at he; obtain ⟨rfl, rfl, rfl, rfl⟩ := he
    exact ⟨hC', fun k => ax_astore hd hi hv k⟩
  | astore_n i =>
    simp only [ax_pool, Bool.and_eq_true, decide_eq_true_eq, beq_iff_eq] at hp
    obtain ⟨hi, rfl⟩ := hp
    obtain ⟨v, r, e, hv, he⟩ := ax_sStA_inv h
    dsimp only at e; subst e
    simp only [Prod.mk.injEq] at he; obtain ⟨rfl, rfl, rfl, rfl⟩ := he
    exact ⟨hC', fun k => ax_astore_n hd rfl hi hv k⟩
  | iinc i z =>
    simp only [ax_pool, Bool.and_eq_true, decide_eq_true_eq, beq_iff_eq] at hp
    obtain ⟨hi, rfl⟩ := hp
    obtain ⟨u, n, hm, he⟩ := ax_sInc_inv h
    rcases he with he | he
    · simp only [Prod.mk.injEq] at he; obtain ⟨rfl, rfl, rfl, rfl⟩ := he
      exact ⟨hC', fun k => ax_iinc hd hm hi k⟩
    · simp only [Prod.mk.injEq] at he; obtain ⟨rfl, rfl, rfl, rfl⟩ := he
      exact ⟨hC'.1, fun k => ax_iinc hd hm hi (by rw [ax_wr_rid hC'.2]; exact k)⟩
  | iadd =>
    simp only [ax_pool, beq_iff_eq] at hp
    subst hp
    obtain ⟨u, v, x, y, r, e, he⟩ := ax_sB_inv h
    dsimp only at e; subst e
    rcases he with ⟨-, he⟩ | ⟨he, -⟩
    · simp only [Prod.mk.injEq] at he; obtain ⟨rfl, rfl, rfl, rfl⟩ := he
      exact ⟨hC', fun k => ax_iadd hd k⟩
    · simp only [Prod.mk.injEq] at he; obtain ⟨rfl, rfl, rfl, rfl⟩ := he
      exact ⟨hC'.1, fun k => ax_iadd hd (by rw [ax_wr_rid hC'.2]; exact k)⟩
  | isub =>
    simp only [ax_pool, beq_iff_eq] at hp
    subst hp
    obtain ⟨u, v, x, y, r, e, he⟩ := ax_sB_inv h
    dsimp only at e; subst e
    rcases he with ⟨-, he⟩ | ⟨he, -⟩
    · simp only [Prod.mk.injEq] at he; obtain ⟨rfl, rfl, rfl, rfl⟩ := he
      exact ⟨hC', fun k => ax_isub hd k⟩
    · simp only [Prod.mk.injEq] at he; obtain ⟨rfl, rfl, rfl, rfl⟩ := he
      exact ⟨hC'.1, fun k => ax_isub hd (by rw [ax_wr_rid hC'.2]; exact k)⟩
  | imul =>
    simp only [ax_pool, beq_iff_eq] at hp
    subst hp
    obtain ⟨u, v, x, y, r, e, he⟩ := ax_sB_inv h
    dsimp only at e; subst e
    rcases he with ⟨-, he⟩ | ⟨he, -⟩
    · simp only [Prod.mk.injEq] at he; obtain ⟨rfl, rfl, rfl, rfl⟩ := he
      exact ⟨hC', fun k => ax_imul hd k⟩
    · simp only [Prod.mk.injEq] at he; obtain ⟨rfl, rfl, rfl, rfl⟩ := he
      exact ⟨hC'.1, fun k => ax_imul hd (by rw [ax_wr_rid hC'.2]; exact k)⟩
  | iand =>
    simp only [ax_pool, beq_iff_eq] at hp
    subst hp
    obtain ⟨u, v, x, y, r, e, he⟩ := ax_sB_inv h
    dsimp only at e; subst e
    rcases he with ⟨-, he⟩ | ⟨-, he⟩
    · simp only [Prod.mk.injEq] at he; obtain ⟨rfl, rfl, rfl, rfl⟩ := he
      exact ⟨hC', fun k => ax_iand hd k⟩
    · exact absurd rfl he
  | ior =>
    simp only [ax_pool, beq_iff_eq] at hp
    subst hp
    obtain ⟨u, v, x, y, r, e, he⟩ := ax_sB_inv h
    dsimp only at e; subst e
    rcases he with ⟨-, he⟩ | ⟨-, he⟩
    · simp only [Prod.mk.injEq] at he; obtain ⟨rfl, rfl, rfl, rfl⟩ := he
      exact ⟨hC', fun k => ax_ior hd k⟩
    · exact absurd rfl he
  | ixor =>
    simp only [ax_pool, beq_iff_eq] at hp
    subst hp
    obtain ⟨u, v, x, y, r, e, he⟩ := ax_sB_inv h
    dsimp only at e; subst e
    rcases he with ⟨-, he⟩ | ⟨-, he⟩
    · simp only [Prod.mk.injEq] at he; obtain ⟨rfl, rfl, rfl, rfl⟩ := he
      exact ⟨hC', fun k => ax_ixor hd k⟩
    · exact absurd rfl he
  | ishl =>
    simp only [ax_pool, beq_iff_eq] at hp
    subst hp
    obtain ⟨u, v, x, y, r, e, he⟩ := ax_sB_inv h
    dsimp only at e; subst e
    rcases he with ⟨-, he⟩ | ⟨-, he⟩
    · simp only [Prod.mk.injEq] at he; obtain ⟨rfl, rfl, rfl, rfl⟩ := he
      exact ⟨hC', fun k => ax_ishl hd k⟩
    · exact absurd rfl he
  | ishr =>
    simp only [ax_pool, beq_iff_eq] at hp
    subst hp
    obtain ⟨u, v, x, y, r, e, he⟩ := ax_sB_inv h
    dsimp only at e; subst e
    rcases he with ⟨-, he⟩ | ⟨-, he⟩
    · simp only [Prod.mk.injEq] at he; obtain ⟨rfl, rfl, rfl, rfl⟩ := he
      exact ⟨hC', fun k => ax_ishr hd k⟩
    · exact absurd rfl he
  | iushr =>
    simp only [ax_pool, beq_iff_eq] at hp
    subst hp
    obtain ⟨u, v, x, y, r, e, he⟩ := ax_sB_inv h
    dsimp only at e; subst e
    rcases he with ⟨-, he⟩ | ⟨-, he⟩
    · simp only [Prod.mk.injEq] at he; obtain ⟨rfl, rfl, rfl, rfl⟩ := he
      exact ⟨hC', fun k => ax_iushr hd k⟩
    · exact absurd rfl he
  | idiv =>
    simp only [ax_pool, beq_iff_eq] at hp
    subst hp
    obtain ⟨u, v, x, y, r, e, he⟩ := ax_sBc_inv h
    dsimp only at e; subst e
    rcases he with he | he
    · simp only [Prod.mk.injEq] at he; obtain ⟨rfl, rfl, rfl, rfl⟩ := he
      exact ⟨hC'.1, fun k => ax_idiv hd hC'.2 k⟩
    · simp only [Prod.mk.injEq] at he; obtain ⟨rfl, rfl, rfl, rfl⟩ := he
      exact ⟨hC'.1, fun k => ax_rng2 fun ha _ => ax_idiv hd (by have := hC'.2.2; omega) (by rw [ax_div_id ha hC'.2.1 hC'.2.2]; exact k)⟩
  | irem =>
    simp only [ax_pool, beq_iff_eq] at hp
    subst hp
    obtain ⟨u, v, x, y, r, e, he⟩ := ax_sBc_inv h
    dsimp only at e; subst e
    rcases he with he | he
    · simp only [Prod.mk.injEq] at he; obtain ⟨rfl, rfl, rfl, rfl⟩ := he
      exact ⟨hC'.1, fun k => ax_irem hd hC'.2 k⟩
    · simp only [Prod.mk.injEq] at he; obtain ⟨rfl, rfl, rfl, rfl⟩ := he
      exact ⟨hC'.1, fun k => ax_irem hd (by have := hC'.2.2; omega) (by rw [ax_rem_id hC'.2.1 hC'.2.2]; exact k)⟩
  | ineg =>
    simp only [ax_pool, beq_iff_eq] at hp
    subst hp
    obtain ⟨u, x, r, e, he⟩ := ax_sU_inv h
    dsimp only at e; subst e
    simp only [Prod.mk.injEq] at he; obtain ⟨rfl, rfl, rfl, rfl⟩ := he
    exact ⟨hC', fun k => ax_ineg hd k⟩
  | i2b =>
    simp only [ax_pool, beq_iff_eq] at hp
    subst hp
    obtain ⟨u, x, r, e, he⟩ := ax_sU_inv h
    dsimp only at e; subst e
    simp only [Prod.mk.injEq] at he; obtain ⟨rfl, rfl, rfl, rfl⟩ := he
    exact ⟨hC', fun k => ax_i2b_ hd k⟩
  | i2s =>
    simp only [ax_pool, beq_iff_eq] at hp
    subst hp
    obtain ⟨u, x, r, e, he⟩ := ax_sU_inv h
    dsimp only at e; subst e
    simp only [Prod.mk.injEq] at he; obtain ⟨rfl, rfl, rfl, rfl⟩ := he
    exact ⟨hC', fun k => ax_i2s_ hd k⟩
  | i2c =>
    simp only [ax_pool, beq_iff_eq] at hp
    subst hp
    obtain ⟨u, x, r, e, he⟩ := ax_sU_inv h
    dsimp only at e; subst e
    simp only [Prod.mk.injEq] at he; obtain ⟨rfl, rfl, rfl, rfl⟩ := he
    exact ⟨hC', fun k => ax_i2c_ hd k⟩
  | i2l =>
    simp only [ax_pool, beq_iff_eq] at hp
    subst hp
    simp only [ax_st] at h
    split at h
    · simp only [Option.some.injEq, Prod.mk.injEq] at h; obtain ⟨rfl, rfl, rfl, rfl⟩ := h
      exact ⟨hC', fun k => ax_i2l_ hd k⟩
    · cases h
  | lcmp =>
    simp only [ax_pool, beq_iff_eq] at hp
    subst hp
    simp only [ax_st] at h
    split at h
    · simp only [Option.some.injEq, Prod.mk.injEq] at h; obtain ⟨rfl, rfl, rfl, rfl⟩ := h
      exact ⟨hC', fun k => ax_lcmp_ hd k⟩
    · cases h
  | ldiv =>
    simp only [ax_pool, beq_iff_eq] at hp
    subst hp
    obtain ⟨u, v, x, y, r, e, he⟩ := ax_sLL_inv h
    dsimp only at e; subst e
    simp only [Prod.mk.injEq] at he; obtain ⟨rfl, rfl, rfl, rfl⟩ := he
    exact ⟨hC'.1, fun k => ax_ldiv_ hd hC'.2 k⟩
  | lrem =>
    simp only [ax_pool, beq_iff_eq] at hp
    subst hp
    obtain ⟨u, v, x, y, r, e, he⟩ := ax_sLL_inv h
    dsimp only at e; subst e
    simp only [Prod.mk.injEq] at he; obtain ⟨rfl, rfl, rfl, rfl⟩ := he
    exact ⟨hC'.1, fun k => ax_lrem_ hd hC'.2 k⟩
  | pop =>
    simp only [ax_pool, beq_iff_eq] at hp
    subst hp
    simp only [ax_st] at h
    split at h
    · split at h
      · cases h
      · rename_i hv
        simp only [Option.some.injEq, Prod.mk.injEq] at h; obtain ⟨rfl, rfl, rfl, rfl⟩ := h
        exact ⟨hC', fun k => ax_pop hd hv k⟩
    · cases h
  | dup =>
    simp only [ax_pool, beq_iff_eq] at hp
    subst hp
    simp only [ax_st] at h
    split at h
    · split at h
      · cases h
      · rename_i hv
        simp only [Option.some.injEq, Prod.mk.injEq] at h; obtain ⟨rfl, rfl, rfl, rfl⟩ := h
        exact ⟨hC', fun k => ax_dup hd hv k⟩
    · cases h
  | dup2 =>
    simp only [ax_pool, beq_iff_eq] at hp
    subst hp
    simp only [ax_st] at h
    split at h
    · split at h
      · cases h
      · rename_i hv
        simp only [Option.some.injEq, Prod.mk.injEq] at h; obtain ⟨rfl, rfl, rfl, rfl⟩ := h
        exact ⟨hC', fun k => ax_dup2 hd (fun z => hv (Or.inl z)) (fun z => hv (Or.inr z)) k⟩
    · cases h
  | getfield i =>
    simp only [ax_pool, Bool.and_eq_true, Bool.or_eq_true, beq_iff_eq] at hp
    obtain ⟨hi, rfl⟩ := hp
    obtain ⟨x, r, e, he⟩ := ax_sGet_inv h
    dsimp only at e; subst e
    simp only [Prod.mk.injEq] at he; obtain ⟨rfl, rfl, rfl, rfl⟩ := he
    refine ⟨hC', fun k => ?_⟩
    rcases hi with hi | hi
    · obtain ⟨C0, T0, N0, ty0, h1, h2, h3, h4, -, h6⟩ := hK.1 _ (List.contains_iff_mem.mp hi)
      rcases h6 with ⟨-, h6⟩ | ⟨host, h6⟩
      · exact ax_getf hd hLy h1 h3 h2 h4 h6 k
      · exact ax_getfN hd hLy h1 h3 h2 h4 h6 k
    · obtain ⟨C0, T0, N0, ty0, h1, h2, h3, h4, -, h6⟩ := hK.1 _ (List.contains_iff_mem.mp hi)
      rcases h6 with ⟨-, h6⟩ | ⟨host, h6⟩
      · exact ax_getf hd hLy h1 h3 h2 h4 h6 k
      · exact ax_getfN hd hLy h1 h3 h2 h4 h6 k
  | putfield i =>
    simp only [ax_pool, Bool.and_eq_true, Bool.or_eq_true, beq_iff_eq] at hp
    obtain ⟨hi, rfl⟩ := hp
    obtain ⟨v, x, r, e, hk, he⟩ := ax_sPut_inv h
    dsimp only at e; subst e
    simp only [Prod.mk.injEq] at he; obtain ⟨rfl, rfl, rfl, rfl⟩ := he
    obtain ⟨hC0, hv⟩ := ax_pfk_ok hk hC'
    refine ⟨hC0, fun k => ?_⟩
    have big : ¬ (2 ≤ ((ax_fs a).getD b (0, 0, 0)).1 ∧ ((ax_fs a).getD b (0, 0, 0)).1 ≤ 6) := by
      rcases hv with ⟨h, -⟩ | ⟨h, -⟩ | ⟨h, -⟩
      · have h' : ((ax_fs a).getD b (0, 0, 0)).1 = 0 := h
        omega
      · have h' : ((ax_fs a).getD b (0, 0, 0)).1 = 8 := h
        omega
      · have h' : ((ax_fs a).getD b (0, 0, 0)).1 = 9 := h
        omega
    rcases hi with hi | hi
    · obtain ⟨C0, T0, N0, ty0, h1, h2, h3, -, h5, h6⟩ := hK.1 _ (List.contains_iff_mem.mp hi)
      rcases h5 with ⟨h5, h5f⟩ | h5
      · rcases h6 with ⟨-, h6⟩ | ⟨host, h6⟩
        · exact ax_putf hd h1 h3 h2 h5f h5 h6 hv k
        · exact ax_putfN hd h1 h3 h2 h5f h5 h6 hv k
      · exact absurd h5 big
    · obtain ⟨C0, T0, N0, ty0, h1, h2, h3, -, h5, h6⟩ := hK.1 _ (List.contains_iff_mem.mp hi)
      rcases h5 with ⟨h5, h5f⟩ | h5
      · rcases h6 with ⟨-, h6⟩ | ⟨host, h6⟩
        · exact ax_putf hd h1 h3 h2 h5f h5 h6 hv k
        · exact ax_putfN hd h1 h3 h2 h5f h5 h6 hv k
      · exact absurd h5 big
  | getstatic i =>
    simp only [ax_pool, Bool.and_eq_true, beq_iff_eq] at hp
    obtain ⟨hi, rfl⟩ := hp
    simp only [ax_st, Option.some.injEq, Prod.mk.injEq] at h; obtain ⟨rfl, rfl, rfl, rfl⟩ := h
    obtain ⟨cs, h1, h2⟩ := hK.2.2.2.1 _ (List.contains_iff_mem.mp hi)
    exact ⟨hC', fun k => ax_gets hd h1 h2 k⟩
  | iaload =>
    simp only [ax_pool, beq_iff_eq] at hp
    subst hp
    obtain ⟨u, i, n, x, r, he⟩ := ax_sAld_inv h
    rcases he with ⟨e, he⟩ | ⟨e, hk, he⟩
    · dsimp only at e; subst e
      simp only [Prod.mk.injEq] at he; obtain ⟨rfl, rfl, rfl, rfl⟩ := he
      exact ⟨hC'.1, fun k => ax_iaload hd hC'.2 k⟩
    · dsimp only at e; subst e
      simp only [Prod.mk.injEq] at he; obtain ⟨rfl, rfl, rfl, rfl⟩ := he
      have hj : ax_cs[n]? = some (ax_cs.getD n ("", [])) := by
        cases hq : ax_cs[n]? with
        | none =>
          have h9 := hC'.2
          rw [List.getD_eq_getElem?_getD, hq] at h9
          have h8 : i < 0 := h9.2
          omega
        | some q => rw [ax_getD hq]
      exact ⟨hC'.1, fun k => ax_kaload hd hj hC'.2 (ax_csr _ (List.mem_of_getElem? hj) _) k⟩
  | laload =>
    simp only [ax_pool, beq_iff_eq] at hp
    subst hp
    obtain ⟨u, i, n, x, r, he⟩ := ax_sAld_inv h
    rcases he with ⟨e, he⟩ | ⟨e, hk, he⟩
    · dsimp only at e; subst e
      simp only [Prod.mk.injEq] at he; obtain ⟨rfl, rfl, rfl, rfl⟩ := he
      exact ⟨hC'.1, fun k => ax_laload hd hC'.2 k⟩
    · cases hk
  | caload =>
    simp only [ax_pool, beq_iff_eq] at hp
    subst hp
    obtain ⟨u, i, n, x, r, he⟩ := ax_sAld_inv h
    rcases he with ⟨e, he⟩ | ⟨e, hk, he⟩
    · dsimp only at e; subst e
      simp only [Prod.mk.injEq] at he; obtain ⟨rfl, rfl, rfl, rfl⟩ := he
      exact ⟨hC'.1, fun k => ax_caload hd hC'.2 k⟩
    · cases hk
  | baload =>
    simp only [ax_pool, beq_iff_eq] at hp
    subst hp
    obtain ⟨u, i, n, x, r, he⟩ := ax_sAld_inv h
    rcases he with ⟨e, he⟩ | ⟨e, hk, he⟩
    · dsimp only at e; subst e
      simp only [Prod.mk.injEq] at he; obtain ⟨rfl, rfl, rfl, rfl⟩ := he
      exact ⟨hC'.1, fun k => ax_baload hd hC'.2 k⟩
    · cases hk
  | iastore =>
    simp only [ax_pool, beq_iff_eq] at hp
    subst hp
    simp only [ax_st] at h
    obtain ⟨w, x, u, i, n, y, r, e, he⟩ := ax_sAst_inv h
    dsimp only at e; subst e
    simp only [Prod.mk.injEq] at he; obtain ⟨rfl, rfl, rfl, rfl⟩ := he
    exact ⟨hC'.1, fun k => ax_iastore hd hC'.2 k⟩
  | lastore =>
    simp only [ax_pool, beq_iff_eq] at hp
    subst hp
    simp only [ax_st] at h
    obtain ⟨w, x, u, i, n, y, r, e, he⟩ := ax_sAst_inv h
    dsimp only at e; subst e
    simp only [Prod.mk.injEq] at he; obtain ⟨rfl, rfl, rfl, rfl⟩ := he
    exact ⟨hC'.1, fun k => ax_lastore hd hC'.2 k⟩
  | castore =>
    simp only [ax_pool, beq_iff_eq] at hp
    subst hp
    simp only [ax_st] at h
    obtain ⟨w, x, u, i, n, y, r, e, he⟩ := ax_sAst_inv h
    dsimp only at e; subst e
    simp only [Prod.mk.injEq] at he; obtain ⟨rfl, rfl, rfl, rfl⟩ := he
    exact ⟨hC'.1.1, fun k => ax_castore hd hC'.1.2 hC'.2 k⟩
  | bastore =>
    simp only [ax_pool, beq_iff_eq] at hp
    subst hp
    simp only [ax_st] at h
    obtain ⟨w, x, u, i, n, y, r, e, he⟩ := ax_sAst_inv h
    dsimp only at e; subst e
    simp only [Prod.mk.injEq] at he; obtain ⟨rfl, rfl, rfl, rfl⟩ := he
    exact ⟨hC'.1.1, fun k => ax_bastore hd hC'.1.2 hC'.2 k⟩
  | arraylength =>
    simp only [ax_pool, beq_iff_eq] at hp
    subst hp
    obtain ⟨k, n, x, r, e, hk, he⟩ := ax_sLen_inv h
    dsimp only at e; subst e
    simp only [Prod.mk.injEq] at he; obtain ⟨rfl, rfl, rfl, rfl⟩ := he
    refine ⟨hC'.1, fun kk => ax_alen (n := n) (a := x) ?_ hd hC'.2 kk⟩
    rcases hk with rfl | rfl | rfl | rfl
    · exact Or.inl rfl
    · exact Or.inr (Or.inl rfl)
    · exact Or.inr (Or.inr (Or.inl rfl))
    · exact Or.inr (Or.inr (Or.inr rfl))
  | goto off =>
    simp only [ax_pool, Bool.and_eq_true, decide_eq_true_eq, beq_iff_eq] at hp
    obtain ⟨ht, rfl⟩ := hp
    simp only [ax_st, Option.some.injEq, Prod.mk.injEq] at h; obtain ⟨rfl, rfl, rfl, rfl⟩ := h
    exact ⟨hC', fun k => ax_goto hd ht k⟩
  | _ => cases h
theorem ax_run_ok (hLy : ax_lay L) (hK : ax_kok (ax_own G) (ax_kk G)) {pc' : Nat} {lc' : List (Nat × ax_V)} {st' : List ax_V} {M' : ax_M} {C' : Prop} (hC' : C') (k : ax_W L G d pc' lc' st' M' Q) :
    ∀ (os : List ax_O) (pc : Nat) (lc : List (Nat × ax_V)) (st : List ax_V) (M : ax_M) (C : Prop), ax_chk G pc os pc' = true → ax_run os (lc, st, M, C) = some (lc', st', M', C') → C ∧ ax_W L G d pc lc st M Q := by
  intro os
  induction os with
  | nil =>
    intro pc lc st M C hc h
    simp only [ax_chk, beq_iff_eq] at hc
    simp only [ax_run, Option.some.injEq, Prod.mk.injEq] at h
    obtain ⟨rfl, rfl, rfl, rfl⟩ := h
    subst hc
    exact ⟨hC', k⟩
  | cons o os ih =>
    intro pc lc st M C hc h
    simp only [ax_chk, Bool.and_eq_true, decide_eq_true_eq, beq_iff_eq] at hc
    obtain ⟨⟨⟨rfl, hd⟩, hp⟩, hc⟩ := hc
    simp only [ax_run] at h
    split at h
    · rename_i σ' hs
      obtain ⟨lc1, st1, M1, C1⟩ := σ'
      obtain ⟨h1, h2⟩ := ih _ _ _ _ _ hc h
      obtain ⟨h3, h4⟩ := ax_st_ok (d := d) (Q := Q) hLy hK hd hp hs h1
      exact ⟨h3, h4 h2⟩
    · cases h
/-- a stretch of a method -/
theorem ax_lump (hLy : ax_lay L) (hK : ax_kok (ax_own G) (ax_kk G)) (os : List ax_O) {pc pc' : Nat} {lc lc' : List (Nat × ax_V)} {st st' : List ax_V} {M M' : ax_M} {C' : Prop} (hc : ax_chk G pc os pc' = true) (h : ax_run os (lc, st, M, True) = some (lc', st', M', C')) (hC' : C') (k : ax_W L G d pc' lc' st' M' Q) : ax_W L G d pc lc st M Q :=
  (ax_run_ok hLy hK hC' k os pc lc st M True hc h).2
end AXR
