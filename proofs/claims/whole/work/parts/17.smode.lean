/-! ===== with safety: an expression is a pair, whether it is safe, and what it answers ===== -/
def ax_rq {R : Type} (c : Prop) (X : Prop × R) : Prop × R := (c ∧ X.1, X.2)
def ax_rc {R R' : Type} (Y : Prop × R') (k : R' → Prop × R) : Prop × R := (Y.1 ∧ (k Y.2).1, (k Y.2).2)
theorem ax_up_o1 {M : ax_M} {s i s' i' : Nat} {v : Int} (h : s' ≠ s) : ax_up M s i v s' i' = M s' i' := by simp [ax_up, h]
theorem ax_up_o2 {M : ax_M} {s i s' i' : Nat} {v : Int} (h : i' ≠ i) : ax_up M s i v s' i' = M s' i' := by simp [ax_up, h]
theorem ax_up_s {M : ax_M} {s i : Nat} {v : Int} : ax_up M s i v s i = v := by simp [ax_up]
section AXSM
variable {L : ax_L} {G : ax_G} {d pc : Nat} {lc : List (Nat × ax_V)} {st : List ax_V} {M : ax_M} {R : Type} {q : R → Option ax_V → ax_M → Prop} {E1 E2 : Prop × R}
theorem ax_bdMe {E : ax_M → R} (k : ∀ M1 : ax_M, M1 = M → ax_W L G d pc lc st M1 (q (E M1))) : ax_W L G d pc lc st M (q (ax_bd M E)) := k M rfl
theorem ax_bdMe_s {E : ax_M → Prop × R} (hX : (ax_bd M E).1) (k : ∀ M1 : ax_M, M1 = M → (E M1).1 → ax_W L G d pc lc st M1 (q (E M1).2)) : ax_W L G d pc lc st M (q (ax_bd M E).2) := k M rfl hX
theorem ax_rq_s {c : Prop} {X : Prop × R} {Q : R → Option ax_V → ax_M → Prop} (hX : (ax_rq c X).1) (k : c → X.1 → ax_W L G d pc lc st M (Q X.2)) : ax_W L G d pc lc st M (Q (ax_rq c X).2) := k hX.1 hX.2
theorem ax_bdI_s {lo hi e : Int} {E : Int → Prop × R} (hX : (ax_bd e E).1) (F : Int → List (Nat × ax_V)) (S : Int → List ax_V) (h : lo ≤ e ∧ e ≤ hi) (k : ∀ x : Int, lo ≤ x ∧ x ≤ hi → (E x).1 → ax_W L G d pc (F x) (S x) M (q (E x).2)) : ax_W L G d pc (F e) (S e) M (q (ax_bd e E).2) := k e h hX
theorem ax_bdI0_s {e : Int} {E : Int → Prop × R} (hX : (ax_bd e E).1) (F : Int → List (Nat × ax_V)) (S : Int → List ax_V) (k : ∀ x : Int, (E x).1 → ax_W L G d pc (F x) (S x) M (q (E x).2)) : ax_W L G d pc (F e) (S e) M (q (ax_bd e E).2) := k e hX
theorem ax_ite_s {c : Prop} [Decidable c] (hX : (if c then E1 else E2).1) (k1 : c → E1.1 → ax_W L G d pc lc st M (q E1.2)) (k2 : ¬ c → E2.1 → ax_W L G d pc lc st M (q E2.2)) : ax_W L G d pc lc st M (q (if c then E1 else E2).2) := by
  by_cases h : c
  · rw [if_pos h] at hX ⊢; exact k1 h hX
  · rw [if_neg h] at hX ⊢; exact k2 h hX
theorem ax_jeq_s {a b : Int} {u w : Nat} {off : Int} {tgt : Nat} [Decidable (a = b)] (hX : (if a = b then E1 else E2).1) (hd : decode (ax_cc G) pc = .ok (.if_icmp .eq off, 3)) (ht : (pc : Int) + off = (tgt : Int)) (k1 : a = b → E1.1 → ax_W L G d tgt lc st M (q E1.2)) (k2 : ¬ (a = b) → E2.1 → ax_W L G d (pc + 3) lc st M (q E2.2)) : ax_W L G d pc lc ((0, u, b) :: (0, w, a) :: st) M (q (if a = b then E1 else E2).2) := by
  refine ax_icmp_eq hd ht (fun h => ?_) (fun h => ?_)
  · rw [if_pos h] at hX ⊢; exact k1 h hX
  · rw [if_neg h] at hX ⊢; exact k2 h hX
theorem ax_jne_s {a b : Int} {u w : Nat} {off : Int} {tgt : Nat} [Decidable (a ≠ b)] (hX : (if a ≠ b then E1 else E2).1) (hd : decode (ax_cc G) pc = .ok (.if_icmp .ne off, 3)) (ht : (pc : Int) + off = (tgt : Int)) (k1 : a ≠ b → E1.1 → ax_W L G d tgt lc st M (q E1.2)) (k2 : ¬ (a ≠ b) → E2.1 → ax_W L G d (pc + 3) lc st M (q E2.2)) : ax_W L G d pc lc ((0, u, b) :: (0, w, a) :: st) M (q (if a ≠ b then E1 else E2).2) := by
  refine ax_icmp_ne hd ht (fun h => ?_) (fun h => ?_)
  · rw [if_pos h] at hX ⊢; exact k1 h hX
  · rw [if_neg h] at hX ⊢; exact k2 h hX
theorem ax_jlt_s {a b : Int} {u w : Nat} {off : Int} {tgt : Nat} [Decidable (a < b)] (hX : (if a < b then E1 else E2).1) (hd : decode (ax_cc G) pc = .ok (.if_icmp .lt off, 3)) (ht : (pc : Int) + off = (tgt : Int)) (k1 : a < b → E1.1 → ax_W L G d tgt lc st M (q E1.2)) (k2 : ¬ (a < b) → E2.1 → ax_W L G d (pc + 3) lc st M (q E2.2)) : ax_W L G d pc lc ((0, u, b) :: (0, w, a) :: st) M (q (if a < b then E1 else E2).2) := by
  refine ax_icmp_lt hd ht (fun h => ?_) (fun h => ?_)
  · rw [if_pos h] at hX ⊢; exact k1 h hX
  · rw [if_neg h] at hX ⊢; exact k2 h hX
theorem ax_jge_s {a b : Int} {u w : Nat} {off : Int} {tgt : Nat} [Decidable (b ≤ a)] (hX : (if b ≤ a then E1 else E2).1) (hd : decode (ax_cc G) pc = .ok (.if_icmp .ge off, 3)) (ht : (pc : Int) + off = (tgt : Int)) (k1 : b ≤ a → E1.1 → ax_W L G d tgt lc st M (q E1.2)) (k2 : ¬ (b ≤ a) → E2.1 → ax_W L G d (pc + 3) lc st M (q E2.2)) : ax_W L G d pc lc ((0, u, b) :: (0, w, a) :: st) M (q (if b ≤ a then E1 else E2).2) := by
  refine ax_icmp_ge hd ht (fun h => ?_) (fun h => ?_)
  · rw [if_pos h] at hX ⊢; exact k1 h hX
  · rw [if_neg h] at hX ⊢; exact k2 h hX
theorem ax_jgt_s {a b : Int} {u w : Nat} {off : Int} {tgt : Nat} [Decidable (b < a)] (hX : (if b < a then E1 else E2).1) (hd : decode (ax_cc G) pc = .ok (.if_icmp .gt off, 3)) (ht : (pc : Int) + off = (tgt : Int)) (k1 : b < a → E1.1 → ax_W L G d tgt lc st M (q E1.2)) (k2 : ¬ (b < a) → E2.1 → ax_W L G d (pc + 3) lc st M (q E2.2)) : ax_W L G d pc lc ((0, u, b) :: (0, w, a) :: st) M (q (if b < a then E1 else E2).2) := by
  refine ax_icmp_gt hd ht (fun h => ?_) (fun h => ?_)
  · rw [if_pos h] at hX ⊢; exact k1 h hX
  · rw [if_neg h] at hX ⊢; exact k2 h hX
theorem ax_jle_s {a b : Int} {u w : Nat} {off : Int} {tgt : Nat} [Decidable (a ≤ b)] (hX : (if a ≤ b then E1 else E2).1) (hd : decode (ax_cc G) pc = .ok (.if_icmp .le off, 3)) (ht : (pc : Int) + off = (tgt : Int)) (k1 : a ≤ b → E1.1 → ax_W L G d tgt lc st M (q E1.2)) (k2 : ¬ (a ≤ b) → E2.1 → ax_W L G d (pc + 3) lc st M (q E2.2)) : ax_W L G d pc lc ((0, u, b) :: (0, w, a) :: st) M (q (if a ≤ b then E1 else E2).2) := by
  refine ax_icmp_le hd ht (fun h => ?_) (fun h => ?_)
  · rw [if_pos h] at hX ⊢; exact k1 h hX
  · rw [if_neg h] at hX ⊢; exact k2 h hX
theorem ax_zeq_s {a : Int} {u : Nat} {off : Int} {tgt : Nat} [Decidable (a = 0)] (hX : (if a = 0 then E1 else E2).1) (hd : decode (ax_cc G) pc = .ok (.ifCond .eq off, 3)) (ht : (pc : Int) + off = (tgt : Int)) (k1 : a = 0 → E1.1 → ax_W L G d tgt lc st M (q E1.2)) (k2 : ¬ (a = 0) → E2.1 → ax_W L G d (pc + 3) lc st M (q E2.2)) : ax_W L G d pc lc ((0, u, a) :: st) M (q (if a = 0 then E1 else E2).2) := by
  refine ax_if_eq hd ht (fun h => ?_) (fun h => ?_)
  · rw [if_pos h] at hX ⊢; exact k1 h hX
  · rw [if_neg h] at hX ⊢; exact k2 h hX
theorem ax_zne_s {a : Int} {u : Nat} {off : Int} {tgt : Nat} [Decidable (a ≠ 0)] (hX : (if a ≠ 0 then E1 else E2).1) (hd : decode (ax_cc G) pc = .ok (.ifCond .ne off, 3)) (ht : (pc : Int) + off = (tgt : Int)) (k1 : a ≠ 0 → E1.1 → ax_W L G d tgt lc st M (q E1.2)) (k2 : ¬ (a ≠ 0) → E2.1 → ax_W L G d (pc + 3) lc st M (q E2.2)) : ax_W L G d pc lc ((0, u, a) :: st) M (q (if a ≠ 0 then E1 else E2).2) := by
  refine ax_if_ne hd ht (fun h => ?_) (fun h => ?_)
  · rw [if_pos h] at hX ⊢; exact k1 h hX
  · rw [if_neg h] at hX ⊢; exact k2 h hX
theorem ax_zlt_s {a : Int} {u : Nat} {off : Int} {tgt : Nat} [Decidable (a < 0)] (hX : (if a < 0 then E1 else E2).1) (hd : decode (ax_cc G) pc = .ok (.ifCond .lt off, 3)) (ht : (pc : Int) + off = (tgt : Int)) (k1 : a < 0 → E1.1 → ax_W L G d tgt lc st M (q E1.2)) (k2 : ¬ (a < 0) → E2.1 → ax_W L G d (pc + 3) lc st M (q E2.2)) : ax_W L G d pc lc ((0, u, a) :: st) M (q (if a < 0 then E1 else E2).2) := by
  refine ax_if_lt hd ht (fun h => ?_) (fun h => ?_)
  · rw [if_pos h] at hX ⊢; exact k1 h hX
  · rw [if_neg h] at hX ⊢; exact k2 h hX
theorem ax_zge_s {a : Int} {u : Nat} {off : Int} {tgt : Nat} [Decidable (0 ≤ a)] (hX : (if 0 ≤ a then E1 else E2).1) (hd : decode (ax_cc G) pc = .ok (.ifCond .ge off, 3)) (ht : (pc : Int) + off = (tgt : Int)) (k1 : 0 ≤ a → E1.1 → ax_W L G d tgt lc st M (q E1.2)) (k2 : ¬ (0 ≤ a) → E2.1 → ax_W L G d (pc + 3) lc st M (q E2.2)) : ax_W L G d pc lc ((0, u, a) :: st) M (q (if 0 ≤ a then E1 else E2).2) := by
  refine ax_if_ge hd ht (fun h => ?_) (fun h => ?_)
  · rw [if_pos h] at hX ⊢; exact k1 h hX
  · rw [if_neg h] at hX ⊢; exact k2 h hX
theorem ax_zgt_s {a : Int} {u : Nat} {off : Int} {tgt : Nat} [Decidable (0 < a)] (hX : (if 0 < a then E1 else E2).1) (hd : decode (ax_cc G) pc = .ok (.ifCond .gt off, 3)) (ht : (pc : Int) + off = (tgt : Int)) (k1 : 0 < a → E1.1 → ax_W L G d tgt lc st M (q E1.2)) (k2 : ¬ (0 < a) → E2.1 → ax_W L G d (pc + 3) lc st M (q E2.2)) : ax_W L G d pc lc ((0, u, a) :: st) M (q (if 0 < a then E1 else E2).2) := by
  refine ax_if_gt hd ht (fun h => ?_) (fun h => ?_)
  · rw [if_pos h] at hX ⊢; exact k1 h hX
  · rw [if_neg h] at hX ⊢; exact k2 h hX
theorem ax_zle_s {a : Int} {u : Nat} {off : Int} {tgt : Nat} [Decidable (a ≤ 0)] (hX : (if a ≤ 0 then E1 else E2).1) (hd : decode (ax_cc G) pc = .ok (.ifCond .le off, 3)) (ht : (pc : Int) + off = (tgt : Int)) (k1 : a ≤ 0 → E1.1 → ax_W L G d tgt lc st M (q E1.2)) (k2 : ¬ (a ≤ 0) → E2.1 → ax_W L G d (pc + 3) lc st M (q E2.2)) : ax_W L G d pc lc ((0, u, a) :: st) M (q (if a ≤ 0 then E1 else E2).2) := by
  refine ax_if_le hd ht (fun h => ?_) (fun h => ?_)
  · rw [if_pos h] at hX ⊢; exact k1 h hX
  · rw [if_neg h] at hX ⊢; exact k2 h hX
theorem ax_cVm_s {G1 : ax_G} {d1 i c N n : Nat} {a : Int} {as : List ax_V} {C : String} {T : u_T} {ty : Nat → FieldType} {st0 : List ax_V} {lo hi : Int} {x : Int × ax_M} {E : Int × ax_M → Prop × R} (hX : (ax_bd x E).1) (hd : decode (ax_cc G) pc = .ok (.invokevirtual i, 3)) (hcl : ax_cls c C T N ty) (hcal : ax_cal G1 n) (hdd : d1 + 1 ≤ d) (hn : as.length = n) (hw1 : Cond.methodLink (ax_own G) i G1.1 ∈ ax_T) (hw2 : Cond.instanceMethod G1.1 ∈ ax_T) (hw3 : Cond.selects C G1.1 G1.1 ∈ ax_T) (hwd : ax_wd st ≤ 8) (hst : st0 = (as.reverse ++ (2, c, a) :: st)) (hM : ax_Met L G1 d1 ((2, c, a) :: as) M (ax_qm lo hi x)) (k : ∀ y : Int × ax_M, lo ≤ y.1 ∧ y.1 ≤ hi → (E y).1 → ax_W L G d (pc + 3) lc ((0, 0, y.1) :: st) y.2 (q (E y).2)) : ax_W L G d pc lc st0 M (q (ax_bd x E).2) := by
  subst hst
  refine ax_callV hd hcl hcal hdd hn hw1 hw2 hw3 hwd hM (fun r M1 hq _ => ?_)
  obtain ⟨rfl, rfl, h1, h2⟩ := hq
  exact k x ⟨h1, h2⟩ hX
theorem ax_cVv_s {G1 : ax_G} {d1 i c N n : Nat} {a : Int} {as : List ax_V} {C : String} {T : u_T} {ty : Nat → FieldType} {st0 : List ax_V} {x : ax_M} {E : ax_M → Prop × R} (hX : (ax_bd x E).1) (hd : decode (ax_cc G) pc = .ok (.invokevirtual i, 3)) (hcl : ax_cls c C T N ty) (hcal : ax_cal G1 n) (hdd : d1 + 1 ≤ d) (hn : as.length = n) (hw1 : Cond.methodLink (ax_own G) i G1.1 ∈ ax_T) (hw2 : Cond.instanceMethod G1.1 ∈ ax_T) (hw3 : Cond.selects C G1.1 G1.1 ∈ ax_T) (hwd : ax_wd st ≤ 8) (hst : st0 = (as.reverse ++ (2, c, a) :: st)) (hM : ax_Met L G1 d1 ((2, c, a) :: as) M (ax_qv x)) (k : ∀ y : ax_M, (E y).1 → ax_W L G d (pc + 3) lc st y (q (E y).2)) : ax_W L G d pc lc st0 M (q (ax_bd x E).2) := by
  subst hst
  refine ax_callV hd hcl hcal hdd hn hw1 hw2 hw3 hwd hM (fun r M1 hq _ => ?_)
  obtain ⟨rfl, rfl⟩ := hq
  exact k M1 hX
theorem ax_cVa_s {G1 : ax_G} {d1 i c N n : Nat} {a : Int} {as : List ax_V} {C : String} {T : u_T} {ty : Nat → FieldType} {st0 : List ax_V} {kd nn : Nat} {s0 : Int} {x : ax_M} {E : ax_M → Prop × R} (hX : (ax_bd x E).1) (hd : decode (ax_cc G) pc = .ok (.invokevirtual i, 3)) (hcl : ax_cls c C T N ty) (hcal : ax_cal G1 n) (hdd : d1 + 1 ≤ d) (hn : as.length = n) (hw1 : Cond.methodLink (ax_own G) i G1.1 ∈ ax_T) (hw2 : Cond.instanceMethod G1.1 ∈ ax_T) (hw3 : Cond.selects C G1.1 G1.1 ∈ ax_T) (hwd : ax_wd st ≤ 8) (hst : st0 = (as.reverse ++ (2, c, a) :: st)) (hM : ax_Met L G1 d1 ((2, c, a) :: as) M (ax_qa kd nn s0 x)) (k : ∀ y : ax_M, (E y).1 → ax_W L G d (pc + 3) lc ((kd, nn, s0) :: st) y (q (E y).2)) : ax_W L G d pc lc st0 M (q (ax_bd x E).2) := by
  subst hst
  refine ax_callV hd hcl hcal hdd hn hw1 hw2 hw3 hwd hM (fun r M1 hq _ => ?_)
  obtain ⟨rfl, rfl⟩ := hq
  exact k M1 hX
theorem ax_cVi_r {G1 : ax_G} {d1 i c N n : Nat} {a : Int} {as : List ax_V} {C : String} {T : u_T} {ty : Nat → FieldType} {st0 : List ax_V} {lo hi : Int} {x : Prop × Int} {E : Int → Prop × R} (hX : (ax_rc x E).1) (hd : decode (ax_cc G) pc = .ok (.invokevirtual i, 3)) (hcl : ax_cls c C T N ty) (hcal : ax_cal G1 n) (hdd : d1 + 1 ≤ d) (hn : as.length = n) (hw1 : Cond.methodLink (ax_own G) i G1.1 ∈ ax_T) (hw2 : Cond.instanceMethod G1.1 ∈ ax_T) (hw3 : Cond.selects C G1.1 G1.1 ∈ ax_T) (hwd : ax_wd st ≤ 8) (hst : st0 = (as.reverse ++ (2, c, a) :: st)) (hM : x.1 → ax_Met L G1 d1 ((2, c, a) :: as) M (ax_qi lo hi M x.2)) (k : ∀ y : Int, lo ≤ y ∧ y ≤ hi → (E y).1 → ax_W L G d (pc + 3) lc ((0, 0, y) :: st) M (q (E y).2)) : ax_W L G d pc lc st0 M (q (ax_rc x E).2) := by
  subst hst
  refine ax_callV hd hcl hcal hdd hn hw1 hw2 hw3 hwd (hM hX.1) (fun r M1 hq _ => ?_)
  obtain ⟨rfl, rfl, h1, h2⟩ := hq
  exact k x.2 ⟨h1, h2⟩ hX.2
theorem ax_cVl_r {G1 : ax_G} {d1 i c N n : Nat} {a : Int} {as : List ax_V} {C : String} {T : u_T} {ty : Nat → FieldType} {st0 : List ax_V} {x : Prop × Int} {E : Int → Prop × R} (hX : (ax_rc x E).1) (hd : decode (ax_cc G) pc = .ok (.invokevirtual i, 3)) (hcl : ax_cls c C T N ty) (hcal : ax_cal G1 n) (hdd : d1 + 1 ≤ d) (hn : as.length = n) (hw1 : Cond.methodLink (ax_own G) i G1.1 ∈ ax_T) (hw2 : Cond.instanceMethod G1.1 ∈ ax_T) (hw3 : Cond.selects C G1.1 G1.1 ∈ ax_T) (hwd : ax_wd st ≤ 8) (hst : st0 = (as.reverse ++ (2, c, a) :: st)) (hM : x.1 → ax_Met L G1 d1 ((2, c, a) :: as) M (ax_ql M x.2)) (k : ∀ y : Int, (E y).1 → ax_W L G d (pc + 3) lc ((1, 0, y) :: st) M (q (E y).2)) : ax_W L G d pc lc st0 M (q (ax_rc x E).2) := by
  subst hst
  refine ax_callV hd hcl hcal hdd hn hw1 hw2 hw3 hwd (hM hX.1) (fun r M1 hq _ => ?_)
  obtain ⟨rfl, rfl⟩ := hq
  exact k x.2 hX.2
theorem ax_cVm_r {G1 : ax_G} {d1 i c N n : Nat} {a : Int} {as : List ax_V} {C : String} {T : u_T} {ty : Nat → FieldType} {st0 : List ax_V} {lo hi : Int} {x : Prop × Int × ax_M} {E : Int × ax_M → Prop × R} (hX : (ax_rc x E).1) (hd : decode (ax_cc G) pc = .ok (.invokevirtual i, 3)) (hcl : ax_cls c C T N ty) (hcal : ax_cal G1 n) (hdd : d1 + 1 ≤ d) (hn : as.length = n) (hw1 : Cond.methodLink (ax_own G) i G1.1 ∈ ax_T) (hw2 : Cond.instanceMethod G1.1 ∈ ax_T) (hw3 : Cond.selects C G1.1 G1.1 ∈ ax_T) (hwd : ax_wd st ≤ 8) (hst : st0 = (as.reverse ++ (2, c, a) :: st)) (hM : x.1 → ax_Met L G1 d1 ((2, c, a) :: as) M (ax_qm lo hi x.2)) (k : ∀ y : Int × ax_M, lo ≤ y.1 ∧ y.1 ≤ hi → (E y).1 → ax_W L G d (pc + 3) lc ((0, 0, y.1) :: st) y.2 (q (E y).2)) : ax_W L G d pc lc st0 M (q (ax_rc x E).2) := by
  subst hst
  refine ax_callV hd hcl hcal hdd hn hw1 hw2 hw3 hwd (hM hX.1) (fun r M1 hq _ => ?_)
  obtain ⟨rfl, rfl, h1, h2⟩ := hq
  exact k x.2 ⟨h1, h2⟩ hX.2
theorem ax_cVv_r {G1 : ax_G} {d1 i c N n : Nat} {a : Int} {as : List ax_V} {C : String} {T : u_T} {ty : Nat → FieldType} {st0 : List ax_V} {x : Prop × ax_M} {E : ax_M → Prop × R} (hX : (ax_rc x E).1) (hd : decode (ax_cc G) pc = .ok (.invokevirtual i, 3)) (hcl : ax_cls c C T N ty) (hcal : ax_cal G1 n) (hdd : d1 + 1 ≤ d) (hn : as.length = n) (hw1 : Cond.methodLink (ax_own G) i G1.1 ∈ ax_T) (hw2 : Cond.instanceMethod G1.1 ∈ ax_T) (hw3 : Cond.selects C G1.1 G1.1 ∈ ax_T) (hwd : ax_wd st ≤ 8) (hst : st0 = (as.reverse ++ (2, c, a) :: st)) (hM : x.1 → ax_Met L G1 d1 ((2, c, a) :: as) M (ax_qv x.2)) (k : ∀ y : ax_M, (E y).1 → ax_W L G d (pc + 3) lc st y (q (E y).2)) : ax_W L G d pc lc st0 M (q (ax_rc x E).2) := by
  subst hst
  refine ax_callV hd hcl hcal hdd hn hw1 hw2 hw3 hwd (hM hX.1) (fun r M1 hq _ => ?_)
  obtain ⟨rfl, rfl⟩ := hq
  exact k x.2 hX.2
theorem ax_cNm_s {G1 : ax_G} {d1 i c N n : Nat} {a : Int} {as : List ax_V} {C host : String} {T : u_T} {ty : Nat → FieldType} {st0 : List ax_V} {lo hi : Int} {x : Int × ax_M} {E : Int × ax_M → Prop × R} (hX : (ax_bd x E).1) (hd : decode (ax_cc G) pc = .ok (.invokevirtual i, 3)) (hcl : ax_cls c C T N ty) (hcal : ax_cal G1 n) (hdd : d1 + 1 ≤ d) (hn : as.length = n) (hw1 : Cond.methodLinkNest (ax_own G) i G1.1 host ∈ lw_tbl) (hw2 : Cond.instanceMethod G1.1 ∈ ax_T) (hw3 : Cond.selects C G1.1 G1.1 ∈ ax_T) (hwd : ax_wd st ≤ 8) (hst : st0 = (as.reverse ++ (2, c, a) :: st)) (hM : ax_Met L G1 d1 ((2, c, a) :: as) M (ax_qm lo hi x)) (k : ∀ y : Int × ax_M, lo ≤ y.1 ∧ y.1 ≤ hi → (E y).1 → ax_W L G d (pc + 3) lc ((0, 0, y.1) :: st) y.2 (q (E y).2)) : ax_W L G d pc lc st0 M (q (ax_bd x E).2) := by
  subst hst
  refine ax_callN hd hcl hcal hdd hn hw1 hw2 hw3 hwd hM (fun r M1 hq _ => ?_)
  obtain ⟨rfl, rfl, h1, h2⟩ := hq
  exact k x ⟨h1, h2⟩ hX
theorem ax_cNv_s {G1 : ax_G} {d1 i c N n : Nat} {a : Int} {as : List ax_V} {C host : String} {T : u_T} {ty : Nat → FieldType} {st0 : List ax_V} {x : ax_M} {E : ax_M → Prop × R} (hX : (ax_bd x E).1) (hd : decode (ax_cc G) pc = .ok (.invokevirtual i, 3)) (hcl : ax_cls c C T N ty) (hcal : ax_cal G1 n) (hdd : d1 + 1 ≤ d) (hn : as.length = n) (hw1 : Cond.methodLinkNest (ax_own G) i G1.1 host ∈ lw_tbl) (hw2 : Cond.instanceMethod G1.1 ∈ ax_T) (hw3 : Cond.selects C G1.1 G1.1 ∈ ax_T) (hwd : ax_wd st ≤ 8) (hst : st0 = (as.reverse ++ (2, c, a) :: st)) (hM : ax_Met L G1 d1 ((2, c, a) :: as) M (ax_qv x)) (k : ∀ y : ax_M, (E y).1 → ax_W L G d (pc + 3) lc st y (q (E y).2)) : ax_W L G d pc lc st0 M (q (ax_bd x E).2) := by
  subst hst
  refine ax_callN hd hcl hcal hdd hn hw1 hw2 hw3 hwd hM (fun r M1 hq _ => ?_)
  obtain ⟨rfl, rfl⟩ := hq
  exact k M1 hX
theorem ax_cNa_s {G1 : ax_G} {d1 i c N n : Nat} {a : Int} {as : List ax_V} {C host : String} {T : u_T} {ty : Nat → FieldType} {st0 : List ax_V} {kd nn : Nat} {s0 : Int} {x : ax_M} {E : ax_M → Prop × R} (hX : (ax_bd x E).1) (hd : decode (ax_cc G) pc = .ok (.invokevirtual i, 3)) (hcl : ax_cls c C T N ty) (hcal : ax_cal G1 n) (hdd : d1 + 1 ≤ d) (hn : as.length = n) (hw1 : Cond.methodLinkNest (ax_own G) i G1.1 host ∈ lw_tbl) (hw2 : Cond.instanceMethod G1.1 ∈ ax_T) (hw3 : Cond.selects C G1.1 G1.1 ∈ ax_T) (hwd : ax_wd st ≤ 8) (hst : st0 = (as.reverse ++ (2, c, a) :: st)) (hM : ax_Met L G1 d1 ((2, c, a) :: as) M (ax_qa kd nn s0 x)) (k : ∀ y : ax_M, (E y).1 → ax_W L G d (pc + 3) lc ((kd, nn, s0) :: st) y (q (E y).2)) : ax_W L G d pc lc st0 M (q (ax_bd x E).2) := by
  subst hst
  refine ax_callN hd hcl hcal hdd hn hw1 hw2 hw3 hwd hM (fun r M1 hq _ => ?_)
  obtain ⟨rfl, rfl⟩ := hq
  exact k M1 hX
theorem ax_cNi_r {G1 : ax_G} {d1 i c N n : Nat} {a : Int} {as : List ax_V} {C host : String} {T : u_T} {ty : Nat → FieldType} {st0 : List ax_V} {lo hi : Int} {x : Prop × Int} {E : Int → Prop × R} (hX : (ax_rc x E).1) (hd : decode (ax_cc G) pc = .ok (.invokevirtual i, 3)) (hcl : ax_cls c C T N ty) (hcal : ax_cal G1 n) (hdd : d1 + 1 ≤ d) (hn : as.length = n) (hw1 : Cond.methodLinkNest (ax_own G) i G1.1 host ∈ lw_tbl) (hw2 : Cond.instanceMethod G1.1 ∈ ax_T) (hw3 : Cond.selects C G1.1 G1.1 ∈ ax_T) (hwd : ax_wd st ≤ 8) (hst : st0 = (as.reverse ++ (2, c, a) :: st)) (hM : x.1 → ax_Met L G1 d1 ((2, c, a) :: as) M (ax_qi lo hi M x.2)) (k : ∀ y : Int, lo ≤ y ∧ y ≤ hi → (E y).1 → ax_W L G d (pc + 3) lc ((0, 0, y) :: st) M (q (E y).2)) : ax_W L G d pc lc st0 M (q (ax_rc x E).2) := by
  subst hst
  refine ax_callN hd hcl hcal hdd hn hw1 hw2 hw3 hwd (hM hX.1) (fun r M1 hq _ => ?_)
  obtain ⟨rfl, rfl, h1, h2⟩ := hq
  exact k x.2 ⟨h1, h2⟩ hX.2
theorem ax_cNl_r {G1 : ax_G} {d1 i c N n : Nat} {a : Int} {as : List ax_V} {C host : String} {T : u_T} {ty : Nat → FieldType} {st0 : List ax_V} {x : Prop × Int} {E : Int → Prop × R} (hX : (ax_rc x E).1) (hd : decode (ax_cc G) pc = .ok (.invokevirtual i, 3)) (hcl : ax_cls c C T N ty) (hcal : ax_cal G1 n) (hdd : d1 + 1 ≤ d) (hn : as.length = n) (hw1 : Cond.methodLinkNest (ax_own G) i G1.1 host ∈ lw_tbl) (hw2 : Cond.instanceMethod G1.1 ∈ ax_T) (hw3 : Cond.selects C G1.1 G1.1 ∈ ax_T) (hwd : ax_wd st ≤ 8) (hst : st0 = (as.reverse ++ (2, c, a) :: st)) (hM : x.1 → ax_Met L G1 d1 ((2, c, a) :: as) M (ax_ql M x.2)) (k : ∀ y : Int, (E y).1 → ax_W L G d (pc + 3) lc ((1, 0, y) :: st) M (q (E y).2)) : ax_W L G d pc lc st0 M (q (ax_rc x E).2) := by
  subst hst
  refine ax_callN hd hcl hcal hdd hn hw1 hw2 hw3 hwd (hM hX.1) (fun r M1 hq _ => ?_)
  obtain ⟨rfl, rfl⟩ := hq
  exact k x.2 hX.2
theorem ax_cNm_r {G1 : ax_G} {d1 i c N n : Nat} {a : Int} {as : List ax_V} {C host : String} {T : u_T} {ty : Nat → FieldType} {st0 : List ax_V} {lo hi : Int} {x : Prop × Int × ax_M} {E : Int × ax_M → Prop × R} (hX : (ax_rc x E).1) (hd : decode (ax_cc G) pc = .ok (.invokevirtual i, 3)) (hcl : ax_cls c C T N ty) (hcal : ax_cal G1 n) (hdd : d1 + 1 ≤ d) (hn : as.length = n) (hw1 : Cond.methodLinkNest (ax_own G) i G1.1 host ∈ lw_tbl) (hw2 : Cond.instanceMethod G1.1 ∈ ax_T) (hw3 : Cond.selects C G1.1 G1.1 ∈ ax_T) (hwd : ax_wd st ≤ 8) (hst : st0 = (as.reverse ++ (2, c, a) :: st)) (hM : x.1 → ax_Met L G1 d1 ((2, c, a) :: as) M (ax_qm lo hi x.2)) (k : ∀ y : Int × ax_M, lo ≤ y.1 ∧ y.1 ≤ hi → (E y).1 → ax_W L G d (pc + 3) lc ((0, 0, y.1) :: st) y.2 (q (E y).2)) : ax_W L G d pc lc st0 M (q (ax_rc x E).2) := by
  subst hst
  refine ax_callN hd hcl hcal hdd hn hw1 hw2 hw3 hwd (hM hX.1) (fun r M1 hq _ => ?_)
  obtain ⟨rfl, rfl, h1, h2⟩ := hq
  exact k x.2 ⟨h1, h2⟩ hX.2
theorem ax_cNv_r {G1 : ax_G} {d1 i c N n : Nat} {a : Int} {as : List ax_V} {C host : String} {T : u_T} {ty : Nat → FieldType} {st0 : List ax_V} {x : Prop × ax_M} {E : ax_M → Prop × R} (hX : (ax_rc x E).1) (hd : decode (ax_cc G) pc = .ok (.invokevirtual i, 3)) (hcl : ax_cls c C T N ty) (hcal : ax_cal G1 n) (hdd : d1 + 1 ≤ d) (hn : as.length = n) (hw1 : Cond.methodLinkNest (ax_own G) i G1.1 host ∈ lw_tbl) (hw2 : Cond.instanceMethod G1.1 ∈ ax_T) (hw3 : Cond.selects C G1.1 G1.1 ∈ ax_T) (hwd : ax_wd st ≤ 8) (hst : st0 = (as.reverse ++ (2, c, a) :: st)) (hM : x.1 → ax_Met L G1 d1 ((2, c, a) :: as) M (ax_qv x.2)) (k : ∀ y : ax_M, (E y).1 → ax_W L G d (pc + 3) lc st y (q (E y).2)) : ax_W L G d pc lc st0 M (q (ax_rc x E).2) := by
  subst hst
  refine ax_callN hd hcl hcal hdd hn hw1 hw2 hw3 hwd (hM hX.1) (fun r M1 hq _ => ?_)
  obtain ⟨rfl, rfl⟩ := hq
  exact k x.2 hX.2
theorem ax_cSm_s {G1 : ax_G} {d1 i n : Nat} {as : List ax_V} {st0 : List ax_V} {lo hi : Int} {x : Int × ax_M} {E : Int × ax_M → Prop × R} (hX : (ax_bd x E).1) (hd : decode (ax_cc G) pc = .ok (.invokestatic i, 3)) (hcal : ax_cal G1 n) (hdd : d1 + 1 ≤ d) (hn : as.length = n) (hw1 : Cond.methodLink (ax_own G) i G1.1 ∈ ax_T) (hw2 : Cond.static G1.1 ∈ ax_T) (hwd : ax_wd st ≤ 8) (hst : st0 = (as.reverse ++ st)) (hM : ax_Met L G1 d1 as M (ax_qm lo hi x)) (k : ∀ y : Int × ax_M, lo ≤ y.1 ∧ y.1 ≤ hi → (E y).1 → ax_W L G d (pc + 3) lc ((0, 0, y.1) :: st) y.2 (q (E y).2)) : ax_W L G d pc lc st0 M (q (ax_bd x E).2) := by
  subst hst
  refine ax_callS hd hcal hdd hn hw1 hw2 hwd hM (fun r M1 hq _ => ?_)
  obtain ⟨rfl, rfl, h1, h2⟩ := hq
  exact k x ⟨h1, h2⟩ hX
theorem ax_cSv_s {G1 : ax_G} {d1 i n : Nat} {as : List ax_V} {st0 : List ax_V} {x : ax_M} {E : ax_M → Prop × R} (hX : (ax_bd x E).1) (hd : decode (ax_cc G) pc = .ok (.invokestatic i, 3)) (hcal : ax_cal G1 n) (hdd : d1 + 1 ≤ d) (hn : as.length = n) (hw1 : Cond.methodLink (ax_own G) i G1.1 ∈ ax_T) (hw2 : Cond.static G1.1 ∈ ax_T) (hwd : ax_wd st ≤ 8) (hst : st0 = (as.reverse ++ st)) (hM : ax_Met L G1 d1 as M (ax_qv x)) (k : ∀ y : ax_M, (E y).1 → ax_W L G d (pc + 3) lc st y (q (E y).2)) : ax_W L G d pc lc st0 M (q (ax_bd x E).2) := by
  subst hst
  refine ax_callS hd hcal hdd hn hw1 hw2 hwd hM (fun r M1 hq _ => ?_)
  obtain ⟨rfl, rfl⟩ := hq
  exact k M1 hX
theorem ax_cSa_s {G1 : ax_G} {d1 i n : Nat} {as : List ax_V} {st0 : List ax_V} {kd nn : Nat} {s0 : Int} {x : ax_M} {E : ax_M → Prop × R} (hX : (ax_bd x E).1) (hd : decode (ax_cc G) pc = .ok (.invokestatic i, 3)) (hcal : ax_cal G1 n) (hdd : d1 + 1 ≤ d) (hn : as.length = n) (hw1 : Cond.methodLink (ax_own G) i G1.1 ∈ ax_T) (hw2 : Cond.static G1.1 ∈ ax_T) (hwd : ax_wd st ≤ 8) (hst : st0 = (as.reverse ++ st)) (hM : ax_Met L G1 d1 as M (ax_qa kd nn s0 x)) (k : ∀ y : ax_M, (E y).1 → ax_W L G d (pc + 3) lc ((kd, nn, s0) :: st) y (q (E y).2)) : ax_W L G d pc lc st0 M (q (ax_bd x E).2) := by
  subst hst
  refine ax_callS hd hcal hdd hn hw1 hw2 hwd hM (fun r M1 hq _ => ?_)
  obtain ⟨rfl, rfl⟩ := hq
  exact k M1 hX
theorem ax_cSi_r {G1 : ax_G} {d1 i n : Nat} {as : List ax_V} {st0 : List ax_V} {lo hi : Int} {x : Prop × Int} {E : Int → Prop × R} (hX : (ax_rc x E).1) (hd : decode (ax_cc G) pc = .ok (.invokestatic i, 3)) (hcal : ax_cal G1 n) (hdd : d1 + 1 ≤ d) (hn : as.length = n) (hw1 : Cond.methodLink (ax_own G) i G1.1 ∈ ax_T) (hw2 : Cond.static G1.1 ∈ ax_T) (hwd : ax_wd st ≤ 8) (hst : st0 = (as.reverse ++ st)) (hM : x.1 → ax_Met L G1 d1 as M (ax_qi lo hi M x.2)) (k : ∀ y : Int, lo ≤ y ∧ y ≤ hi → (E y).1 → ax_W L G d (pc + 3) lc ((0, 0, y) :: st) M (q (E y).2)) : ax_W L G d pc lc st0 M (q (ax_rc x E).2) := by
  subst hst
  refine ax_callS hd hcal hdd hn hw1 hw2 hwd (hM hX.1) (fun r M1 hq _ => ?_)
  obtain ⟨rfl, rfl, h1, h2⟩ := hq
  exact k x.2 ⟨h1, h2⟩ hX.2
theorem ax_cSl_r {G1 : ax_G} {d1 i n : Nat} {as : List ax_V} {st0 : List ax_V} {x : Prop × Int} {E : Int → Prop × R} (hX : (ax_rc x E).1) (hd : decode (ax_cc G) pc = .ok (.invokestatic i, 3)) (hcal : ax_cal G1 n) (hdd : d1 + 1 ≤ d) (hn : as.length = n) (hw1 : Cond.methodLink (ax_own G) i G1.1 ∈ ax_T) (hw2 : Cond.static G1.1 ∈ ax_T) (hwd : ax_wd st ≤ 8) (hst : st0 = (as.reverse ++ st)) (hM : x.1 → ax_Met L G1 d1 as M (ax_ql M x.2)) (k : ∀ y : Int, (E y).1 → ax_W L G d (pc + 3) lc ((1, 0, y) :: st) M (q (E y).2)) : ax_W L G d pc lc st0 M (q (ax_rc x E).2) := by
  subst hst
  refine ax_callS hd hcal hdd hn hw1 hw2 hwd (hM hX.1) (fun r M1 hq _ => ?_)
  obtain ⟨rfl, rfl⟩ := hq
  exact k x.2 hX.2
theorem ax_cSm_r {G1 : ax_G} {d1 i n : Nat} {as : List ax_V} {st0 : List ax_V} {lo hi : Int} {x : Prop × Int × ax_M} {E : Int × ax_M → Prop × R} (hX : (ax_rc x E).1) (hd : decode (ax_cc G) pc = .ok (.invokestatic i, 3)) (hcal : ax_cal G1 n) (hdd : d1 + 1 ≤ d) (hn : as.length = n) (hw1 : Cond.methodLink (ax_own G) i G1.1 ∈ ax_T) (hw2 : Cond.static G1.1 ∈ ax_T) (hwd : ax_wd st ≤ 8) (hst : st0 = (as.reverse ++ st)) (hM : x.1 → ax_Met L G1 d1 as M (ax_qm lo hi x.2)) (k : ∀ y : Int × ax_M, lo ≤ y.1 ∧ y.1 ≤ hi → (E y).1 → ax_W L G d (pc + 3) lc ((0, 0, y.1) :: st) y.2 (q (E y).2)) : ax_W L G d pc lc st0 M (q (ax_rc x E).2) := by
  subst hst
  refine ax_callS hd hcal hdd hn hw1 hw2 hwd (hM hX.1) (fun r M1 hq _ => ?_)
  obtain ⟨rfl, rfl, h1, h2⟩ := hq
  exact k x.2 ⟨h1, h2⟩ hX.2
theorem ax_cSv_r {G1 : ax_G} {d1 i n : Nat} {as : List ax_V} {st0 : List ax_V} {x : Prop × ax_M} {E : ax_M → Prop × R} (hX : (ax_rc x E).1) (hd : decode (ax_cc G) pc = .ok (.invokestatic i, 3)) (hcal : ax_cal G1 n) (hdd : d1 + 1 ≤ d) (hn : as.length = n) (hw1 : Cond.methodLink (ax_own G) i G1.1 ∈ ax_T) (hw2 : Cond.static G1.1 ∈ ax_T) (hwd : ax_wd st ≤ 8) (hst : st0 = (as.reverse ++ st)) (hM : x.1 → ax_Met L G1 d1 as M (ax_qv x.2)) (k : ∀ y : ax_M, (E y).1 → ax_W L G d (pc + 3) lc st y (q (E y).2)) : ax_W L G d pc lc st0 M (q (ax_rc x E).2) := by
  subst hst
  refine ax_callS hd hcal hdd hn hw1 hw2 hwd (hM hX.1) (fun r M1 hq _ => ?_)
  obtain ⟨rfl, rfl⟩ := hq
  exact k x.2 hX.2
end AXSM
