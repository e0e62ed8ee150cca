/-! ===== control: what a method answers, as an expression ===== -/
/-- a pure method: its answer x lies between lo and hi, the memory stays -/
def ax_qi (lo hi : Int) (M : ax_M) (x : Int) : Option ax_V → ax_M → Prop := fun r M1 => r = some (0, 0, x) ∧ M1 = M ∧ lo ≤ x ∧ x ≤ hi
def ax_qm (lo hi : Int) (x : Int × ax_M) : Option ax_V → ax_M → Prop := fun r M1 => r = some (0, 0, x.1) ∧ M1 = x.2 ∧ lo ≤ x.1 ∧ x.1 ≤ hi
def ax_qv (x : ax_M) : Option ax_V → ax_M → Prop := fun r M1 => r = none ∧ M1 = x
def ax_ql (M : ax_M) (x : Int) : Option ax_V → ax_M → Prop := fun r M1 => r = some (1, 0, x) ∧ M1 = M
def ax_qa (k n : Nat) (s : Int) (x : ax_M) : Option ax_V → ax_M → Prop := fun r M1 => r = some (k, n, s) ∧ M1 = x
def ax_bd {α β : Type} (a : α) (k : α → β) : β := k a
section AXJ
variable {L : ax_L} {G : ax_G} {d pc : Nat} {lc : List (Nat × ax_V)} {st : List ax_V} {M : ax_M} {R : Type} {q : R → Option ax_V → ax_M → Prop} {E1 E2 : R}
theorem ax_Weq {Q Q' : Option ax_V → ax_M → Prop} (h : Q = Q') (k : ax_W L G d pc lc st M Q') : ax_W L G d pc lc st M Q := h ▸ k
theorem ax_jeq {a b : Int} {u w : Nat} {off : Int} {tgt : Nat} [Decidable (a = b)] (hd : decode (ax_cc G) pc = .ok (.if_icmp .eq off, 3)) (ht : (pc : Int) + off = (tgt : Int)) (k1 : a = b → ax_W L G d tgt lc st M (q E1)) (k2 : ¬ (a = b) → ax_W L G d (pc + 3) lc st M (q E2)) : ax_W L G d pc lc ((0, u, b) :: (0, w, a) :: st) M (q (if a = b then E1 else E2)) := by
  refine ax_icmp_eq hd ht (fun h => ?_) (fun h => ?_)
  · rw [if_pos h]; exact k1 h
  · rw [if_neg h]; exact k2 h
theorem ax_jne {a b : Int} {u w : Nat} {off : Int} {tgt : Nat} [Decidable (a ≠ b)] (hd : decode (ax_cc G) pc = .ok (.if_icmp .ne off, 3)) (ht : (pc : Int) + off = (tgt : Int)) (k1 : a ≠ b → ax_W L G d tgt lc st M (q E1)) (k2 : ¬ (a ≠ b) → ax_W L G d (pc + 3) lc st M (q E2)) : ax_W L G d pc lc ((0, u, b) :: (0, w, a) :: st) M (q (if a ≠ b then E1 else E2)) := by
  refine ax_icmp_ne hd ht (fun h => ?_) (fun h => ?_)
  · rw [if_pos h]; exact k1 h
  · rw [if_neg h]; exact k2 h
theorem ax_jlt {a b : Int} {u w : Nat} {off : Int} {tgt : Nat} [Decidable (a < b)] (hd : decode (ax_cc G) pc = .ok (.if_icmp .lt off, 3)) (ht : (pc : Int) + off = (tgt : Int)) (k1 : a < b → ax_W L G d tgt lc st M (q E1)) (k2 : ¬ (a < b) → ax_W L G d (pc + 3) lc st M (q E2)) : ax_W L G d pc lc ((0, u, b) :: (0, w, a) :: st) M (q (if a < b then E1 else E2)) := by
  refine ax_icmp_lt hd ht (fun h => ?_) (fun h => ?_)
  · rw [if_pos h]; exact k1 h
  · rw [if_neg h]; exact k2 h
theorem ax_jge {a b : Int} {u w : Nat} {off : Int} {tgt : Nat} [Decidable (b ≤ a)] (hd : decode (ax_cc G) pc = .ok (.if_icmp .ge off, 3)) (ht : (pc : Int) + off = (tgt : Int)) (k1 : b ≤ a → ax_W L G d tgt lc st M (q E1)) (k2 : ¬ (b ≤ a) → ax_W L G d (pc + 3) lc st M (q E2)) : ax_W L G d pc lc ((0, u, b) :: (0, w, a) :: st) M (q (if b ≤ a then E1 else E2)) := by
  refine ax_icmp_ge hd ht (fun h => ?_) (fun h => ?_)
  · rw [if_pos h]; exact k1 h
  · rw [if_neg h]; exact k2 h
theorem ax_jgt {a b : Int} {u w : Nat} {off : Int} {tgt : Nat} [Decidable (b < a)] (hd : decode (ax_cc G) pc = .ok (.if_icmp .gt off, 3)) (ht : (pc : Int) + off = (tgt : Int)) (k1 : b < a → ax_W L G d tgt lc st M (q E1)) (k2 : ¬ (b < a) → ax_W L G d (pc + 3) lc st M (q E2)) : ax_W L G d pc lc ((0, u, b) :: (0, w, a) :: st) M (q (if b < a then E1 else E2)) := by
  refine ax_icmp_gt hd ht (fun h => ?_) (fun h => ?_)
  · rw [if_pos h]; exact k1 h
  · rw [if_neg h]; exact k2 h
theorem ax_jle {a b : Int} {u w : Nat} {off : Int} {tgt : Nat} [Decidable (a ≤ b)] (hd : decode (ax_cc G) pc = .ok (.if_icmp .le off, 3)) (ht : (pc : Int) + off = (tgt : Int)) (k1 : a ≤ b → ax_W L G d tgt lc st M (q E1)) (k2 : ¬ (a ≤ b) → ax_W L G d (pc + 3) lc st M (q E2)) : ax_W L G d pc lc ((0, u, b) :: (0, w, a) :: st) M (q (if a ≤ b then E1 else E2)) := by
  refine ax_icmp_le hd ht (fun h => ?_) (fun h => ?_)
  · rw [if_pos h]; exact k1 h
  · rw [if_neg h]; exact k2 h
theorem ax_zeq {a : Int} {u : Nat} {off : Int} {tgt : Nat} [Decidable (a = 0)] (hd : decode (ax_cc G) pc = .ok (.ifCond .eq off, 3)) (ht : (pc : Int) + off = (tgt : Int)) (k1 : a = 0 → ax_W L G d tgt lc st M (q E1)) (k2 : ¬ (a = 0) → ax_W L G d (pc + 3) lc st M (q E2)) : ax_W L G d pc lc ((0, u, a) :: st) M (q (if a = 0 then E1 else E2)) := by
  refine ax_if_eq hd ht (fun h => ?_) (fun h => ?_)
  · rw [if_pos h]; exact k1 h
  · rw [if_neg h]; exact k2 h
theorem ax_zne {a : Int} {u : Nat} {off : Int} {tgt : Nat} [Decidable (a ≠ 0)] (hd : decode (ax_cc G) pc = .ok (.ifCond .ne off, 3)) (ht : (pc : Int) + off = (tgt : Int)) (k1 : a ≠ 0 → ax_W L G d tgt lc st M (q E1)) (k2 : ¬ (a ≠ 0) → ax_W L G d (pc + 3) lc st M (q E2)) : ax_W L G d pc lc ((0, u, a) :: st) M (q (if a ≠ 0 then E1 else E2)) := by
  refine ax_if_ne hd ht (fun h => ?_) (fun h => ?_)
  · rw [if_pos h]; exact k1 h
  · rw [if_neg h]; exact k2 h
theorem ax_zlt {a : Int} {u : Nat} {off : Int} {tgt : Nat} [Decidable (a < 0)] (hd : decode (ax_cc G) pc = .ok (.ifCond .lt off, 3)) (ht : (pc : Int) + off = (tgt : Int)) (k1 : a < 0 → ax_W L G d tgt lc st M (q E1)) (k2 : ¬ (a < 0) → ax_W L G d (pc + 3) lc st M (q E2)) : ax_W L G d pc lc ((0, u, a) :: st) M (q (if a < 0 then E1 else E2)) := by
  refine ax_if_lt hd ht (fun h => ?_) (fun h => ?_)
  · rw [if_pos h]; exact k1 h
  · rw [if_neg h]; exact k2 h
theorem ax_zge {a : Int} {u : Nat} {off : Int} {tgt : Nat} [Decidable (0 ≤ a)] (hd : decode (ax_cc G) pc = .ok (.ifCond .ge off, 3)) (ht : (pc : Int) + off = (tgt : Int)) (k1 : 0 ≤ a → ax_W L G d tgt lc st M (q E1)) (k2 : ¬ (0 ≤ a) → ax_W L G d (pc + 3) lc st M (q E2)) : ax_W L G d pc lc ((0, u, a) :: st) M (q (if 0 ≤ a then E1 else E2)) := by
  refine ax_if_ge hd ht (fun h => ?_) (fun h => ?_)
  · rw [if_pos h]; exact k1 h
  · rw [if_neg h]; exact k2 h
theorem ax_zgt {a : Int} {u : Nat} {off : Int} {tgt : Nat} [Decidable (0 < a)] (hd : decode (ax_cc G) pc = .ok (.ifCond .gt off, 3)) (ht : (pc : Int) + off = (tgt : Int)) (k1 : 0 < a → ax_W L G d tgt lc st M (q E1)) (k2 : ¬ (0 < a) → ax_W L G d (pc + 3) lc st M (q E2)) : ax_W L G d pc lc ((0, u, a) :: st) M (q (if 0 < a then E1 else E2)) := by
  refine ax_if_gt hd ht (fun h => ?_) (fun h => ?_)
  · rw [if_pos h]; exact k1 h
  · rw [if_neg h]; exact k2 h
theorem ax_zle {a : Int} {u : Nat} {off : Int} {tgt : Nat} [Decidable (a ≤ 0)] (hd : decode (ax_cc G) pc = .ok (.ifCond .le off, 3)) (ht : (pc : Int) + off = (tgt : Int)) (k1 : a ≤ 0 → ax_W L G d tgt lc st M (q E1)) (k2 : ¬ (a ≤ 0) → ax_W L G d (pc + 3) lc st M (q E2)) : ax_W L G d pc lc ((0, u, a) :: st) M (q (if a ≤ 0 then E1 else E2)) := by
  refine ax_if_le hd ht (fun h => ?_) (fun h => ?_)
  · rw [if_pos h]; exact k1 h
  · rw [if_neg h]; exact k2 h
/-- the range of an int field that has one -/
theorem ax_fact {Q : Option ax_V → ax_M → Prop} {i c f hi : Nat} {s : Int} {q0 : Nat × Nat × Nat} (hm : (i, ((2, c, s) : ax_V)) ∈ lc) (hf : (ax_fs c)[f]? = some q0) (h0 : q0.1 = 0) (hh : q0.2.1 = hi + 1) (k : 0 ≤ M s.toNat f ∧ M s.toNat f ≤ hi → ax_W L G d pc lc st M Q) : ax_W L G d pc lc st M Q := by
  intro p l e s' m args below meth c' X H locs ls hC hl hok hR hS
  have hs : 0 ≤ s ∧ L[s.toNat]? = some (2, c) := hok.1 _ hm
  have h1 : ∀ f q, (ax_fs c)[f]? = some q → ax_fok L q (M s.toNat f) := hR.2.2.2 _ _ hs.2
  have h2 := h1 f q0 hf
  unfold ax_fok at h2
  rw [if_pos h0] at h2
  have h3 := h2.2 (by omega)
  exact k ⟨h3.1, by omega⟩ p l e s' m args below meth c' X H locs ls hC hl hok hR hS
theorem ax_factZ {Q : Option ax_V → ax_M → Prop} {i c f : Nat} {s : Int} {q0 : Nat × Nat × Nat} (hm : (i, ((2, c, s) : ax_V)) ∈ lc) (hf : (ax_fs c)[f]? = some q0) (h0 : q0.1 = 8) (k : 0 ≤ M s.toNat f ∧ M s.toNat f ≤ 1 → ax_W L G d pc lc st M Q) : ax_W L G d pc lc st M Q := by
  intro p l e s' m args below meth c' X H locs ls hC hl hok hR hS
  have hs : 0 ≤ s ∧ L[s.toNat]? = some (2, c) := hok.1 _ hm
  have h1 : ∀ f q, (ax_fs c)[f]? = some q → ax_fok L q (M s.toNat f) := hR.2.2.2 _ _ hs.2
  have h2 := h1 f q0 hf
  unfold ax_fok at h2
  rw [if_neg (by omega), if_pos h0] at h2
  exact k h2 p l e s' m args below meth c' X H locs ls hC hl hok hR hS
/-- the range of any int in a local -/
theorem ax_rngL {Q : Option ax_V → ax_M → Prop} {i u : Nat} {n : Int} (hm : (i, ((0, u, n) : ax_V)) ∈ lc) (k : ax_r32 n → ax_W L G d pc lc st M Q) : ax_W L G d pc lc st M Q := by
  intro p l e s' m args below meth c' X H locs ls hC hl hok hR hS
  exact k (hok.1 _ hm) p l e s' m args below meth c' X H locs ls hC hl hok hR hS
theorem ax_rngS {Q : Option ax_V → ax_M → Prop} {u : Nat} {n : Int} (k : ax_r32 n → ax_W L G d pc lc ((0, u, n) :: st) M Q) : ax_W L G d pc lc ((0, u, n) :: st) M Q := by
  intro p l e s' m args below meth c' X H locs ls hC hl hok hR hS
  exact k hok.topI p l e s' m args below meth c' X H locs ls hC hl hok hR hS
/-! calls: three kinds of callee, three roads -/
theorem ax_cVi {G1 : ax_G} {d1 i c N n : Nat} {a : Int} {as : List ax_V} {C : String} {T : u_T} {ty : Nat → FieldType} {st0 : List ax_V} {lo hi x : Int} {Q : Option ax_V → ax_M → Prop} (hd : decode (ax_cc G) pc = .ok (.invokevirtual i, 3)) (hcl : ax_cls c C T N ty) (hcal : ax_cal G1 n) (hdd : d1 + 1 ≤ d) (hn : as.length = n) (hw1 : Cond.methodLink (ax_own G) i G1.1 ∈ ax_T) (hw2 : Cond.instanceMethod G1.1 ∈ ax_T) (hw3 : Cond.selects C G1.1 G1.1 ∈ ax_T) (hwd : ax_wd st ≤ 8) (hst : st0 = (as.reverse ++ (2, c, a) :: st)) (hM : ax_Met L G1 d1 ((2, c, a) :: as) M (ax_qi lo hi M x)) (k : lo ≤ x ∧ x ≤ hi → ax_W L G d (pc + 3) lc ((0, 0, x) :: st) M Q) : ax_W L G d pc lc st0 M Q := by
  subst hst
  refine ax_callV hd hcl hcal hdd hn hw1 hw2 hw3 hwd hM (fun r M1 hq _ => ?_)
  obtain ⟨rfl, rfl, h1, h2⟩ := hq
  exact k ⟨h1, h2⟩
theorem ax_cVl {G1 : ax_G} {d1 i c N n : Nat} {a : Int} {as : List ax_V} {C : String} {T : u_T} {ty : Nat → FieldType} {st0 : List ax_V} {x : Int} {Q : Option ax_V → ax_M → Prop} (hd : decode (ax_cc G) pc = .ok (.invokevirtual i, 3)) (hcl : ax_cls c C T N ty) (hcal : ax_cal G1 n) (hdd : d1 + 1 ≤ d) (hn : as.length = n) (hw1 : Cond.methodLink (ax_own G) i G1.1 ∈ ax_T) (hw2 : Cond.instanceMethod G1.1 ∈ ax_T) (hw3 : Cond.selects C G1.1 G1.1 ∈ ax_T) (hwd : ax_wd st ≤ 8) (hst : st0 = (as.reverse ++ (2, c, a) :: st)) (hM : ax_Met L G1 d1 ((2, c, a) :: as) M (ax_ql M x)) (k : ax_W L G d (pc + 3) lc ((1, 0, x) :: st) M Q) : ax_W L G d pc lc st0 M Q := by
  subst hst
  refine ax_callV hd hcl hcal hdd hn hw1 hw2 hw3 hwd hM (fun r M1 hq _ => ?_)
  obtain ⟨rfl, rfl⟩ := hq
  exact k
theorem ax_cVm {G1 : ax_G} {d1 i c N n : Nat} {a : Int} {as : List ax_V} {C : String} {T : u_T} {ty : Nat → FieldType} {st0 : List ax_V} {lo hi : Int} {x : Int × ax_M} {E : Int × ax_M → R} (hd : decode (ax_cc G) pc = .ok (.invokevirtual i, 3)) (hcl : ax_cls c C T N ty) (hcal : ax_cal G1 n) (hdd : d1 + 1 ≤ d) (hn : as.length = n) (hw1 : Cond.methodLink (ax_own G) i G1.1 ∈ ax_T) (hw2 : Cond.instanceMethod G1.1 ∈ ax_T) (hw3 : Cond.selects C G1.1 G1.1 ∈ ax_T) (hwd : ax_wd st ≤ 8) (hst : st0 = (as.reverse ++ (2, c, a) :: st)) (hM : ax_Met L G1 d1 ((2, c, a) :: as) M (ax_qm lo hi x)) (k : ∀ y : Int × ax_M, lo ≤ y.1 ∧ y.1 ≤ hi → ax_W L G d (pc + 3) lc ((0, 0, y.1) :: st) y.2 (q (E y))) : ax_W L G d pc lc st0 M (q (ax_bd x E)) := by
  subst hst
  refine ax_callV hd hcl hcal hdd hn hw1 hw2 hw3 hwd hM (fun r M1 hq _ => ?_)
  obtain ⟨rfl, rfl, h1, h2⟩ := hq
  exact k x ⟨h1, h2⟩
theorem ax_cVv {G1 : ax_G} {d1 i c N n : Nat} {a : Int} {as : List ax_V} {C : String} {T : u_T} {ty : Nat → FieldType} {st0 : List ax_V} {x : ax_M} {E : ax_M → R} (hd : decode (ax_cc G) pc = .ok (.invokevirtual i, 3)) (hcl : ax_cls c C T N ty) (hcal : ax_cal G1 n) (hdd : d1 + 1 ≤ d) (hn : as.length = n) (hw1 : Cond.methodLink (ax_own G) i G1.1 ∈ ax_T) (hw2 : Cond.instanceMethod G1.1 ∈ ax_T) (hw3 : Cond.selects C G1.1 G1.1 ∈ ax_T) (hwd : ax_wd st ≤ 8) (hst : st0 = (as.reverse ++ (2, c, a) :: st)) (hM : ax_Met L G1 d1 ((2, c, a) :: as) M (ax_qv x)) (k : ∀ y : ax_M, ax_W L G d (pc + 3) lc st y (q (E y))) : ax_W L G d pc lc st0 M (q (ax_bd x E)) := by
  subst hst
  refine ax_callV hd hcl hcal hdd hn hw1 hw2 hw3 hwd hM (fun r M1 hq _ => ?_)
  obtain ⟨rfl, rfl⟩ := hq
  exact k M1
theorem ax_cVa {G1 : ax_G} {d1 i c N n : Nat} {a : Int} {as : List ax_V} {C : String} {T : u_T} {ty : Nat → FieldType} {st0 : List ax_V} {kd nn : Nat} {s0 : Int} {x : ax_M} {E : ax_M → R} (hd : decode (ax_cc G) pc = .ok (.invokevirtual i, 3)) (hcl : ax_cls c C T N ty) (hcal : ax_cal G1 n) (hdd : d1 + 1 ≤ d) (hn : as.length = n) (hw1 : Cond.methodLink (ax_own G) i G1.1 ∈ ax_T) (hw2 : Cond.instanceMethod G1.1 ∈ ax_T) (hw3 : Cond.selects C G1.1 G1.1 ∈ ax_T) (hwd : ax_wd st ≤ 8) (hst : st0 = (as.reverse ++ (2, c, a) :: st)) (hM : ax_Met L G1 d1 ((2, c, a) :: as) M (ax_qa kd nn s0 x)) (k : ∀ y : ax_M, ax_W L G d (pc + 3) lc ((kd, nn, s0) :: st) y (q (E y))) : ax_W L G d pc lc st0 M (q (ax_bd x E)) := by
  subst hst
  refine ax_callV hd hcl hcal hdd hn hw1 hw2 hw3 hwd hM (fun r M1 hq _ => ?_)
  obtain ⟨rfl, rfl⟩ := hq
  exact k M1
theorem ax_cNi {G1 : ax_G} {d1 i c N n : Nat} {a : Int} {as : List ax_V} {C host : String} {T : u_T} {ty : Nat → FieldType} {st0 : List ax_V} {lo hi x : Int} {Q : Option ax_V → ax_M → Prop} (hd : decode (ax_cc G) pc = .ok (.invokevirtual i, 3)) (hcl : ax_cls c C T N ty) (hcal : ax_cal G1 n) (hdd : d1 + 1 ≤ d) (hn : as.length = n) (hw1 : Cond.methodLinkNest (ax_own G) i G1.1 host ∈ lw_tbl) (hw2 : Cond.instanceMethod G1.1 ∈ ax_T) (hw3 : Cond.selects C G1.1 G1.1 ∈ ax_T) (hwd : ax_wd st ≤ 8) (hst : st0 = (as.reverse ++ (2, c, a) :: st)) (hM : ax_Met L G1 d1 ((2, c, a) :: as) M (ax_qi lo hi M x)) (k : lo ≤ x ∧ x ≤ hi → ax_W L G d (pc + 3) lc ((0, 0, x) :: st) M Q) : ax_W L G d pc lc st0 M Q := by
  subst hst
  refine ax_callN hd hcl hcal hdd hn hw1 hw2 hw3 hwd hM (fun r M1 hq _ => ?_)
  obtain ⟨rfl, rfl, h1, h2⟩ := hq
  exact k ⟨h1, h2⟩
theorem ax_cNl {G1 : ax_G} {d1 i c N n : Nat} {a : Int} {as : List ax_V} {C host : String} {T : u_T} {ty : Nat → FieldType} {st0 : List ax_V} {x : Int} {Q : Option ax_V → ax_M → Prop} (hd : decode (ax_cc G) pc = .ok (.invokevirtual i, 3)) (hcl : ax_cls c C T N ty) (hcal : ax_cal G1 n) (hdd : d1 + 1 ≤ d) (hn : as.length = n) (hw1 : Cond.methodLinkNest (ax_own G) i G1.1 host ∈ lw_tbl) (hw2 : Cond.instanceMethod G1.1 ∈ ax_T) (hw3 : Cond.selects C G1.1 G1.1 ∈ ax_T) (hwd : ax_wd st ≤ 8) (hst : st0 = (as.reverse ++ (2, c, a) :: st)) (hM : ax_Met L G1 d1 ((2, c, a) :: as) M (ax_ql M x)) (k : ax_W L G d (pc + 3) lc ((1, 0, x) :: st) M Q) : ax_W L G d pc lc st0 M Q := by
  subst hst
  refine ax_callN hd hcl hcal hdd hn hw1 hw2 hw3 hwd hM (fun r M1 hq _ => ?_)
  obtain ⟨rfl, rfl⟩ := hq
  exact k
theorem ax_cNm {G1 : ax_G} {d1 i c N n : Nat} {a : Int} {as : List ax_V} {C host : String} {T : u_T} {ty : Nat → FieldType} {st0 : List ax_V} {lo hi : Int} {x : Int × ax_M} {E : Int × ax_M → R} (hd : decode (ax_cc G) pc = .ok (.invokevirtual i, 3)) (hcl : ax_cls c C T N ty) (hcal : ax_cal G1 n) (hdd : d1 + 1 ≤ d) (hn : as.length = n) (hw1 : Cond.methodLinkNest (ax_own G) i G1.1 host ∈ lw_tbl) (hw2 : Cond.instanceMethod G1.1 ∈ ax_T) (hw3 : Cond.selects C G1.1 G1.1 ∈ ax_T) (hwd : ax_wd st ≤ 8) (hst : st0 = (as.reverse ++ (2, c, a) :: st)) (hM : ax_Met L G1 d1 ((2, c, a) :: as) M (ax_qm lo hi x)) (k : ∀ y : Int × ax_M, lo ≤ y.1 ∧ y.1 ≤ hi → ax_W L G d (pc + 3) lc ((0, 0, y.1) :: st) y.2 (q (E y))) : ax_W L G d pc lc st0 M (q (ax_bd x E)) := by
  subst hst
  refine ax_callN hd hcl hcal hdd hn hw1 hw2 hw3 hwd hM (fun r M1 hq _ => ?_)
  obtain ⟨rfl, rfl, h1, h2⟩ := hq
  exact k x ⟨h1, h2⟩
theorem ax_cNv {G1 : ax_G} {d1 i c N n : Nat} {a : Int} {as : List ax_V} {C host : String} {T : u_T} {ty : Nat → FieldType} {st0 : List ax_V} {x : ax_M} {E : ax_M → R} (hd : decode (ax_cc G) pc = .ok (.invokevirtual i, 3)) (hcl : ax_cls c C T N ty) (hcal : ax_cal G1 n) (hdd : d1 + 1 ≤ d) (hn : as.length = n) (hw1 : Cond.methodLinkNest (ax_own G) i G1.1 host ∈ lw_tbl) (hw2 : Cond.instanceMethod G1.1 ∈ ax_T) (hw3 : Cond.selects C G1.1 G1.1 ∈ ax_T) (hwd : ax_wd st ≤ 8) (hst : st0 = (as.reverse ++ (2, c, a) :: st)) (hM : ax_Met L G1 d1 ((2, c, a) :: as) M (ax_qv x)) (k : ∀ y : ax_M, ax_W L G d (pc + 3) lc st y (q (E y))) : ax_W L G d pc lc st0 M (q (ax_bd x E)) := by
  subst hst
  refine ax_callN hd hcl hcal hdd hn hw1 hw2 hw3 hwd hM (fun r M1 hq _ => ?_)
  obtain ⟨rfl, rfl⟩ := hq
  exact k M1
theorem ax_cNa {G1 : ax_G} {d1 i c N n : Nat} {a : Int} {as : List ax_V} {C host : String} {T : u_T} {ty : Nat → FieldType} {st0 : List ax_V} {kd nn : Nat} {s0 : Int} {x : ax_M} {E : ax_M → R} (hd : decode (ax_cc G) pc = .ok (.invokevirtual i, 3)) (hcl : ax_cls c C T N ty) (hcal : ax_cal G1 n) (hdd : d1 + 1 ≤ d) (hn : as.length = n) (hw1 : Cond.methodLinkNest (ax_own G) i G1.1 host ∈ lw_tbl) (hw2 : Cond.instanceMethod G1.1 ∈ ax_T) (hw3 : Cond.selects C G1.1 G1.1 ∈ ax_T) (hwd : ax_wd st ≤ 8) (hst : st0 = (as.reverse ++ (2, c, a) :: st)) (hM : ax_Met L G1 d1 ((2, c, a) :: as) M (ax_qa kd nn s0 x)) (k : ∀ y : ax_M, ax_W L G d (pc + 3) lc ((kd, nn, s0) :: st) y (q (E y))) : ax_W L G d pc lc st0 M (q (ax_bd x E)) := by
  subst hst
  refine ax_callN hd hcl hcal hdd hn hw1 hw2 hw3 hwd hM (fun r M1 hq _ => ?_)
  obtain ⟨rfl, rfl⟩ := hq
  exact k M1
theorem ax_cSi {G1 : ax_G} {d1 i n : Nat} {as : List ax_V} {st0 : List ax_V} {lo hi x : Int} {Q : Option ax_V → ax_M → Prop} (hd : decode (ax_cc G) pc = .ok (.invokestatic i, 3)) (hcal : ax_cal G1 n) (hdd : d1 + 1 ≤ d) (hn : as.length = n) (hw1 : Cond.methodLink (ax_own G) i G1.1 ∈ ax_T) (hw2 : Cond.static G1.1 ∈ ax_T) (hwd : ax_wd st ≤ 8) (hst : st0 = (as.reverse ++ st)) (hM : ax_Met L G1 d1 as M (ax_qi lo hi M x)) (k : lo ≤ x ∧ x ≤ hi → ax_W L G d (pc + 3) lc ((0, 0, x) :: st) M Q) : ax_W L G d pc lc st0 M Q := by
  subst hst
  refine ax_callS hd hcal hdd hn hw1 hw2 hwd hM (fun r M1 hq _ => ?_)
  obtain ⟨rfl, rfl, h1, h2⟩ := hq
  exact k ⟨h1, h2⟩
theorem ax_cSl {G1 : ax_G} {d1 i n : Nat} {as : List ax_V} {st0 : List ax_V} {x : Int} {Q : Option ax_V → ax_M → Prop} (hd : decode (ax_cc G) pc = .ok (.invokestatic i, 3)) (hcal : ax_cal G1 n) (hdd : d1 + 1 ≤ d) (hn : as.length = n) (hw1 : Cond.methodLink (ax_own G) i G1.1 ∈ ax_T) (hw2 : Cond.static G1.1 ∈ ax_T) (hwd : ax_wd st ≤ 8) (hst : st0 = (as.reverse ++ st)) (hM : ax_Met L G1 d1 as M (ax_ql M x)) (k : ax_W L G d (pc + 3) lc ((1, 0, x) :: st) M Q) : ax_W L G d pc lc st0 M Q := by
  subst hst
  refine ax_callS hd hcal hdd hn hw1 hw2 hwd hM (fun r M1 hq _ => ?_)
  obtain ⟨rfl, rfl⟩ := hq
  exact k
theorem ax_cSm {G1 : ax_G} {d1 i n : Nat} {as : List ax_V} {st0 : List ax_V} {lo hi : Int} {x : Int × ax_M} {E : Int × ax_M → R} (hd : decode (ax_cc G) pc = .ok (.invokestatic i, 3)) (hcal : ax_cal G1 n) (hdd : d1 + 1 ≤ d) (hn : as.length = n) (hw1 : Cond.methodLink (ax_own G) i G1.1 ∈ ax_T) (hw2 : Cond.static G1.1 ∈ ax_T) (hwd : ax_wd st ≤ 8) (hst : st0 = (as.reverse ++ st)) (hM : ax_Met L G1 d1 as M (ax_qm lo hi x)) (k : ∀ y : Int × ax_M, lo ≤ y.1 ∧ y.1 ≤ hi → ax_W L G d (pc + 3) lc ((0, 0, y.1) :: st) y.2 (q (E y))) : ax_W L G d pc lc st0 M (q (ax_bd x E)) := by
  subst hst
  refine ax_callS hd hcal hdd hn hw1 hw2 hwd hM (fun r M1 hq _ => ?_)
  obtain ⟨rfl, rfl, h1, h2⟩ := hq
  exact k x ⟨h1, h2⟩
theorem ax_cSv {G1 : ax_G} {d1 i n : Nat} {as : List ax_V} {st0 : List ax_V} {x : ax_M} {E : ax_M → R} (hd : decode (ax_cc G) pc = .ok (.invokestatic i, 3)) (hcal : ax_cal G1 n) (hdd : d1 + 1 ≤ d) (hn : as.length = n) (hw1 : Cond.methodLink (ax_own G) i G1.1 ∈ ax_T) (hw2 : Cond.static G1.1 ∈ ax_T) (hwd : ax_wd st ≤ 8) (hst : st0 = (as.reverse ++ st)) (hM : ax_Met L G1 d1 as M (ax_qv x)) (k : ∀ y : ax_M, ax_W L G d (pc + 3) lc st y (q (E y))) : ax_W L G d pc lc st0 M (q (ax_bd x E)) := by
  subst hst
  refine ax_callS hd hcal hdd hn hw1 hw2 hwd hM (fun r M1 hq _ => ?_)
  obtain ⟨rfl, rfl⟩ := hq
  exact k M1
theorem ax_cSa {G1 : ax_G} {d1 i n : Nat} {as : List ax_V} {st0 : List ax_V} {kd nn : Nat} {s0 : Int} {x : ax_M} {E : ax_M → R} (hd : decode (ax_cc G) pc = .ok (.invokestatic i, 3)) (hcal : ax_cal G1 n) (hdd : d1 + 1 ≤ d) (hn : as.length = n) (hw1 : Cond.methodLink (ax_own G) i G1.1 ∈ ax_T) (hw2 : Cond.static G1.1 ∈ ax_T) (hwd : ax_wd st ≤ 8) (hst : st0 = (as.reverse ++ st)) (hM : ax_Met L G1 d1 as M (ax_qa kd nn s0 x)) (k : ∀ y : ax_M, ax_W L G d (pc + 3) lc ((kd, nn, s0) :: st) y (q (E y))) : ax_W L G d pc lc st0 M (q (ax_bd x E)) := by
  subst hst
  refine ax_callS hd hcal hdd hn hw1 hw2 hwd hM (fun r M1 hq _ => ?_)
  obtain ⟨rfl, rfl⟩ := hq
  exact k M1
end AXJ
section AXG
variable {L : ax_L} {G : ax_G} {d pc : Nat} {R : Type} {q : R → Option ax_V → ax_M → Prop}
/-- a number gets a name -/
theorem ax_bdI {lo hi e : Int} {M : ax_M} {E : Int → R} (F : Int → List (Nat × ax_V)) (S : Int → List ax_V) (h : lo ≤ e ∧ e ≤ hi) (k : ∀ x : Int, lo ≤ x ∧ x ≤ hi → ax_W L G d pc (F x) (S x) M (q (E x))) : ax_W L G d pc (F e) (S e) M (q (ax_bd e E)) := k e h
theorem ax_bdI0 {e : Int} {M : ax_M} {E : Int → R} (F : Int → List (Nat × ax_V)) (S : Int → List ax_V) (k : ∀ x : Int, ax_W L G d pc (F x) (S x) M (q (E x))) : ax_W L G d pc (F e) (S e) M (q (ax_bd e E)) := k e
theorem ax_ite {lc : List (Nat × ax_V)} {st : List ax_V} {M : ax_M} {c : Prop} [Decidable c] {E1 E2 : R} (k1 : c → ax_W L G d pc lc st M (q E1)) (k2 : ¬ c → ax_W L G d pc lc st M (q E2)) : ax_W L G d pc lc st M (q (if c then E1 else E2)) := by
  by_cases h : c
  · rw [if_pos h]; exact k1 h
  · rw [if_neg h]; exact k2 h
/-- a memory gets a name -/
theorem ax_bdM {lc : List (Nat × ax_V)} {st : List ax_V} {M : ax_M} {E : ax_M → R} (k : ∀ M1 : ax_M, ax_W L G d pc lc st M1 (q (E M1))) : ax_W L G d pc lc st M (q (ax_bd M E)) := k M
/-- fewer locals, in any order -/
theorem ax_pk {lc lc' : List (Nat × ax_V)} {st : List ax_V} {M : ax_M} {Q : Option ax_V → ax_M → Prop} (ks : List Nat) (h : ks.filterMap (fun k => lc[k]?) = lc') (k : ax_W L G d pc lc' st M Q) : ax_W L G d pc lc st M Q := by
  intro p l e s m args below meth c X H locs ls hC hl hok hR hS
  have hin : ∀ v ∈ lc', v ∈ lc := fun v hv => by
    rw [← h] at hv
    obtain ⟨i, -, hi⟩ := List.mem_filterMap.mp hv
    exact List.mem_of_getElem? hi
  exact k p l e s m args below meth c X H locs ls hC ⟨hl.1, hl.2.1, fun v hv => by
    obtain ⟨w, hw, e⟩ := List.mem_map.mp hv
    subst e
    exact hl.2.2 _ (List.mem_map.mpr ⟨w, hin w hw, rfl⟩)⟩ ⟨fun v hv => hok.1 v (hin v hv), hok.2⟩ hR hS
end AXG
/-! rows of numbers are copied (System.arraycopy) -/
def ax_cp (M : ax_M) (a0 sp a1 dp n : Nat) : ax_M := fun s i => if s = a1 ∧ dp ≤ i ∧ i < dp + n then M a0 (sp + (i - dp)) else M s i
theorem ax_ws_ch {L : ax_L} {X : ax_X} {M M' : ax_M} {s : Nat} {q : Nat × Nat} (h : L[s]? = some q) (hM : ∀ k, k ≠ s → M' k = M k) : (ax_ws L X M).set s (X.1 s, ax_cell X s q (M' s)) = ax_ws L X M' := by
  have hlt := ax_ltL h
  apply List.ext_getElem?
  intro j
  rw [List.getElem?_set]
  by_cases hj : s = j
  · subst hj
    have hlen : s < (ax_ws L X M).length := by simp [ax_ws, hlt]
    rw [if_pos rfl, if_pos hlen, ax_ws_get h]
  · rw [if_neg hj]
    by_cases hjl : j < L.length
    · have hq : L[j]? = some L[j] := List.getElem?_eq_getElem hjl
      rw [ax_ws_get hq, ax_ws_get hq, hM j (fun e => hj e.symm)]
    · have h1 : (ax_ws L X M)[j]? = none := List.getElem?_eq_none (by simp [ax_ws]; omega)
      have h2 : (ax_ws L X M')[j]? = none := List.getElem?_eq_none (by simp [ax_ws]; omega)
      rw [h1, h2]
section AXP
variable {L : ax_L} {G : ax_G} {d pc : Nat} {lc : List (Nat × ax_V)} {st : List ax_V} {M : ax_M} {Q : Option ax_V → ax_M → Prop}
theorem ax_copy {i n0 n1 u1 u2 u3 : Nat} {a0 a1 sp dp n : Int} (hd : decode (ax_cc G) pc = .ok (.invokestatic i, 3)) (hdd : 1 ≤ d) (hwd : ax_wd st ≤ 8) (hw1 : Cond.methodLink (ax_own G) i arraycopyName ∈ ax_T) (hw2 : Cond.native arraycopyName ∈ ax_T) (hw3 : Cond.static arraycopyName ∈ ax_T) (hw4 : Cond.initialized "java/lang/System" ∈ ax_T)
    (hb : 0 ≤ sp ∧ 0 ≤ dp ∧ 0 ≤ n ∧ sp + n ≤ n0 ∧ dp + n ≤ n1) (k : ax_W L G d (pc + 3) lc st (ax_cp M a0.toNat sp.toNat a1.toNat dp.toNat n.toNat) Q) : ax_W L G d pc lc ((0, u3, n) :: (0, u2, dp) :: (3, n1, a1) :: (0, u1, sp) :: (3, n0, a0) :: st) M Q := by
  intro p l e s m args below meth c X H locs ls hC hl hok hR hS
  have hn := hok.topI
  have hdp := hok.pop.topI
  have hs1 : 0 ≤ a1 ∧ L[a1.toNat]? = some (3, n1) := hok.pop.pop.top
  have hsp := hok.pop.pop.pop.topI
  have hs0 : 0 ≤ a0 ∧ L[a0.toNat]? = some (3, n0) := hok.pop.pop.pop.pop.top
  have hc0 : ∀ i, ax_r32 (M a0.toNat i) := hR.2.2.2.at hs0.2
  have hc1 : ∀ i, ax_r32 (M a1.toNat i) := hR.2.2.2.at hs1.2
  have hg0 := ax_ws_get (X := X) (M := M) hs0.2
  have hg1 := ax_ws_get (X := X) (M := M) hs1.2
  rw [ax_cellI] at hg0 hg1
  have hts := fun {w} (h : w ∈ ax_T) => hC.2.2.2.2.2.1 w (List.mem_cons_of_mem _ h)
  have nn : ∀ {z : Int}, ax_r32 z → 0 ≤ z → ¬ Int32.ofInt z < 0 := fun {z} hz h0 h => by
    have := (ax_lt hz (by unfold ax_r32; omega : ax_r32 0)).mp h
    omega
  have h9 : nativeFrameWords "java/lang/System" "arraycopy" 5 + 11 ≤ 56 := by decide +kernel
  have hroom : ax_wd st + (nativeFrameWords "java/lang/System" "arraycopy" 5 + 11) ≤ 64 * d := by omega
  refine va_copyi hC.1 hC.2.1 (hC.2.2.2.1.trans hl.1.symm) hC.2.2.2.2.1 (hts hw1) (hts hw2) (hts hw3) (hts hw4) hR.2.1 hR.1 hR.2.2.1 hS a0.toNat a1.toNat 0 0 hg0 hg1 ax_ty3 ax_ty3 rfl (nn hsp hb.1) (nn hdp hb.2.1) (nn hn hb.2.2.1)
    (by rw [ax_clamp hsp, ax_clamp hn]; omega) (by rw [ax_clamp hdp, ax_clamp hn]; omega) (fun _ _ => rfl) hdd (by rw [ax_wd_eq (X := X)]; exact hroom) hd (fun H1 locs1 hP1 hD1 hS1 => ?_)
  rw [ax_clamp hsp, ax_clamp hdp, ax_clamp hn] at hP1 hD1
  have he := ax_ws_ch (X := X) (M := M) (M' := ax_cp M a0.toNat sp.toNat a1.toNat dp.toNat n.toNat) hs1.2 (fun k hk => by funext j; simp [ax_cp, hk])
  have hv : ax_cell X a1.toNat (3, n1) (ax_cp M a0.toNat sp.toNat a1.toNat dp.toNat n.toNat a1.toNat) = .inl (X.2.1 3, n1, .inl (va_cpy (fun i => Int32.ofInt (M a0.toNat i)) (fun i => Int32.ofInt (M a1.toNat i)) sp.toNat dp.toNat n.toNat)) := by
    rw [ax_cellI]
    congr 3
    refine congrArg Sum.inl (funext fun j => ?_)
    show Int32.ofInt (ax_cp M a0.toNat sp.toNat a1.toNat dp.toNat n.toNat a1.toNat j) = _
    unfold ax_cp va_cpy
    by_cases h : dp.toNat ≤ j ∧ j < dp.toNat + n.toNat
    · rw [if_pos ⟨rfl, h⟩, if_pos h]
    · rw [if_neg (fun z => h z.2), if_neg h]
  rw [hv] at he
  rw [he] at hP1 hD1
  have hcan : ax_can L (ax_cp M a0.toNat sp.toNat a1.toNat dp.toNat n.toNat) := by
    intro k q' hk
    by_cases hks : k = a1.toNat
    · subst hks
      cases hs1.2.symm.trans hk
      show ∀ i, ax_r32 _
      intro j
      unfold ax_cp
      split
      · exact hc0 _
      · exact hc1 _
    · have e : ax_cp M a0.toNat sp.toNat a1.toNat dp.toNat n.toNat k = M k := by funext j; simp [ax_cp, hks]
      rw [e]
      exact hR.2.2.2 k q' hk
  exact k p l e s m args below meth c X H1 locs1 ls hC hl hok.pop.pop.pop.pop.pop ⟨hP1, hR.2.1, hD1, hcan⟩ hS1
end AXP
