/-! ===== arithmetic, stack, jumps ===== -/
section AXA
variable {L : ax_L} {G : ax_G} {d pc : Nat} {lc : List (Nat × ax_V)} {st : List ax_V} {M : ax_M} {Q : Option ax_V → ax_M → Prop}
theorem ax_iadd {a b : Int} {u w : Nat} (hd : decode (ax_cc G) pc = .ok (.iadd, 1)) (k : ax_W L G d (pc + 1) lc ((0, 0, ax_wr (a + b)) :: st) M Q) : ax_W L G d pc lc ((0, u, b) :: (0, w, a) :: st) M Q := by
  intro p l e s m args below meth c X H locs ls hC hl hok hR hS
  have hb := hok.topI
  have ha := hok.pop.topI
  have k2 := k p l e s m args below meth c X H locs ls hC hl (hok.pop.pop.push (v := (0, 0, ax_wr (a + b))) (ax_wr_r _)) hR hS
  have he : Int32.ofInt (ax_wr (a + b)) = Int32.ofInt a + Int32.ofInt b := by rw [ax_wr_of, Int32.ofInt_add]
  exact lv_iadd hC.1 hC.2.1 hd (he ▸ k2)
theorem ax_isub {a b : Int} {u w : Nat} (hd : decode (ax_cc G) pc = .ok (.isub, 1)) (k : ax_W L G d (pc + 1) lc ((0, 0, ax_wr (a - b)) :: st) M Q) : ax_W L G d pc lc ((0, u, b) :: (0, w, a) :: st) M Q := by
  intro p l e s m args below meth c X H locs ls hC hl hok hR hS
  have hb := hok.topI
  have ha := hok.pop.topI
  have k2 := k p l e s m args below meth c X H locs ls hC hl (hok.pop.pop.push (v := (0, 0, ax_wr (a - b))) (ax_wr_r _)) hR hS
  have he : Int32.ofInt (ax_wr (a - b)) = Int32.ofInt a - Int32.ofInt b := by rw [ax_wr_of, Int32.ofInt_sub]
  exact lv_isub hC.1 hC.2.1 hd (he ▸ k2)
theorem ax_imul {a b : Int} {u w : Nat} (hd : decode (ax_cc G) pc = .ok (.imul, 1)) (k : ax_W L G d (pc + 1) lc ((0, 0, ax_wr (a * b)) :: st) M Q) : ax_W L G d pc lc ((0, u, b) :: (0, w, a) :: st) M Q := by
  intro p l e s m args below meth c X H locs ls hC hl hok hR hS
  have hb := hok.topI
  have ha := hok.pop.topI
  have k2 := k p l e s m args below meth c X H locs ls hC hl (hok.pop.pop.push (v := (0, 0, ax_wr (a * b))) (ax_wr_r _)) hR hS
  have he : Int32.ofInt (ax_wr (a * b)) = Int32.ofInt a * Int32.ofInt b := by rw [ax_wr_of, Int32.ofInt_mul]
  exact lv_imul hC.1 hC.2.1 hd (he ▸ k2)
theorem ax_iand {a b : Int} {u w : Nat} (hd : decode (ax_cc G) pc = .ok (.iand, 1)) (k : ax_W L G d (pc + 1) lc ((0, 0, ax_and a b) :: st) M Q) : ax_W L G d pc lc ((0, u, b) :: (0, w, a) :: st) M Q := by
  intro p l e s m args below meth c X H locs ls hC hl hok hR hS
  have hb := hok.topI
  have ha := hok.pop.topI
  have k2 := k p l e s m args below meth c X H locs ls hC hl (hok.pop.pop.push (v := (0, 0, ax_and a b)) (ax_r32_of _)) hR hS
  have he : Int32.ofInt (ax_and a b) = Int32.ofInt a &&& Int32.ofInt b := ax_back _
  exact lv_iand hC.1 hC.2.1 hd (he ▸ k2)
theorem ax_ior {a b : Int} {u w : Nat} (hd : decode (ax_cc G) pc = .ok (.ior, 1)) (k : ax_W L G d (pc + 1) lc ((0, 0, ax_or a b) :: st) M Q) : ax_W L G d pc lc ((0, u, b) :: (0, w, a) :: st) M Q := by
  intro p l e s m args below meth c X H locs ls hC hl hok hR hS
  have hb := hok.topI
  have ha := hok.pop.topI
  have k2 := k p l e s m args below meth c X H locs ls hC hl (hok.pop.pop.push (v := (0, 0, ax_or a b)) (ax_r32_of _)) hR hS
  have he : Int32.ofInt (ax_or a b) = Int32.ofInt a ||| Int32.ofInt b := ax_back _
  exact lv_ior hC.1 hC.2.1 hd (he ▸ k2)
theorem ax_ixor {a b : Int} {u w : Nat} (hd : decode (ax_cc G) pc = .ok (.ixor, 1)) (k : ax_W L G d (pc + 1) lc ((0, 0, ax_xor a b) :: st) M Q) : ax_W L G d pc lc ((0, u, b) :: (0, w, a) :: st) M Q := by
  intro p l e s m args below meth c X H locs ls hC hl hok hR hS
  have hb := hok.topI
  have ha := hok.pop.topI
  have k2 := k p l e s m args below meth c X H locs ls hC hl (hok.pop.pop.push (v := (0, 0, ax_xor a b)) (ax_r32_of _)) hR hS
  have he : Int32.ofInt (ax_xor a b) = Int32.ofInt a ^^^ Int32.ofInt b := ax_back _
  exact lv_ixor hC.1 hC.2.1 hd (he ▸ k2)
theorem ax_ishl {a b : Int} {u w : Nat} (hd : decode (ax_cc G) pc = .ok (.ishl, 1)) (k : ax_W L G d (pc + 1) lc ((0, 0, ax_shl a b) :: st) M Q) : ax_W L G d pc lc ((0, u, b) :: (0, w, a) :: st) M Q := by
  intro p l e s m args below meth c X H locs ls hC hl hok hR hS
  have hb := hok.topI
  have ha := hok.pop.topI
  have k2 := k p l e s m args below meth c X H locs ls hC hl (hok.pop.pop.push (v := (0, 0, ax_shl a b)) (ax_r32_of _)) hR hS
  have he : Int32.ofInt (ax_shl a b) = Int32.ofInt a <<< (Int32.ofInt b &&& 31) := ax_back _
  exact lv_ishl hC.1 hC.2.1 hd (he ▸ k2)
theorem ax_ishr {a b : Int} {u w : Nat} (hd : decode (ax_cc G) pc = .ok (.ishr, 1)) (k : ax_W L G d (pc + 1) lc ((0, 0, ax_shr a b) :: st) M Q) : ax_W L G d pc lc ((0, u, b) :: (0, w, a) :: st) M Q := by
  intro p l e s m args below meth c X H locs ls hC hl hok hR hS
  have hb := hok.topI
  have ha := hok.pop.topI
  have k2 := k p l e s m args below meth c X H locs ls hC hl (hok.pop.pop.push (v := (0, 0, ax_shr a b)) (ax_r32_of _)) hR hS
  have he : Int32.ofInt (ax_shr a b) = Int32.ofInt a >>> (Int32.ofInt b &&& 31) := ax_back _
  exact lv_ishr hC.1 hC.2.1 hd (he ▸ k2)
theorem ax_iushr {a b : Int} {u w : Nat} (hd : decode (ax_cc G) pc = .ok (.iushr, 1)) (k : ax_W L G d (pc + 1) lc ((0, 0, ax_ushr a b) :: st) M Q) : ax_W L G d pc lc ((0, u, b) :: (0, w, a) :: st) M Q := by
  intro p l e s m args below meth c X H locs ls hC hl hok hR hS
  have hb := hok.topI
  have ha := hok.pop.topI
  have k2 := k p l e s m args below meth c X H locs ls hC hl (hok.pop.pop.push (v := (0, 0, ax_ushr a b)) (ax_r32_of _)) hR hS
  have he : Int32.ofInt (ax_ushr a b) = ((Int32.ofInt a).toUInt32 >>> ((Int32.ofInt b).toUInt32 &&& Int32.toUInt32 31)).toInt32 := ax_back _
  exact lv_iushr hC.1 hC.2.1 hd rfl (he ▸ k2)
theorem ax_idiv {a b : Int} {u w : Nat} (hd : decode (ax_cc G) pc = .ok (.idiv, 1)) (h0 : b ≠ 0) (k : ax_W L G d (pc + 1) lc ((0, 0, ax_div a b) :: st) M Q) : ax_W L G d pc lc ((0, u, b) :: (0, w, a) :: st) M Q := by
  intro p l e s m args below meth c X H locs ls hC hl hok hR hS
  have hb := hok.topI
  have ha := hok.pop.topI
  have k2 := k p l e s m args below meth c X H locs ls hC hl (hok.pop.pop.push (v := (0, 0, ax_div a b)) (ax_wr_r _)) hR hS
  have he : Int32.ofInt (ax_div a b) = Int32.ofInt a / Int32.ofInt b := ax_div_of ha hb
  exact lv_idiv hC.1 hC.2.1 hd (fun z => h0 ((ax_eq hb (by unfold ax_r32; omega) (b := 0)).mp z)) (he ▸ k2)
theorem ax_irem {a b : Int} {u w : Nat} (hd : decode (ax_cc G) pc = .ok (.irem, 1)) (h0 : b ≠ 0) (k : ax_W L G d (pc + 1) lc ((0, 0, ax_rem a b) :: st) M Q) : ax_W L G d pc lc ((0, u, b) :: (0, w, a) :: st) M Q := by
  intro p l e s m args below meth c X H locs ls hC hl hok hR hS
  have hb := hok.topI
  have ha := hok.pop.topI
  have k2 := k p l e s m args below meth c X H locs ls hC hl (hok.pop.pop.push (v := (0, 0, ax_rem a b)) (ax_rem_r ha h0 hb)) hR hS
  have he : Int32.ofInt (ax_rem a b) = Int32.ofInt a - Int32.ofInt a / Int32.ofInt b * Int32.ofInt b := ax_rem_of ha hb h0
  exact lv_irem hC.1 hC.2.1 hd (fun z => h0 ((ax_eq hb (by unfold ax_r32; omega) (b := 0)).mp z)) (he ▸ k2)
theorem ax_ineg {a : Int} {u : Nat} (hd : decode (ax_cc G) pc = .ok (.ineg, 1)) (k : ax_W L G d (pc + 1) lc ((0, 0, ax_wr (-a)) :: st) M Q) : ax_W L G d pc lc ((0, u, a) :: st) M Q := by
  intro p l e s m args below meth c X H locs ls hC hl hok hR hS
  have k2 := k p l e s m args below meth c X H locs ls hC hl (hok.pop.push (v := (0, 0, ax_wr (-a))) (ax_wr_r _)) hR hS
  have he : Int32.ofInt (ax_wr (-a)) = - Int32.ofInt a := by rw [ax_wr_of, Int32.ofInt_neg]
  exact lv_ineg hC.1 hC.2.1 hd (he ▸ k2)
theorem ax_i2b_ {a : Int} {u : Nat} (hd : decode (ax_cc G) pc = .ok (.i2b, 1)) (k : ax_W L G d (pc + 1) lc ((0, 0, ax_i2b a) :: st) M Q) : ax_W L G d pc lc ((0, u, a) :: st) M Q := by
  intro p l e s m args below meth c X H locs ls hC hl hok hR hS
  have k2 := k p l e s m args below meth c X H locs ls hC hl (hok.pop.push (v := (0, 0, ax_i2b a)) (ax_r32_of _)) hR hS
  exact lv_i2b hC.1 hC.2.1 hd (ax_back _).symm k2
theorem ax_i2s_ {a : Int} {u : Nat} (hd : decode (ax_cc G) pc = .ok (.i2s, 1)) (k : ax_W L G d (pc + 1) lc ((0, 0, ax_i2s a) :: st) M Q) : ax_W L G d pc lc ((0, u, a) :: st) M Q := by
  intro p l e s m args below meth c X H locs ls hC hl hok hR hS
  have k2 := k p l e s m args below meth c X H locs ls hC hl (hok.pop.push (v := (0, 0, ax_i2s a)) (ax_r32_of _)) hR hS
  exact lv_i2s hC.1 hC.2.1 hd (ax_back _).symm k2
theorem ax_i2c_ {a : Int} {u : Nat} (hd : decode (ax_cc G) pc = .ok (.i2c, 1)) (k : ax_W L G d (pc + 1) lc ((0, 0, ax_i2c a) :: st) M Q) : ax_W L G d pc lc ((0, u, a) :: st) M Q := by
  intro p l e s m args below meth c X H locs ls hC hl hok hR hS
  have k2 := k p l e s m args below meth c X H locs ls hC hl (hok.pop.push (v := (0, 0, ax_i2c a)) (ax_r32_of _)) hR hS
  exact lv_i2c hC.1 hC.2.1 hd (ax_back _).symm k2
theorem ax_i2l_ {a : Int} {u : Nat} (hd : decode (ax_cc G) pc = .ok (.i2l, 1)) (k : ax_W L G d (pc + 1) lc ((1, 0, a) :: st) M Q) : ax_W L G d pc lc ((0, u, a) :: st) M Q := by
  intro p l e s m args below meth c X H locs ls hC hl hok hR hS
  have ha := hok.topI
  have hr : ax_r64 a := by unfold ax_r32 at ha; unfold ax_r64; omega
  have k2 := k p l e s m args below meth c X H locs ls hC hl (hok.pop.push (v := (1, 0, a)) hr) hR hS
  have he : (Int32.ofInt a).toInt64 = Int64.ofInt a := (ax_eqL (by rw [Int32.toInt_toInt64, ax_toI ha])).symm
  exact lv_i2l hC.1 hC.2.1 hd he k2
theorem ax_lcmp_ {a b : Int} {u w : Nat} (hd : decode (ax_cc G) pc = .ok (.lcmp, 1)) (k : ax_W L G d (pc + 1) lc ((0, 0, ax_lcmp a b) :: st) M Q) : ax_W L G d pc lc ((1, u, b) :: (1, w, a) :: st) M Q := by
  intro p l e s m args below meth c X H locs ls hC hl hok hR hS
  have hb := hok.topL
  have ha := hok.pop.topL
  have hr : ax_r32 (ax_lcmp a b) := by unfold ax_lcmp ax_r32; split <;> (try split) <;> omega
  have k2 := k p l e s m args below meth c X H locs ls hC hl (hok.pop.pop.push (v := (0, 0, ax_lcmp a b)) hr) hR hS
  have he : Int32.ofInt (ax_lcmp a b) = lg_cmp (Int64.ofInt a) (Int64.ofInt b) := by
    have e1 : (Int64.ofInt b < Int64.ofInt a) = (b < a) := by rw [Int64.lt_iff_toInt_lt, ax_toL ha, ax_toL hb]
    have e2 : (Int64.ofInt a = Int64.ofInt b) = (a = b) := by rw [← Int64.toInt_inj, ax_toL ha, ax_toL hb]
    unfold ax_lcmp lg_cmp
    simp only [gt_iff_lt, e1, e2]
    rcases Int.lt_trichotomy a b with h | h | h
    · have h1 : ¬ b < a := by omega
      have h2 : ¬ a = b := by omega
      simp [h, h1, h2]
    · subst h; simp
    · have h1 : ¬ a < b := by omega
      have h2 : ¬ a = b := by omega
      simp [h, h1, h2]
  exact W.lcmp hC.1 hC.2.1 hd (he ▸ k2)
theorem ax_ldiv_ {a b : Int} {u w : Nat} (hd : decode (ax_cc G) pc = .ok (.ldiv, 1)) (h0 : b ≠ 0) (k : ax_W L G d (pc + 1) lc ((1, 0, ax_ldiv a b) :: st) M Q) : ax_W L G d pc lc ((1, u, b) :: (1, w, a) :: st) M Q := by
  intro p l e s m args below meth c X H locs ls hC hl hok hR hS
  have hb := hok.topL
  have k2 := k p l e s m args below meth c X H locs ls hC hl (hok.pop.pop.push (v := (1, 0, ax_ldiv a b)) (ax_r64_of _)) hR hS
  have hne : ¬ Int64.ofInt b = 0 := fun z => h0 (by rw [← ax_toL hb, z]; rfl)
  have he : Int64.ofInt (ax_ldiv a b) = _ := ax_backL _
  exact lv_ldiv hC.1 hC.2.1 hd hne (he ▸ k2)
theorem ax_lrem_ {a b : Int} {u w : Nat} (hd : decode (ax_cc G) pc = .ok (.lrem, 1)) (h0 : b ≠ 0) (k : ax_W L G d (pc + 1) lc ((1, 0, ax_lrem a b) :: st) M Q) : ax_W L G d pc lc ((1, u, b) :: (1, w, a) :: st) M Q := by
  intro p l e s m args below meth c X H locs ls hC hl hok hR hS
  have hb := hok.topL
  have k2 := k p l e s m args below meth c X H locs ls hC hl (hok.pop.pop.push (v := (1, 0, ax_lrem a b)) (ax_r64_of _)) hR hS
  have hne : ¬ Int64.ofInt b = 0 := fun z => h0 (by rw [← ax_toL hb, z]; rfl)
  have he : Int64.ofInt (ax_lrem a b) = _ := ax_backL _
  exact lv_lrem hC.1 hC.2.1 hd hne (he ▸ k2)
theorem ax_pop {v : ax_V} (hd : decode (ax_cc G) pc = .ok (.pop, 1)) (hv : v.1 ≠ 1) (k : ax_W L G d (pc + 1) lc st M Q) : ax_W L G d pc lc (v :: st) M Q := by
  intro p l e s m args below meth c X H locs ls hC hl hok hR hS
  exact lv_pop hC.1 hC.2.1 hd (by rw [ax_cat, if_neg hv]) (k p l e s m args below meth c X H locs ls hC hl hok.pop hR hS)
theorem ax_dup {v : ax_V} (hd : decode (ax_cc G) pc = .ok (.dup, 1)) (hv : v.1 ≠ 1) (k : ax_W L G d (pc + 1) lc (v :: v :: st) M Q) : ax_W L G d pc lc (v :: st) M Q := by
  intro p l e s m args below meth c X H locs ls hC hl hok hR hS
  exact lv_dup hC.1 hC.2.1 hd (by rw [ax_cat, if_neg hv]) (k p l e s m args below meth c X H locs ls hC hl (hok.push hok.top) hR hS)
theorem ax_dup2 {v w : ax_V} (hd : decode (ax_cc G) pc = .ok (.dup2, 1)) (hv : v.1 ≠ 1) (hw : w.1 ≠ 1) (k : ax_W L G d (pc + 1) lc (v :: w :: v :: w :: st) M Q) : ax_W L G d pc lc (v :: w :: st) M Q := by
  intro p l e s m args below meth c X H locs ls hC hl hok hR hS
  exact lv_dup2_11 hC.1 hC.2.1 hd (by rw [ax_cat, if_neg hv]) (by rw [ax_cat, if_neg hw]) (k p l e s m args below meth c X H locs ls hC hl ((hok.push hok.pop.top).push hok.top) hR hS)
theorem ax_goto {off : Int} {tgt : Nat} (hd : decode (ax_cc G) pc = .ok (.goto off, 3)) (ht : (pc : Int) + off = (tgt : Int)) (k : ax_W L G d tgt lc st M Q) : ax_W L G d pc lc st M Q := by
  intro p l e s m args below meth c X H locs ls hC hl hok hR hS
  exact lv_goto hC.1 hC.2.1 hd ht (k p l e s m args below meth c X H locs ls hC hl hok hR hS)
theorem ax_icmp_eq {a b : Int} {u w : Nat} {off : Int} {tgt : Nat} (hd : decode (ax_cc G) pc = .ok (.if_icmp .eq off, 3)) (ht : (pc : Int) + off = (tgt : Int)) (k1 : a = b → ax_W L G d tgt lc st M Q) (k2 : ¬ (a = b) → ax_W L G d (pc + 3) lc st M Q) : ax_W L G d pc lc ((0, u, b) :: (0, w, a) :: st) M Q := by
  intro p l e s m args below meth c X H locs ls hC hl hok hR hS
  have hb := hok.topI
  have ha := hok.pop.topI
  have hi := ax_eq ha hb
  exact lv_icmp_eq hC.1 hC.2.1 hd ht (fun z => k1 (hi.mp z) p l e s m args below meth c X H locs ls hC hl hok.pop.pop hR hS) (fun z => k2 (fun y => z (hi.mpr y)) p l e s m args below meth c X H locs ls hC hl hok.pop.pop hR hS)
theorem ax_icmp_ne {a b : Int} {u w : Nat} {off : Int} {tgt : Nat} (hd : decode (ax_cc G) pc = .ok (.if_icmp .ne off, 3)) (ht : (pc : Int) + off = (tgt : Int)) (k1 : a ≠ b → ax_W L G d tgt lc st M Q) (k2 : ¬ (a ≠ b) → ax_W L G d (pc + 3) lc st M Q) : ax_W L G d pc lc ((0, u, b) :: (0, w, a) :: st) M Q := by
  intro p l e s m args below meth c X H locs ls hC hl hok hR hS
  have hb := hok.topI
  have ha := hok.pop.topI
  have hi := not_congr (ax_eq ha hb)
  exact lv_icmp_ne hC.1 hC.2.1 hd ht (fun z => k1 (hi.mp z) p l e s m args below meth c X H locs ls hC hl hok.pop.pop hR hS) (fun z => k2 (fun y => y ((ax_eq ha hb).mp z)) p l e s m args below meth c X H locs ls hC hl hok.pop.pop hR hS)
theorem ax_icmp_lt {a b : Int} {u w : Nat} {off : Int} {tgt : Nat} (hd : decode (ax_cc G) pc = .ok (.if_icmp .lt off, 3)) (ht : (pc : Int) + off = (tgt : Int)) (k1 : a < b → ax_W L G d tgt lc st M Q) (k2 : ¬ (a < b) → ax_W L G d (pc + 3) lc st M Q) : ax_W L G d pc lc ((0, u, b) :: (0, w, a) :: st) M Q := by
  intro p l e s m args below meth c X H locs ls hC hl hok hR hS
  have hb := hok.topI
  have ha := hok.pop.topI
  have hi := ax_lt ha hb
  exact lv_icmp_lt hC.1 hC.2.1 hd ht (fun z => k1 (hi.mp z) p l e s m args below meth c X H locs ls hC hl hok.pop.pop hR hS) (fun z => k2 (fun y => z (hi.mpr y)) p l e s m args below meth c X H locs ls hC hl hok.pop.pop hR hS)
theorem ax_icmp_ge {a b : Int} {u w : Nat} {off : Int} {tgt : Nat} (hd : decode (ax_cc G) pc = .ok (.if_icmp .ge off, 3)) (ht : (pc : Int) + off = (tgt : Int)) (k1 : b ≤ a → ax_W L G d tgt lc st M Q) (k2 : ¬ (b ≤ a) → ax_W L G d (pc + 3) lc st M Q) : ax_W L G d pc lc ((0, u, b) :: (0, w, a) :: st) M Q := by
  intro p l e s m args below meth c X H locs ls hC hl hok hR hS
  have hb := hok.topI
  have ha := hok.pop.topI
  have hi := ax_le hb ha
  exact lv_icmp_ge hC.1 hC.2.1 hd ht (fun z => k1 (hi.mp z) p l e s m args below meth c X H locs ls hC hl hok.pop.pop hR hS) (fun z => k2 (fun y => z (hi.mpr y)) p l e s m args below meth c X H locs ls hC hl hok.pop.pop hR hS)
theorem ax_icmp_gt {a b : Int} {u w : Nat} {off : Int} {tgt : Nat} (hd : decode (ax_cc G) pc = .ok (.if_icmp .gt off, 3)) (ht : (pc : Int) + off = (tgt : Int)) (k1 : b < a → ax_W L G d tgt lc st M Q) (k2 : ¬ (b < a) → ax_W L G d (pc + 3) lc st M Q) : ax_W L G d pc lc ((0, u, b) :: (0, w, a) :: st) M Q := by
  intro p l e s m args below meth c X H locs ls hC hl hok hR hS
  have hb := hok.topI
  have ha := hok.pop.topI
  have hi := ax_lt hb ha
  exact lv_icmp_gt hC.1 hC.2.1 hd ht (fun z => k1 (hi.mp z) p l e s m args below meth c X H locs ls hC hl hok.pop.pop hR hS) (fun z => k2 (fun y => z (hi.mpr y)) p l e s m args below meth c X H locs ls hC hl hok.pop.pop hR hS)
theorem ax_icmp_le {a b : Int} {u w : Nat} {off : Int} {tgt : Nat} (hd : decode (ax_cc G) pc = .ok (.if_icmp .le off, 3)) (ht : (pc : Int) + off = (tgt : Int)) (k1 : a ≤ b → ax_W L G d tgt lc st M Q) (k2 : ¬ (a ≤ b) → ax_W L G d (pc + 3) lc st M Q) : ax_W L G d pc lc ((0, u, b) :: (0, w, a) :: st) M Q := by
  intro p l e s m args below meth c X H locs ls hC hl hok hR hS
  have hb := hok.topI
  have ha := hok.pop.topI
  have hi := ax_le ha hb
  exact lv_icmp_le hC.1 hC.2.1 hd ht (fun z => k1 (hi.mp z) p l e s m args below meth c X H locs ls hC hl hok.pop.pop hR hS) (fun z => k2 (fun y => z (hi.mpr y)) p l e s m args below meth c X H locs ls hC hl hok.pop.pop hR hS)
theorem ax_if_eq {a : Int} {u : Nat} {off : Int} {tgt : Nat} (hd : decode (ax_cc G) pc = .ok (.ifCond .eq off, 3)) (ht : (pc : Int) + off = (tgt : Int)) (k1 : a = 0 → ax_W L G d tgt lc st M Q) (k2 : ¬ (a = 0) → ax_W L G d (pc + 3) lc st M Q) : ax_W L G d pc lc ((0, u, a) :: st) M Q := by
  intro p l e s m args below meth c X H locs ls hC hl hok hR hS
  have ha := hok.topI
  have h0 := (by unfold ax_r32; omega : ax_r32 0)
  have hi := ax_eq ha h0
  exact lv_if_eq hC.1 hC.2.1 hd ht (fun z => k1 (hi.mp z) p l e s m args below meth c X H locs ls hC hl hok.pop hR hS) (fun z => k2 (fun y => z (hi.mpr y)) p l e s m args below meth c X H locs ls hC hl hok.pop hR hS)
theorem ax_if_ne {a : Int} {u : Nat} {off : Int} {tgt : Nat} (hd : decode (ax_cc G) pc = .ok (.ifCond .ne off, 3)) (ht : (pc : Int) + off = (tgt : Int)) (k1 : a ≠ 0 → ax_W L G d tgt lc st M Q) (k2 : ¬ (a ≠ 0) → ax_W L G d (pc + 3) lc st M Q) : ax_W L G d pc lc ((0, u, a) :: st) M Q := by
  intro p l e s m args below meth c X H locs ls hC hl hok hR hS
  have ha := hok.topI
  have h0 := (by unfold ax_r32; omega : ax_r32 0)
  have hi := not_congr (ax_eq ha h0)
  exact lv_if_ne hC.1 hC.2.1 hd ht (fun z => k1 (hi.mp z) p l e s m args below meth c X H locs ls hC hl hok.pop hR hS) (fun z => k2 (fun y => y ((ax_eq ha h0).mp z)) p l e s m args below meth c X H locs ls hC hl hok.pop hR hS)
theorem ax_if_lt {a : Int} {u : Nat} {off : Int} {tgt : Nat} (hd : decode (ax_cc G) pc = .ok (.ifCond .lt off, 3)) (ht : (pc : Int) + off = (tgt : Int)) (k1 : a < 0 → ax_W L G d tgt lc st M Q) (k2 : ¬ (a < 0) → ax_W L G d (pc + 3) lc st M Q) : ax_W L G d pc lc ((0, u, a) :: st) M Q := by
  intro p l e s m args below meth c X H locs ls hC hl hok hR hS
  have ha := hok.topI
  have h0 := (by unfold ax_r32; omega : ax_r32 0)
  have hi := ax_lt ha h0
  exact lv_if_lt hC.1 hC.2.1 hd ht (fun z => k1 (hi.mp z) p l e s m args below meth c X H locs ls hC hl hok.pop hR hS) (fun z => k2 (fun y => z (hi.mpr y)) p l e s m args below meth c X H locs ls hC hl hok.pop hR hS)
theorem ax_if_ge {a : Int} {u : Nat} {off : Int} {tgt : Nat} (hd : decode (ax_cc G) pc = .ok (.ifCond .ge off, 3)) (ht : (pc : Int) + off = (tgt : Int)) (k1 : 0 ≤ a → ax_W L G d tgt lc st M Q) (k2 : ¬ (0 ≤ a) → ax_W L G d (pc + 3) lc st M Q) : ax_W L G d pc lc ((0, u, a) :: st) M Q := by
  intro p l e s m args below meth c X H locs ls hC hl hok hR hS
  have ha := hok.topI
  have h0 := (by unfold ax_r32; omega : ax_r32 0)
  have hi := ax_le h0 ha
  exact lv_if_ge hC.1 hC.2.1 hd ht (fun z => k1 (hi.mp z) p l e s m args below meth c X H locs ls hC hl hok.pop hR hS) (fun z => k2 (fun y => z (hi.mpr y)) p l e s m args below meth c X H locs ls hC hl hok.pop hR hS)
theorem ax_if_gt {a : Int} {u : Nat} {off : Int} {tgt : Nat} (hd : decode (ax_cc G) pc = .ok (.ifCond .gt off, 3)) (ht : (pc : Int) + off = (tgt : Int)) (k1 : 0 < a → ax_W L G d tgt lc st M Q) (k2 : ¬ (0 < a) → ax_W L G d (pc + 3) lc st M Q) : ax_W L G d pc lc ((0, u, a) :: st) M Q := by
  intro p l e s m args below meth c X H locs ls hC hl hok hR hS
  have ha := hok.topI
  have h0 := (by unfold ax_r32; omega : ax_r32 0)
  have hi := ax_lt h0 ha
  exact lv_if_gt hC.1 hC.2.1 hd ht (fun z => k1 (hi.mp z) p l e s m args below meth c X H locs ls hC hl hok.pop hR hS) (fun z => k2 (fun y => z (hi.mpr y)) p l e s m args below meth c X H locs ls hC hl hok.pop hR hS)
theorem ax_if_le {a : Int} {u : Nat} {off : Int} {tgt : Nat} (hd : decode (ax_cc G) pc = .ok (.ifCond .le off, 3)) (ht : (pc : Int) + off = (tgt : Int)) (k1 : a ≤ 0 → ax_W L G d tgt lc st M Q) (k2 : ¬ (a ≤ 0) → ax_W L G d (pc + 3) lc st M Q) : ax_W L G d pc lc ((0, u, a) :: st) M Q := by
  intro p l e s m args below meth c X H locs ls hC hl hok hR hS
  have ha := hok.topI
  have h0 := (by unfold ax_r32; omega : ax_r32 0)
  have hi := ax_le ha h0
  exact lv_if_le hC.1 hC.2.1 hd ht (fun z => k1 (hi.mp z) p l e s m args below meth c X H locs ls hC hl hok.pop hR hS) (fun z => k2 (fun y => z (hi.mpr y)) p l e s m args below meth c X H locs ls hC hl hok.pop hR hS)
end AXA
