/-! ===== straight stretches, by computation ===== -/
abbrev ax_S : Type := List (Nat × ax_V) × List ax_V × ax_M × Prop
/-- an instruction with what the pool says of it: pc, instruction, length, two numbers, an int -/
abbrev ax_O : Type := Nat × Instr × Nat × Nat × Nat × Int
def ax_lk : List (Nat × ax_V) → Nat → Option ax_V
  | [], _ => none
  | q :: r, i => if q.1 = i then some q.2 else ax_lk r i
theorem ax_lk_mem {i : Nat} {v : ax_V} : ∀ {lc : List (Nat × ax_V)}, ax_lk lc i = some v → (i, v) ∈ lc
  | [], h => by cases h
  | q :: r, h => by
    unfold ax_lk at h
    split at h
    · rename_i e
      cases h
      subst e
      exact List.mem_cons_self
    · exact List.mem_cons_of_mem _ (ax_lk_mem h)
def ax_sLd (i : Nat) (σ : ax_S) : Option ax_S := match ax_lk σ.1 i with
  | some v => some (σ.1, v :: σ.2.1, σ.2.2)
  | none => none
def ax_sLdI (i : Nat) (σ : ax_S) : Option ax_S := match ax_lk σ.1 i with
  | some (0, _, n) => some (σ.1, (0, 0, n) :: σ.2.1, σ.2.2)
  | _ => none
def ax_sLdL (i : Nat) (σ : ax_S) : Option ax_S := match ax_lk σ.1 i with
  | some (1, _, n) => some (σ.1, (1, 0, n) :: σ.2.1, σ.2.2)
  | _ => none
def ax_sLdA (i : Nat) (σ : ax_S) : Option ax_S := match ax_lk σ.1 i with
  | some v => if ax_isR v = true then some (σ.1, v :: σ.2.1, σ.2.2) else none
  | _ => none
def ax_sSt (i : Nat) (σ : ax_S) : Option ax_S := match σ.2.1 with
  | (0, u, n) :: r => some (ax_put σ.1 i (0, u, n), r, σ.2.2)
  | _ => none
def ax_sStL (i : Nat) (σ : ax_S) : Option ax_S := match σ.2.1 with
  | (1, u, n) :: r => some (ax_put2 σ.1 i (1, u, n), r, σ.2.2)
  | _ => none
def ax_sStA (i : Nat) (σ : ax_S) : Option ax_S := match σ.2.1 with
  | v :: r => if ax_isR v = true then some (ax_put σ.1 i v, r, σ.2.2) else none
  | _ => none
/-- two ints to one; with the second form the result is told without its wrap, and a condition comes in -/
def ax_sB (w : Nat) (f g : Int → Int → Int) (c : Int → Int → Prop) (σ : ax_S) : Option ax_S := match σ.2.1 with
  | (0, _, b) :: (0, _, a) :: r => if w = 0 then some (σ.1, (0, 0, f a b) :: r, σ.2.2) else some (σ.1, (0, 0, g a b) :: r, σ.2.2.1, σ.2.2.2 ∧ c a b)
  | _ => none
def ax_sBc (w : Nat) (f g : Int → Int → Int) (c0 c : Int → Int → Prop) (σ : ax_S) : Option ax_S := match σ.2.1 with
  | (0, _, b) :: (0, _, a) :: r => if w = 0 then some (σ.1, (0, 0, f a b) :: r, σ.2.2.1, σ.2.2.2 ∧ c0 a b) else some (σ.1, (0, 0, g a b) :: r, σ.2.2.1, σ.2.2.2 ∧ c a b)
  | _ => none
def ax_sU (f : Int → Int) (σ : ax_S) : Option ax_S := match σ.2.1 with
  | (0, _, a) :: r => some (σ.1, (0, 0, f a) :: r, σ.2.2)
  | _ => none
def ax_sGet (c f : Nat) (σ : ax_S) : Option ax_S := match σ.2.1 with
  | (2, c', a) :: r => if c' = c then some (σ.1, ax_gf ((ax_fs c).getD f (0, 0, 0)) a (σ.2.2.1 a.toNat f) :: r, σ.2.2) else none
  | _ => none
def ax_pfc (q : Nat × Nat × Nat) (v : ax_V) (C : Prop) : Prop := if q.1 = 0 ∧ q.2.1 = 0 then C else if q.1 = 0 then C ∧ 0 ≤ v.2.2 ∧ v.2.2 < q.2.1 else if q.1 = 8 then C ∧ 0 ≤ v.2.2 ∧ v.2.2 ≤ 1 else C
def ax_pfk (q : Nat × Nat × Nat) (v : ax_V) : Bool := (q.1 == 0 && v.1 == 0) || (q.1 == 8 && v.1 == 0) || (q.1 == 9 && v.1 == 2 && v.2.1 == q.2.1)
def ax_sPut (c f : Nat) (σ : ax_S) : Option ax_S := match σ.2.1 with
  | v :: (2, c', a) :: r => if c' = c ∧ ax_pfk ((ax_fs c).getD f (0, 0, 0)) v = true then some (σ.1, r, ax_up σ.2.2.1 a.toNat f v.2.2, ax_pfc ((ax_fs c).getD f (0, 0, 0)) v σ.2.2.2) else none
  | _ => none
/-- loads out of a row of kind k, what comes is of kind j -/
def ax_sAld (k j : Nat) (σ : ax_S) : Option ax_S := match σ.2.1 with
  | (0, _, i) :: (k', n, a) :: r => if k' = k then some (σ.1, (j, 0, σ.2.2.1 a.toNat i.toNat) :: r, σ.2.2.1, σ.2.2.2 ∧ 0 ≤ i ∧ i < n)
    else if k' = 10 ∧ k = 3 then some (σ.1, (0, 0, (ax_cs.getD n ("", [])).2.getD i.toNat 0) :: r, σ.2.2.1, σ.2.2.2 ∧ 0 ≤ i ∧ i < (ax_cs.getD n ("", [])).2.length) else none
  | _ => none
def ax_sAst (k j : Nat) (c : Int → Prop → Prop) (σ : ax_S) : Option ax_S := match σ.2.1 with
  | (j', _, x) :: (0, _, i) :: (k', n, a) :: r => if k' = k ∧ j' = j then some (σ.1, r, ax_up σ.2.2.1 a.toNat i.toNat x, c x (σ.2.2.2 ∧ 0 ≤ i ∧ i < n)) else none
  | _ => none
def ax_sLen (σ : ax_S) : Option ax_S := match σ.2.1 with
  | (k, n, _) :: r => if (k = 3 ∨ k = 4 ∨ k = 5 ∨ k = 6) then some (σ.1, (0, 0, (n : Int)) :: r, σ.2.2.1, σ.2.2.2 ∧ (n : Int) ≤ 2147483647) else none
  | _ => none
def ax_sLL (f : Int → Int → Int) (σ : ax_S) : Option ax_S := match σ.2.1 with
  | (1, _, b) :: (1, _, a) :: r => some (σ.1, (1, 0, f a b) :: r, σ.2.2.1, σ.2.2.2 ∧ b ≠ 0)
  | _ => none
def ax_sInc (i w : Nat) (z : Int) (σ : ax_S) : Option ax_S := match ax_lk σ.1 i with
  | some (0, _, n) => if w = 0 then some (ax_put σ.1 i (0, 0, ax_wr (n + z)), σ.2) else some (ax_put σ.1 i (0, 0, n + z), σ.2.1, σ.2.2.1, σ.2.2.2 ∧ ax_r32 (n + z))
  | _ => none
def ax_st (o : ax_O) (σ : ax_S) : Option ax_S := match o.2.1 with
  | .iconst n => some (σ.1, (0, 0, n) :: σ.2.1, σ.2.2)
  | .bipush n => some (σ.1, (0, 0, n) :: σ.2.1, σ.2.2)
  | .sipush n => some (σ.1, (0, 0, n) :: σ.2.1, σ.2.2)
  | .ldc _ => if o.2.2.2.1 = 0 then some (σ.1, (0, 0, o.2.2.2.2.2) :: σ.2.1, σ.2.2) else some (σ.1, (7, o.2.2.2.2.1, 0) :: σ.2.1, σ.2.2)
  | .ldc_w _ => if o.2.2.2.1 = 0 then some (σ.1, (0, 0, o.2.2.2.2.2) :: σ.2.1, σ.2.2) else none
  | .ldc2_w _ => some (σ.1, (1, 0, o.2.2.2.2.2) :: σ.2.1, σ.2.2)
  | .lconst n => some (σ.1, (1, 0, (n.val : Int)) :: σ.2.1, σ.2.2)
  | .iload i => ax_sLdI i σ
  | .iload_n i => ax_sLdI i.val σ
  | .lload i => ax_sLdL i σ
  | .lload_n i => ax_sLdL i.val σ
  | .aload i => ax_sLdA i σ
  | .aload_n i => ax_sLdA i.val σ
  | .istore i => ax_sSt i σ
  | .istore_n i => ax_sSt i.val σ
  | .lstore i => ax_sStL i σ
  | .lstore_n i => ax_sStL i.val σ
  | .astore i => ax_sStA i σ
  | .astore_n i => ax_sStA i.val σ
  | .iinc i z => ax_sInc i o.2.2.2.1 z σ
  | .iadd => ax_sB o.2.2.2.1 (fun a b => ax_wr (a + b)) (fun a b => a + b) (fun a b => ax_r32 (a + b)) σ
  | .isub => ax_sB o.2.2.2.1 (fun a b => ax_wr (a - b)) (fun a b => a - b) (fun a b => ax_r32 (a - b)) σ
  | .imul => ax_sB o.2.2.2.1 (fun a b => ax_wr (a * b)) (fun a b => a * b) (fun a b => ax_r32 (a * b)) σ
  | .iand => ax_sB 0 ax_and ax_and (fun _ _ => True) σ
  | .ior => ax_sB 0 ax_or ax_or (fun _ _ => True) σ
  | .ixor => ax_sB 0 ax_xor ax_xor (fun _ _ => True) σ
  | .ishl => ax_sB 0 ax_shl ax_shl (fun _ _ => True) σ
  | .ishr => ax_sB 0 ax_shr ax_shr (fun _ _ => True) σ
  | .iushr => ax_sB 0 ax_ushr ax_ushr (fun _ _ => True) σ
  | .idiv => ax_sBc o.2.2.2.1 ax_div (fun a b => a / b) (fun _ b => b ≠ 0) (fun a b => 0 ≤ a ∧ 0 < b) σ
  | .irem => ax_sBc o.2.2.2.1 ax_rem (fun a b => a % b) (fun _ b => b ≠ 0) (fun a b => 0 ≤ a ∧ 0 < b) σ
  | .ineg => ax_sU (fun a => ax_wr (-a)) σ
  | .i2b => ax_sU ax_i2b σ
  | .i2s => ax_sU ax_i2s σ
  | .i2c => ax_sU ax_i2c σ
  | .i2l => match σ.2.1 with
    | (0, _, a) :: r => some (σ.1, (1, 0, a) :: r, σ.2.2)
    | _ => none
  | .lcmp => match σ.2.1 with
    | (1, _, b) :: (1, _, a) :: r => some (σ.1, (0, 0, ax_lcmp a b) :: r, σ.2.2)
    | _ => none
  | .ldiv => ax_sLL ax_ldiv σ
  | .lrem => ax_sLL ax_lrem σ
  | .pop => match σ.2.1 with
    | v :: r => if v.1 = 1 then none else some (σ.1, r, σ.2.2)
    | _ => none
  | .dup => match σ.2.1 with
    | v :: r => if v.1 = 1 then none else some (σ.1, v :: v :: r, σ.2.2)
    | _ => none
  | .dup2 => match σ.2.1 with
    | v :: w :: r => if v.1 = 1 ∨ w.1 = 1 then none else some (σ.1, v :: w :: v :: w :: r, σ.2.2)
    | _ => none
  | .getfield _ => ax_sGet o.2.2.2.1 o.2.2.2.2.1 σ
  | .putfield _ => ax_sPut o.2.2.2.1 o.2.2.2.2.1 σ
  | .getstatic _ => some (σ.1, (10, o.2.2.2.1, 0) :: σ.2.1, σ.2.2)
  | .iaload => ax_sAld 3 0 σ
  | .laload => ax_sAld 4 1 σ
  | .caload => ax_sAld 5 0 σ
  | .baload => ax_sAld 6 0 σ
  | .iastore => ax_sAst 3 0 (fun _ C => C) σ
  | .lastore => ax_sAst 4 1 (fun _ C => C) σ
  | .castore => ax_sAst 5 0 (fun x C => C ∧ 0 ≤ x ∧ x ≤ 65535) σ
  | .bastore => ax_sAst 6 0 (fun x C => C ∧ 0 ≤ x ∧ x ≤ 1) σ
  | .arraylength => ax_sLen σ
  | .goto _ => some σ
  | _ => none
def ax_next (o : ax_O) : Nat := match o.2.1 with
  | .goto _ => o.2.2.2.1
  | _ => o.1 + o.2.2.1
/-- what the tables must say of an instruction's pool entry -/
def ax_pool (K : ax_K) (nL : Nat) (o : ax_O) : Bool := match o.2.1 with
  | .iconst n => decide (-2147483648 ≤ n ∧ n ≤ 2147483647) && o.2.2.1 == 1
  | .bipush n => decide (-128 ≤ n ∧ n ≤ 127) && o.2.2.1 == 2
  | .sipush n => decide (-32768 ≤ n ∧ n ≤ 32767) && o.2.2.1 == 3
  | .ldc i => (if o.2.2.2.1 = 0 then K.2.1.contains (i, o.2.2.2.2.2) else K.2.2.2.2.contains (i, o.2.2.2.2.1)) && o.2.2.1 == 2
  | .ldc_w i => K.2.1.contains (i, o.2.2.2.2.2) && o.2.2.1 == 3
  | .ldc2_w i => K.2.2.1.contains (i, o.2.2.2.2.2) && o.2.2.1 == 3
  | .getfield i => (K.1.contains (i, o.2.2.2.1, o.2.2.2.2.1, false) || K.1.contains (i, o.2.2.2.1, o.2.2.2.2.1, true)) && o.2.2.1 == 3
  | .putfield i => (K.1.contains (i, o.2.2.2.1, o.2.2.2.2.1, false) || K.1.contains (i, o.2.2.2.1, o.2.2.2.2.1, true)) && o.2.2.1 == 3
  | .getstatic i => K.2.2.2.1.contains (i, o.2.2.2.1, false) && o.2.2.1 == 3
  | .goto off => decide ((o.1 : Int) + off = (o.2.2.2.1 : Int)) && o.2.2.1 == 3
  | .iinc i _ => decide (i < nL) && o.2.2.1 == 3
  | .istore i => decide (i < nL) && o.2.2.1 == 2
  | .astore i => decide (i < nL) && o.2.2.1 == 2
  | .lstore i => decide (i + 1 < nL) && o.2.2.1 == 2
  | .istore_n i => decide (i.val < nL) && o.2.2.1 == 1
  | .astore_n i => decide (i.val < nL) && o.2.2.1 == 1
  | .lstore_n i => decide (i.val + 1 < nL) && o.2.2.1 == 1
  | .iload _ => o.2.2.1 == 2
  | .lload _ => o.2.2.1 == 2
  | .aload _ => o.2.2.1 == 2
  | _ => o.2.2.1 == 1
def ax_run : List ax_O → ax_S → Option ax_S
  | [], σ => some σ
  | o :: os, σ => match ax_st o σ with
    | some σ' => ax_run os σ'
    | none => none
/-- a stretch: decoded, each behind the other -/
def ax_chk (G : ax_G) : Nat → List ax_O → Nat → Bool
  | pc, [], pc' => pc == pc'
  | pc, o :: os, pc' => pc == o.1 && decide (decode (ax_cc G) o.1 = .ok (o.2.1, o.2.2.1)) && ax_pool (ax_kk G) (ax_nL G) o && ax_chk G (ax_next o) os pc'
