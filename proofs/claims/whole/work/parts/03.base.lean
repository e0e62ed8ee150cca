/-! ===== numbers as Ints, memories as functions: what a method does, told without the machine ===== -/
abbrev ax_V : Type := Nat × Nat × Int
abbrev ax_M : Type := Nat → Nat → Int
abbrev ax_L : Type := List (Nat × Nat)
abbrev ax_X : Type := (Nat → Nat) × (Nat → ClassId) × va_G
/-- pool tables of a class: fields (index, class, field, nest), ints, longs, constant arrays, texts -/
abbrev ax_K : Type := List (Nat × Nat × Nat × Bool) × List (Nat × Int) × List (Nat × Int) × List (Nat × Nat × Bool) × List (Nat × Nat)
abbrev ax_G : Type := MethodName × ByteArray × Nat × Option FieldType × ax_K
def ax_wr (x : Int) : Int := x.bmod 4294967296
def ax_r32 (n : Int) : Prop := -2147483648 ≤ n ∧ n ≤ 2147483647
def ax_r64 (n : Int) : Prop := -9223372036854775808 ≤ n ∧ n ≤ 9223372036854775807
def ax_vl (X : ax_X) (v : ax_V) : Value := match v.1 with
  | 0 => .int (Int32.ofInt v.2.2)
  | 1 => .long (Int64.ofInt v.2.2)
  | 7 => .ref (X.1 (2000 + v.2.1))
  | 10 => .ref (X.1 (1000 + v.2.1))
  | 11 => .null
  | _ => .ref (X.1 v.2.2.toNat)
def ax_ok (L : ax_L) (v : ax_V) : Prop := match v.1 with
  | 0 => ax_r32 v.2.2
  | 1 => ax_r64 v.2.2
  | 7 => True
  | 10 => True
  | 11 => True
  | k => 0 ≤ v.2.2 ∧ L[v.2.2.toNat]? = some (k, v.2.1)
/-! ints and longs by their numbers -/
theorem ax_toI {n : Int} (h : ax_r32 n) : (Int32.ofInt n).toInt = n := by
  rw [Int32.toInt_ofInt]
  show n.bmod 4294967296 = n
  exact Int.bmod_eq_of_le (by have := h.1; omega) (by have := h.2; omega)
theorem ax_toL {n : Int} (h : ax_r64 n) : (Int64.ofInt n).toInt = n := by
  rw [Int64.toInt_ofInt]
  show n.bmod 18446744073709551616 = n
  exact Int.bmod_eq_of_le (by have := h.1; omega) (by have := h.2; omega)
theorem ax_r32_of (x : Int32) : ax_r32 x.toInt := by
  have h1 := x.le_toInt
  have h2 := x.toInt_lt
  unfold ax_r32
  omega
theorem ax_r64_of (x : Int64) : ax_r64 x.toInt := by
  have h1 := x.le_toInt
  have h2 := x.toInt_lt
  unfold ax_r64
  omega
theorem ax_wr_r (x : Int) : ax_r32 (ax_wr x) := by
  have h := ax_r32_of (Int32.ofInt x)
  rw [Int32.toInt_ofInt] at h
  exact h
theorem ax_wr_id {x : Int} (h1 : -2147483648 ≤ x) (h2 : x ≤ 2147483647) : ax_wr x = x := Int.bmod_eq_of_le (by omega) (by omega)
theorem ax_wr_of (x : Int) : Int32.ofInt (ax_wr x) = Int32.ofInt x := by
  apply Int32.toInt_inj.mp
  rw [ax_toI (ax_wr_r x), Int32.toInt_ofInt]
  rfl
theorem ax_back (x : Int32) : Int32.ofInt x.toInt = x := Int32.ofInt_toInt x
theorem ax_backL (x : Int64) : Int64.ofInt x.toInt = x := Int64.ofInt_toInt x
theorem ax_eqI {x : Int32} {n : Int} (h : x.toInt = n) : Int32.ofInt n = x := by rw [← h]; exact ax_back x
theorem ax_eqL {x : Int64} {n : Int} (h : x.toInt = n) : Int64.ofInt n = x := by rw [← h]; exact ax_backL x
theorem ax_lt {a b : Int} (ha : ax_r32 a) (hb : ax_r32 b) : Int32.ofInt a < Int32.ofInt b ↔ a < b := by
  rw [Int32.lt_iff_toInt_lt, ax_toI ha, ax_toI hb]
theorem ax_le {a b : Int} (ha : ax_r32 a) (hb : ax_r32 b) : Int32.ofInt a ≤ Int32.ofInt b ↔ a ≤ b := by
  rw [Int32.le_iff_toInt_le, ax_toI ha, ax_toI hb]
theorem ax_eq {a b : Int} (ha : ax_r32 a) (hb : ax_r32 b) : Int32.ofInt a = Int32.ofInt b ↔ a = b := by
  rw [← Int32.toInt_inj, ax_toI ha, ax_toI hb]
theorem ax_clamp {n : Int} (h : ax_r32 n) : (Int32.ofInt n).toNatClampNeg = n.toNat := by
  show (Int32.ofInt n).toInt.toNat = n.toNat
  rw [ax_toI h]
theorem ax_in {n : Int} {N : Nat} (h : ax_r32 n) (h0 : 0 ≤ n) (h1 : n < N) : vp_in (Int32.ofInt n) N := by
  rw [vp_in_iff, ax_toI h]
  exact ⟨h0, h1⟩
def ax_and (a b : Int) : Int := (Int32.ofInt a &&& Int32.ofInt b).toInt
def ax_or (a b : Int) : Int := (Int32.ofInt a ||| Int32.ofInt b).toInt
def ax_xor (a b : Int) : Int := (Int32.ofInt a ^^^ Int32.ofInt b).toInt
def ax_shl (a b : Int) : Int := (Int32.ofInt a <<< (Int32.ofInt b &&& 31)).toInt
def ax_shr (a b : Int) : Int := (Int32.ofInt a >>> (Int32.ofInt b &&& 31)).toInt
def ax_ushr (a b : Int) : Int := ((Int32.ofInt a).toUInt32 >>> ((Int32.ofInt b).toUInt32 &&& Int32.toUInt32 31)).toInt32.toInt
def ax_i2b (a : Int) : Int := (Int32.ofInt a).toInt8.toInt32.toInt
def ax_i2s (a : Int) : Int := (Int32.ofInt a).toInt16.toInt32.toInt
def ax_i2c (a : Int) : Int := ((Int32.ofInt a).toUInt32 % 65536).toInt32.toInt
def ax_div (a b : Int) : Int := ax_wr (a.tdiv b)
def ax_rem (a b : Int) : Int := a.tmod b
def ax_ldiv (a b : Int) : Int := (Int64.ofInt a / Int64.ofInt b).toInt
def ax_lrem (a b : Int) : Int := (Int64.ofInt a - Int64.ofInt a / Int64.ofInt b * Int64.ofInt b).toInt
def ax_lcmp (a b : Int) : Int := if a < b then -1 else if a = b then 0 else 1
theorem ax_div_of {a b : Int} (ha : ax_r32 a) (hb : ax_r32 b) : Int32.ofInt (ax_div a b) = Int32.ofInt a / Int32.ofInt b := by
  apply ax_eqI
  rw [Int32.toInt_div, ax_toI ha, ax_toI hb]
  rfl
theorem ax_rem_r {a b : Int} (ha : ax_r32 a) (hb : b ≠ 0) (hb2 : ax_r32 b) : ax_r32 (ax_rem a b) := by
  unfold ax_rem ax_r32 at *
  have h1 : (a.tmod b).natAbs < b.natAbs := by
    rw [Int.natAbs_tmod]
    exact Nat.mod_lt _ (Int.natAbs_pos.mpr hb)
  omega
theorem ax_rem_of {a b : Int} (ha : ax_r32 a) (hb : ax_r32 b) (h0 : b ≠ 0) : Int32.ofInt (ax_rem a b) = Int32.ofInt a - Int32.ofInt a / Int32.ofInt b * Int32.ofInt b := by
  apply ax_eqI
  rw [Int32.toInt_sub, Int32.toInt_mul, Int32.toInt_div, ax_toI ha, ax_toI hb]
  have h1 : a - a.tdiv b * b = a.tmod b := by rw [Int.tmod_def, Int.mul_comm]
  have h2 : ax_r32 (a.tmod b) := ax_rem_r ha h0 hb
  have h3 : (a - a.tdiv b * b).bmod (2 ^ 32) = a.tmod b := by
    rw [h1]
    exact Int.bmod_eq_of_le (by have := h2.1; omega) (by have := h2.2; omega)
  rw [Int.bmod_mul_bmod, Int.sub_bmod_bmod, h3]
  rfl
