/-! ===== a day's text, an act at a time ===== -/
section DYQ
variable {M X Nm N Y : ax_M}
/-- what reading an act may change -/
def dz (j : Nat) (N Y : ax_M) : Prop := (∀ s, s ≠ 0 → s ≠ 14 → s ≠ 15 → s ≠ 16 → Y s = N s) ∧ (∀ s, s = 14 ∨ s = 15 ∨ s = 16 → ∀ i, i ≠ j → Y s i = N s i) ∧ ∀ f, f ≠ 5 → f ≠ 31 → Y 0 f = N 0 f
theorem dz.rf {j : Nat} : dz j N N := ⟨fun _ _ _ _ _ => rfl, fun _ _ _ _ => rfl, fun _ _ _ => rfl⟩
theorem dz.u0 {j f : Nat} {v : Int} (h : dz j N Y) (hf : f = 5 ∨ f = 31) : dz j N (ax_up Y 0 f v) :=
  ⟨fun s s0 s1 s2 s3 => by rw [ax_up_ne s0]; exact h.1 s s0 s1 s2 s3, fun s hs i hi => by rw [ax_up_ne (by omega)]; exact h.2.1 s hs i hi, fun g g1 g2 => by rw [fo_up_at, fo_u_o (by omega)]; exact h.2.2 g g1 g2⟩
theorem dz.uj {j s : Nat} {v : Int} (h : dz j N Y) (hs : s = 14 ∨ s = 15 ∨ s = 16) : dz j N (ax_up Y s j v) :=
  ⟨fun t t0 t1 t2 t3 => by rw [ax_up_ne (by omega)]; exact h.1 t t0 t1 t2 t3, fun t ht i hi => by
    by_cases e : t = s
    · subst e
      rw [fo_up_at, fo_u_o hi]; exact h.2.1 t ht i hi
    · rw [ax_up_ne e]; exact h.2.1 t ht i hi, fun g g1 g2 => by rw [ax_up_ne (by omega)]; exact h.2.2 g g1 g2⟩
theorem dw_b {w v2 : Int} {n p : Nat} {kx : Int → Int} (hn : n ≤ 80) (hp : p < n) (hX : X 34 p = Nm 2 p) : f_X2_wrongInDay_L8 w X (n - p) (p : Int) v2 0 kx = if 1 ≤ dp_sz (Nm 2 p) then f_X2_wrongInDay_L8 w X (n - (p + 1)) ((p + 1 : Nat) : Int) (Nm 2 p) ((dp_sz (Nm 2 p) : Int) - 1) kx else (p : Int) := by
  obtain ⟨k, e⟩ : ∃ k, n - p = k + 1 := ⟨n - p - 1, by omega⟩
  have e2 : n - (p + 1) = k := by omega
  rw [e, e2, dw_0 (by omega), hX]
theorem dw_d {w v2 v3 : Int} {n q : Nat} (hn : n ≤ 80) (hq : q ≤ n) (h3 : 0 < v3) (hX : q < n → X 34 q = Nm 2 q) : f_X2_wrongInDay_L8 w X (n - q) (q : Int) v2 v3 (fun z => if z ≤ 0 then -1 else (n : Int)) = if q < n ∧ 48 ≤ Nm 2 q ∧ Nm 2 q ≤ (if v2 = 99 then 49 else 57) then f_X2_wrongInDay_L8 w X (n - (q + 1)) ((q + 1 : Nat) : Int) v2 (v3 - 1) (fun z => if z ≤ 0 then -1 else (n : Int)) else (q : Int) := by
  by_cases h : q < n
  · obtain ⟨k, e⟩ : ∃ k, n - q = k + 1 := ⟨n - q - 1, by omega⟩
    have e2 : n - (q + 1) = k := by omega
    rw [e, e2, dw_1 (by omega) h3, hX h]
    by_cases h2 : 48 ≤ Nm 2 q ∧ Nm 2 q ≤ (if v2 = 99 then 49 else 57)
    · rw [if_pos h2, if_pos ⟨h, h2⟩]
    · rw [if_neg h2, if_neg (fun z => h2 z.2)]
  · have e : n - q = 0 := by omega
    rw [e, dw_z, if_neg (by omega), if_neg (fun z => h z.1)]
    omega
/-- one act, as it stands in the text at p: sign's number a, its numbers b, c -/
def dp_one (T : Nat → Int) (a b c : Int) (p : Nat) : Prop :=
  (T p = 113 ∧ a = 0) ∨ (T p = 108 ∧ a = 1) ∨ (T p = 104 ∧ a = 2) ∨ (T p = 109 ∧ a = 3 ∧ b = T (p + 1) - 48 ∧ 48 ≤ T (p + 1) ∧ T (p + 1) ≤ 57) ∨ (T p = 99 ∧ a = 4 ∧ b = T (p + 1) - 48 ∧ 48 ≤ T (p + 1) ∧ T (p + 1) ≤ 49) ∨
  (T p = 119 ∧ a = 5 ∧ b = 10 * (T (p + 1) - 48) + (T (p + 2) - 48) ∧ c = 10 * (T (p + 3) - 48) + (T (p + 4) - 48) ∧ (48 ≤ T (p + 1) ∧ T (p + 1) ≤ 57) ∧ (48 ≤ T (p + 2) ∧ T (p + 2) ≤ 57) ∧ (48 ≤ T (p + 3) ∧ T (p + 3) ≤ 57) ∧ 48 ≤ T (p + 4) ∧ T (p + 4) ≤ 57)
theorem dj_n {j : Nat} {s0 : Int} (hj : j < 80) (hs : s0 < 0) : (f_X3_readsAct_J100 (j : Int) s0 (j : Int) M).1 ∧ (f_X3_readsAct_J100 (j : Int) s0 (j : Int) M).2 = (0, ax_up M 15 j s0) := by
  unfold f_X3_readsAct_J100 ax_rq
  simp only [ax_bd]
  rw [fo_t0, show ax_up M 15 j s0 15 j = s0 by rw [fo_up_at, fo_u_s], if_pos hs]
  exact ⟨⟨by omega, by omega, by omega, trivial⟩, rfl⟩
theorem dj_3 {j : Nat} {s0 : Int} (hj : j < 80) (hs : 0 ≤ s0) (h14 : M 14 j < 5) : (f_X3_readsAct_J100 (j : Int) s0 (j : Int) M).1 ∧ (f_X3_readsAct_J100 (j : Int) s0 (j : Int) M).2 = (1, ax_up M 15 j s0) := by
  unfold f_X3_readsAct_J100 ax_rq
  simp only [ax_bd]
  rw [fo_t0, show ax_up M 15 j s0 15 j = s0 by rw [fo_up_at, fo_u_s], if_neg (by omega), show ax_up M 15 j s0 14 j = M 14 j by rw [ax_up_ne (by decide)], if_neg (by omega)]
  exact ⟨⟨by omega, by omega, by omega, by omega, trivial⟩, rfl⟩
theorem dj_5 {j : Nat} {s0 : Int} (hj : j < 80) (hs : 0 ≤ s0) (h14 : M 14 j = 5) (ht : (f_X3_two (ax_up M 15 j s0)).1) : (f_X3_readsAct_J100 (j : Int) s0 (j : Int) M).1 ∧ (f_X3_readsAct_J100 (j : Int) s0 (j : Int) M).2 = (if (f_X3_two (ax_up M 15 j s0)).2.1 < 0 then 0 else 1, ax_up (f_X3_two (ax_up M 15 j s0)).2.2 16 j (f_X3_two (ax_up M 15 j s0)).2.1) := by
  unfold f_X3_readsAct_J100 ax_rq ax_rc
  simp only [ax_bd]
  rw [fo_t0, show ax_up M 15 j s0 15 j = s0 by rw [fo_up_at, fo_u_s], if_neg (by omega), show ax_up M 15 j s0 14 j = 5 by rw [ax_up_ne (by decide), h14], if_pos (by decide)]
  generalize f_X3_two (ax_up M 15 j s0) = A at ht ⊢
  rw [show ax_up A.2.2 16 j A.2.1 16 j = A.2.1 by rw [fo_up_at, fo_u_s]]
  by_cases h : A.2.1 < 0
  · simp only [if_pos h]
    exact ⟨⟨by omega, by omega, by omega, ht, by omega, by omega, trivial⟩, trivial⟩
  · simp only [if_neg h]
    exact ⟨⟨by omega, by omega, by omega, ht, by omega, by omega, trivial⟩, trivial⟩
/-- an act read, by both -/
def dr_P (w : Int) (X Nm : ax_M) (p n j : Nat) (R : Prop × Int × ax_M) : Prop :=
  R.1 ∧ dz j Nm R.2.2 ∧ R.2.2 0 31 = ((j + 1 : Nat) : Int) ∧
  ((R.2.1 ≠ 0 ∧ dp_one (Nm 2) (R.2.2 14 j) (R.2.2 15 j) (R.2.2 16 j) p ∧ R.2.2 0 5 = ((p + dp_sz (Nm 2 p) : Nat) : Int) ∧ p + dp_sz (Nm 2 p) ≤ n ∧
      ∀ act, f_X2_wrongInDay_L8 w X (n - p) (p : Int) act 0 (fun z => if z ≤ 0 then -1 else (n : Int)) = f_X2_wrongInDay_L8 w X (n - (p + dp_sz (Nm 2 p))) ((p + dp_sz (Nm 2 p) : Nat) : Int) (Nm 2 p) 0 (fun z => if z ≤ 0 then -1 else (n : Int))) ∨
    (R.2.1 = 0 ∧ 0 ≤ R.2.2 0 5 ∧ ∀ act, f_X2_wrongInDay_L8 w X (n - p) (p : Int) act 0 (fun z => if z ≤ 0 then -1 else (n : Int)) = R.2.2 0 5))
theorem dr_mk {w : Int} {p n j : Nat} {R : Prop × Int × ax_M} {v : Int} (h1 : R.1) (e : R.2 = (v, Y)) (hd : dz j Nm Y) (h31 : Y 0 31 = ((j + 1 : Nat) : Int))
    (h : (v ≠ 0 ∧ dp_one (Nm 2) (Y 14 j) (Y 15 j) (Y 16 j) p ∧ Y 0 5 = ((p + dp_sz (Nm 2 p) : Nat) : Int) ∧ p + dp_sz (Nm 2 p) ≤ n ∧
      ∀ act, f_X2_wrongInDay_L8 w X (n - p) (p : Int) act 0 (fun z => if z ≤ 0 then -1 else (n : Int)) = f_X2_wrongInDay_L8 w X (n - (p + dp_sz (Nm 2 p))) ((p + dp_sz (Nm 2 p) : Nat) : Int) (Nm 2 p) 0 (fun z => if z ≤ 0 then -1 else (n : Int))) ∨
    (v = 0 ∧ 0 ≤ Y 0 5 ∧ ∀ act, f_X2_wrongInDay_L8 w X (n - p) (p : Int) act 0 (fun z => if z ≤ 0 then -1 else (n : Int)) = Y 0 5)) : dr_P w X Nm p n j R := by
  obtain ⟨R1, R2, R3⟩ := R
  cases e
  exact ⟨h1, hd, h31, h⟩
theorem ra_0 {j : Nat} {k : Int} {N1 : ax_M} (hj : j < 80) (hac : Nm 0 31 = (j : Int)) (ht : (f_X3_takesOf 4 Nm).1) (h : (f_X3_takesOf 4 Nm).2 = (k, N1)) (h31 : N1 0 31 = (j : Int)) (hk : k < 3) :
    (f_X3_readsAct Nm).1 ∧ (f_X3_readsAct Nm).2 = (if k < 0 then 0 else 1, ax_up (ax_up N1 14 j k) 0 31 ((j : Int) + 1)) := by
  unfold f_X3_readsAct
  simp only [ax_bd]
  unfold ax_rc
  rw [hac, h]
  dsimp only
  have e31 : ax_up N1 14 j k 0 31 = (j : Int) := by rw [ax_up_ne (by decide), h31]
  unfold ax_rq
  rw [fo_t0, e31]
  have e14 : ax_up (ax_up N1 14 j k) 0 31 ((j : Int) + 1) 14 j = k := by rw [ax_up_ne (by decide), fo_up_at, fo_u_s]
  rw [e14, if_neg (show ¬ 3 ≤ k by omega)]
  by_cases h0 : k < 0
  · simp only [if_pos h0]
    exact ⟨⟨ht, by omega, by omega, by omega, by omega, trivial⟩, trivial⟩
  · simp only [if_neg h0]
    exact ⟨⟨ht, by omega, by omega, by omega, by omega, trivial⟩, trivial⟩
theorem ra_n {j : Nat} {k : Int} {N1 : ax_M} {B : Prop × Int × ax_M} (hj : j < 80) (hac : Nm 0 31 = (j : Int)) (ht : (f_X3_takesOf 4 Nm).1) (h : (f_X3_takesOf 4 Nm).2 = (k, N1)) (h31 : N1 0 31 = (j : Int)) (hk : 3 ≤ k)
    (hB : B = if k = 3 then f_X3_number 1 (ax_up (ax_up N1 14 j k) 0 31 ((j : Int) + 1)) else if k = 4 then f_X3_takesOf 5 (ax_up (ax_up N1 14 j k) 0 31 ((j : Int) + 1)) else f_X3_two (ax_up (ax_up N1 14 j k) 0 31 ((j : Int) + 1)))
    (b1 : B.1) (j1 : (f_X3_readsAct_J100 (j : Int) B.2.1 (j : Int) B.2.2).1) : (f_X3_readsAct Nm).1 ∧ (f_X3_readsAct Nm).2 = (f_X3_readsAct_J100 (j : Int) B.2.1 (j : Int) B.2.2).2 := by
  unfold f_X3_readsAct
  simp only [ax_bd]
  unfold ax_rc
  rw [hac, h]
  dsimp only
  have e31 : ax_up N1 14 j k 0 31 = (j : Int) := by rw [ax_up_ne (by decide), h31]
  unfold ax_rq
  rw [fo_t0, e31]
  have e14 : ax_up (ax_up N1 14 j k) 0 31 ((j : Int) + 1) 14 j = k := by rw [ax_up_ne (by decide), fo_up_at, fo_u_s]
  rw [e14, if_pos hk]
  by_cases h3 : k = 3
  · rw [if_pos h3] at hB
    rw [← hB]
    simp only [if_neg (show ¬ k ≠ 3 by omega)]
    exact ⟨⟨ht, by omega, by omega, by omega, by omega, b1, j1⟩, trivial⟩
  · rw [if_neg h3] at hB
    simp only [if_pos h3]
    by_cases h4 : k = 4
    · rw [if_pos h4] at hB
      rw [← hB]
      simp only [if_neg (show ¬ k ≠ 4 by omega)]
      exact ⟨⟨ht, by omega, by omega, by omega, by omega, by omega, b1, j1⟩, trivial⟩
    · rw [if_neg h4] at hB
      rw [← hB]
      simp only [if_pos h4]
      exact ⟨⟨ht, by omega, by omega, by omega, by omega, by omega, b1, j1⟩, trivial⟩
theorem dr_act {w : Int} {p n j : Nat} (hat : Nm 0 5 = (p : Int)) (hto : Nm 0 6 = (n : Int)) (hac : Nm 0 31 = (j : Int)) (hn : n ≤ 80) (hp : p < n) (hj : j < 80) (hX : ∀ i, i < n → X 34 i = Nm 2 i) : dr_P w X Nm p n j (f_X3_readsAct Nm) := by
  obtain ⟨t1, t2⟩ := dn_of4 hat hto hp
  have hb := fun act => dw_b (w := w) (v2 := act) (kx := fun z => if z ≤ 0 then -1 else (n : Int)) hn hp (hX p hp)
  have hsz : ∀ c : Int, Nm 2 p = c → dp_sz (Nm 2 p) = dp_sz c := fun c e => by rw [e]
  have a31 : ax_up Nm 0 5 ((p + 1 : Nat) : Int) 0 31 = (j : Int) := by rw [fo_up_at, fo_u_o (by decide), hac]
  -- signs of nothing more
  have simple : ∀ (k c : Int), Nm 2 p = c → 0 ≤ k → k < 3 → dp_sz c = 1 → (f_X3_takesOf 4 Nm).2 = (k, ax_up Nm 0 5 ((p + 1 : Nat) : Int)) → (dp_one (Nm 2) k (Nm 15 j) (Nm 16 j) p) → dr_P w X Nm p n j (f_X3_readsAct Nm) := by
    intro k c hc k0 k3 h1 h2 ho
    obtain ⟨r1, r2⟩ := ra_0 hj hac t1 h2 a31 k3
    rw [if_neg (by omega)] at r2
    refine dr_mk r1 r2 (((dz.rf.u0 (Or.inl rfl)).uj (Or.inl rfl)).u0 (Or.inr rfl)) (by rw [fo_up_at, fo_u_s]; omega) (Or.inl ⟨by decide, ?_, ?_, ?_, fun act => ?_⟩)
    · rw [show ax_up (ax_up (ax_up Nm 0 5 ((p + 1 : Nat) : Int)) 14 j k) 0 31 ((j : Int) + 1) 14 j = k by rw [ax_up_ne (by decide), fo_up_at, fo_u_s], ax_up_ne (show (15 : Nat) ≠ 0 by decide), ax_up_ne (show (15 : Nat) ≠ 14 by decide), ax_up_ne (show (15 : Nat) ≠ 0 by decide), ax_up_ne (show (16 : Nat) ≠ 0 by decide), ax_up_ne (show (16 : Nat) ≠ 14 by decide), ax_up_ne (show (16 : Nat) ≠ 0 by decide)]
      exact ho
    · rw [hsz _ hc, h1, fo_up_at, fo_u_o (by decide), ax_up_ne (by decide), fo_up_at, fo_u_s]
    · rw [hsz _ hc, h1]; omega
    · rw [hb, hsz _ hc, h1, if_pos (by decide)]; rfl
  -- what the sign leaves
  have M8f : ∀ k : Int, ∃ M8 : ax_M, M8 = ax_up (ax_up (ax_up Nm 0 5 ((p + 1 : Nat) : Int)) 14 j k) 0 31 ((j : Int) + 1) ∧ M8 0 5 = ((p + 1 : Nat) : Int) ∧ M8 0 6 = (n : Int) ∧ M8 2 = Nm 2 ∧ M8 14 j = k ∧ M8 0 31 = ((j + 1 : Nat) : Int) ∧ dz j Nm M8 := fun k =>
    ⟨_, rfl, by rw [fo_up_at, fo_u_o (by decide), ax_up_ne (by decide), fo_up_at, fo_u_s], by rw [fo_up_at, fo_u_o (by decide), ax_up_ne (by decide), fo_up_at, fo_u_o (by decide), hto], by rw [ax_up_ne (by decide), ax_up_ne (by decide), ax_up_ne (by decide)], by rw [ax_up_ne (by decide), fo_up_at, fo_u_s], by rw [fo_up_at, fo_u_s]; omega, ((dz.rf.u0 (Or.inl rfl)).uj (Or.inl rfl)).u0 (Or.inr rfl)⟩
  -- signs of a digit
  have digit : ∀ (k c lim : Int), Nm 2 p = c → (k = 3 ∨ k = 4) → dp_sz c = 2 → lim = (if c = 99 then 49 else 57) → lim ≤ 57 → (f_X3_takesOf 4 Nm).2 = (k, ax_up Nm 0 5 ((p + 1 : Nat) : Int)) →
      (∀ M8 : ax_M, M8 0 5 = ((p + 1 : Nat) : Int) → M8 0 6 = (n : Int) → M8 2 = Nm 2 → (if k = 3 then f_X3_number 1 M8 else if k = 4 then f_X3_takesOf 5 M8 else f_X3_two M8).1 ∧ (if k = 3 then f_X3_number 1 M8 else if k = 4 then f_X3_takesOf 5 M8 else f_X3_two M8).2 = if p + 1 < n ∧ 48 ≤ Nm 2 (p + 1) ∧ Nm 2 (p + 1) ≤ lim then (Nm 2 (p + 1) - 48, ax_up M8 0 5 ((p + 1 + 1 : Nat) : Int)) else (-1, M8)) →
      (48 ≤ Nm 2 (p + 1) → Nm 2 (p + 1) ≤ lim → ∀ c', dp_one (Nm 2) k (Nm 2 (p + 1) - 48) c' p) → dr_P w X Nm p n j (f_X3_readsAct Nm) := by
    intro k c lim hc hk h2 hlim hl57 ht hB ho
    obtain ⟨M8, e8, f1, f2, f3, f4, f5, f6⟩ := M8f k
    obtain ⟨b1, b2⟩ := hB M8 f1 f2 f3
    have hcl : ∀ act, f_X2_wrongInDay_L8 w X (n - p) (p : Int) act 0 (fun z => if z ≤ 0 then -1 else (n : Int)) = if p + 1 < n ∧ 48 ≤ Nm 2 (p + 1) ∧ Nm 2 (p + 1) ≤ lim then f_X2_wrongInDay_L8 w X (n - (p + 2)) ((p + 2 : Nat) : Int) c 0 (fun z => if z ≤ 0 then -1 else (n : Int)) else ((p + 1 : Nat) : Int) := by
      intro act
      rw [hb, hsz _ hc, h2, if_pos (by decide), hc, dw_d hn (by omega) (by decide) (fun h => hX _ h), ← hlim]
      rfl
    have hra := fun j1 => ra_n (B := if k = 3 then f_X3_number 1 M8 else if k = 4 then f_X3_takesOf 5 M8 else f_X3_two M8) hj hac t1 ht a31 (by omega) (by rw [e8]) b1 j1
    generalize (if k = 3 then f_X3_number 1 M8 else if k = 4 then f_X3_takesOf 5 M8 else f_X3_two M8) = B at b1 b2 hra
    by_cases hd : p + 1 < n ∧ 48 ≤ Nm 2 (p + 1) ∧ Nm 2 (p + 1) ≤ lim
    · rw [if_pos hd] at b2
      rw [b2] at hra
      have q14 : ax_up M8 0 5 ((p + 1 + 1 : Nat) : Int) 14 j = k := by rw [ax_up_ne (by decide), f4]
      obtain ⟨j1, j2⟩ := dj_3 (M := ax_up M8 0 5 ((p + 1 + 1 : Nat) : Int)) (s0 := Nm 2 (p + 1) - 48) hj (by omega) (by rw [q14]; omega)
      obtain ⟨r1, r2⟩ := hra j1
      refine dr_mk r1 (r2.trans j2) ((f6.u0 (Or.inl rfl)).uj (Or.inr (Or.inl rfl))) (by rw [ax_up_ne (by decide), fo_up_at, fo_u_o (by decide), f5]) (Or.inl ⟨by decide, ?_, ?_, ?_, fun act => ?_⟩)
      · rw [show ax_up (ax_up M8 0 5 ((p + 1 + 1 : Nat) : Int)) 15 j (Nm 2 (p + 1) - 48) 14 j = k by rw [ax_up_ne (by decide), q14], show ax_up (ax_up M8 0 5 ((p + 1 + 1 : Nat) : Int)) 15 j (Nm 2 (p + 1) - 48) 15 j = Nm 2 (p + 1) - 48 by rw [fo_up_at, fo_u_s]]
        exact ho hd.2.1 hd.2.2 _
      · rw [hsz _ hc, h2, ax_up_ne (by decide), fo_up_at, fo_u_s]
      · rw [hsz _ hc, h2]; omega
      · rw [hcl, if_pos hd, hsz _ hc, h2, hc]
    · rw [if_neg hd] at b2
      rw [b2] at hra
      obtain ⟨j1, j2⟩ := dj_n (M := M8) (s0 := -1) hj (by decide)
      obtain ⟨r1, r2⟩ := hra j1
      refine dr_mk r1 (r2.trans j2) (f6.uj (Or.inr (Or.inl rfl))) (by rw [ax_up_ne (by decide), f5]) (Or.inr ⟨rfl, ?_, fun act => ?_⟩)
      · rw [ax_up_ne (by decide), f1]; omega
      · rw [hcl, if_neg hd, ax_up_ne (by decide), f1]
  by_cases c1 : Nm 2 p = 113
  · rw [if_pos c1] at t2
    exact simple 0 113 c1 (by decide) (by decide) (by decide) t2 (Or.inl ⟨c1, rfl⟩)
  rw [if_neg c1] at t2
  by_cases c2 : Nm 2 p = 108
  · rw [if_pos c2] at t2
    exact simple 1 108 c2 (by decide) (by decide) (by decide) t2 (Or.inr (Or.inl ⟨c2, rfl⟩))
  rw [if_neg c2] at t2
  by_cases c3 : Nm 2 p = 104
  · rw [if_pos c3] at t2
    exact simple 2 104 c3 (by decide) (by decide) (by decide) t2 (Or.inr (Or.inr (Or.inl ⟨c3, rfl⟩)))
  rw [if_neg c3] at t2
  by_cases c4 : Nm 2 p = 109
  · rw [if_pos c4] at t2
    refine digit 3 109 57 c4 (Or.inl rfl) (by decide) (by decide) (by decide) t2 (fun M8 g1 g2 g3 => ?_) (fun g1 g2 c' => Or.inr (Or.inr (Or.inr (Or.inl ⟨c4, rfl, rfl, g1, g2⟩))))
    rw [if_pos rfl, ← g3]
    exact dn_num g1 g2 hn
  rw [if_neg c4] at t2
  by_cases c5 : Nm 2 p = 99
  · rw [if_pos c5] at t2
    refine digit 4 99 49 c5 (Or.inr rfl) (by decide) (by decide) (by decide) t2 (fun M8 g1 g2 g3 => ?_) (fun g1 g2 c' => Or.inr (Or.inr (Or.inr (Or.inr (Or.inl ⟨c5, rfl, rfl, g1, g2⟩)))))
    rw [if_neg (by decide), if_pos rfl, ← g3]
    exact dn_of5 g1 g2
  rw [if_neg c5] at t2
  by_cases c6 : Nm 2 p = 119
  · rw [if_pos c6] at t2
    obtain ⟨M8, e8, f1, f2, f3, f4, f5, f6⟩ := M8f 5
    obtain ⟨b1, b2⟩ := dn_two (M := M8) f1 f2 hn
    rw [f3] at b2
    have h5 : dp_sz 119 = 5 := by decide
    have hcl : ∀ act, f_X2_wrongInDay_L8 w X (n - p) (p : Int) act 0 (fun z => if z ≤ 0 then -1 else (n : Int)) = f_X2_wrongInDay_L8 w X (n - (p + 1)) ((p + 1 : Nat) : Int) 119 4 (fun z => if z ≤ 0 then -1 else (n : Int)) := by
      intro act
      rw [hb, hsz _ c6, h5, if_pos (by decide), c6]
      rfl
    have dd : ∀ (q : Nat) (l : Int), q ≤ n → 0 < l → f_X2_wrongInDay_L8 w X (n - q) (q : Int) 119 l (fun z => if z ≤ 0 then -1 else (n : Int)) = if q < n ∧ 48 ≤ Nm 2 q ∧ Nm 2 q ≤ 57 then f_X2_wrongInDay_L8 w X (n - (q + 1)) ((q + 1 : Nat) : Int) 119 (l - 1) (fun z => if z ≤ 0 then -1 else (n : Int)) else (q : Int) := fun q l hq hl => by
      rw [dw_d hn hq hl (fun h => hX _ h), if_neg (show ¬ (119 : Int) = 99 by decide)]
    have hra := fun j1 => ra_n (B := f_X3_two M8) hj hac t1 t2 a31 (by decide) (by rw [if_neg (by decide), if_neg (by decide), e8]) b1 j1
    generalize f_X3_two M8 = B at b1 b2 hra
    by_cases d1 : p + 1 < n ∧ 48 ≤ Nm 2 (p + 1) ∧ Nm 2 (p + 1) ≤ 57
    · rw [if_pos d1] at b2
      by_cases d2 : p + 1 + 1 < n ∧ 48 ≤ Nm 2 (p + 1 + 1) ∧ Nm 2 (p + 1 + 1) ≤ 57
      · rw [if_pos d2] at b2
        rw [b2] at hra
        generalize hv : 10 * (Nm 2 (p + 1) - 48) + (Nm 2 (p + 1 + 1) - 48) = v at hra
        have h9 : ∃ M9, M9 = ax_up (ax_up M8 0 5 ((p + 1 + 1 : Nat) : Int)) 0 5 ((p + 1 + 1 + 1 : Nat) : Int) ∧ M9 0 5 = ((p + 3 : Nat) : Int) ∧ M9 0 6 = (n : Int) ∧ M9 2 = Nm 2 ∧ M9 14 j = 5 ∧ M9 0 31 = ((j + 1 : Nat) : Int) ∧ dz j Nm M9 :=
          ⟨_, rfl, by rw [fo_up_at, fo_u_s], by rw [fo_up_at, fo_u_o (by decide), fo_up_at, fo_u_o (by decide), f2], by rw [ax_up_ne (by decide), ax_up_ne (by decide), f3], by rw [ax_up_ne (by decide), ax_up_ne (by decide), f4], by rw [fo_up_at, fo_u_o (by decide), fo_up_at, fo_u_o (by decide), f5], (f6.u0 (Or.inl rfl)).u0 (Or.inl rfl)⟩
        obtain ⟨M9, e9, g1, g2, g3, g4, g5, g6⟩ := h9
        rw [← e9] at hra
        obtain ⟨s1, s2⟩ := dn_two (M := ax_up M9 15 j v) (p := p + 3) (n := n) (by rw [ax_up_ne (by decide)]; exact g1) (by rw [ax_up_ne (by decide)]; exact g2) hn
        rw [show ax_up M9 15 j v 2 = Nm 2 by rw [ax_up_ne (by decide), g3]] at s2
        obtain ⟨j1, j2⟩ := dj_5 (M := M9) (s0 := v) hj (by omega) g4 s1
        obtain ⟨r1, r2⟩ := hra j1
        have r3 := r2.trans j2
        have hcl2 : ∀ act, f_X2_wrongInDay_L8 w X (n - p) (p : Int) act 0 (fun z => if z ≤ 0 then -1 else (n : Int)) = f_X2_wrongInDay_L8 w X (n - (p + 3)) ((p + 3 : Nat) : Int) 119 2 (fun z => if z ≤ 0 then -1 else (n : Int)) := by
          intro act
          rw [hcl, dd (p + 1) 4 (by omega) (by decide), if_pos d1, dd (p + 1 + 1) (4 - 1) (by omega) (by decide), if_pos d2]
          rfl
        have k18 : dz j Nm (ax_up M9 15 j v) := g6.uj (Or.inr (Or.inl rfl))
        generalize f_X3_two (ax_up M9 15 j v) = T at s1 s2 r3
        by_cases d3 : p + 3 < n ∧ 48 ≤ Nm 2 (p + 3) ∧ Nm 2 (p + 3) ≤ 57
        · rw [if_pos d3] at s2
          by_cases d4 : p + 3 + 1 < n ∧ 48 ≤ Nm 2 (p + 3 + 1) ∧ Nm 2 (p + 3 + 1) ≤ 57
          · rw [if_pos d4] at s2
            rw [s2] at r3
            dsimp only at r3
            rw [if_neg (by omega)] at r3
            refine dr_mk r1 r3 (((k18.u0 (Or.inl rfl)).u0 (Or.inl rfl)).uj (Or.inr (Or.inr rfl))) (by rw [ax_up_ne (by decide), fo_up_at, fo_u_o (by decide), fo_up_at, fo_u_o (by decide), ax_up_ne (by decide), g5]) (Or.inl ⟨by decide, ?_, ?_, ?_, fun act => ?_⟩)
            · refine Or.inr (Or.inr (Or.inr (Or.inr (Or.inr ⟨c6, ?_, ?_, ?_, d1.2, d2.2, d3.2, d4.2⟩))))
              · rw [ax_up_ne (by decide), ax_up_ne (by decide), ax_up_ne (by decide), ax_up_ne (by decide), g4]
              · rw [ax_up_ne (by decide), ax_up_ne (by decide), ax_up_ne (by decide), fo_up_at, fo_u_s, ← hv]
              · rw [fo_up_at, fo_u_s]
            · rw [hsz _ c6, h5, ax_up_ne (by decide), fo_up_at, fo_u_s]
            · rw [hsz _ c6, h5]; omega
            · rw [hcl2, dd (p + 3) 2 (by omega) (by decide), if_pos d3, dd (p + 3 + 1) (2 - 1) (by omega) (by decide), if_pos d4, hsz _ c6, h5, c6]
              rfl
          · rw [if_neg d4] at s2
            rw [s2] at r3
            dsimp only at r3
            rw [if_pos (by decide)] at r3
            refine dr_mk r1 r3 ((k18.u0 (Or.inl rfl)).uj (Or.inr (Or.inr rfl))) (by rw [ax_up_ne (by decide), fo_up_at, fo_u_o (by decide), ax_up_ne (by decide), g5]) (Or.inr ⟨rfl, ?_, fun act => ?_⟩)
            · rw [ax_up_ne (by decide), fo_up_at, fo_u_s]; omega
            · rw [hcl2, dd (p + 3) 2 (by omega) (by decide), if_pos d3, dd (p + 3 + 1) (2 - 1) (by omega) (by decide), if_neg d4, ax_up_ne (by decide), fo_up_at, fo_u_s]
        · rw [if_neg d3] at s2
          rw [s2] at r3
          dsimp only at r3
          rw [if_pos (by decide)] at r3
          refine dr_mk r1 r3 (k18.uj (Or.inr (Or.inr rfl))) (by rw [ax_up_ne (by decide), ax_up_ne (by decide), g5]) (Or.inr ⟨rfl, ?_, fun act => ?_⟩)
          · rw [ax_up_ne (by decide), ax_up_ne (by decide), g1]; omega
          · rw [hcl2, dd (p + 3) 2 (by omega) (by decide), if_neg d3, ax_up_ne (by decide), ax_up_ne (by decide), g1]
      · rw [if_neg d2] at b2
        rw [b2] at hra
        obtain ⟨j1, j2⟩ := dj_n (M := ax_up M8 0 5 ((p + 1 + 1 : Nat) : Int)) (s0 := -1) hj (by decide)
        obtain ⟨r1, r2⟩ := hra j1
        refine dr_mk r1 (r2.trans j2) ((f6.u0 (Or.inl rfl)).uj (Or.inr (Or.inl rfl))) (by rw [ax_up_ne (by decide), fo_up_at, fo_u_o (by decide), f5]) (Or.inr ⟨rfl, ?_, fun act => ?_⟩)
        · rw [ax_up_ne (by decide), fo_up_at, fo_u_s]; omega
        · rw [hcl, dd (p + 1) 4 (by omega) (by decide), if_pos d1, dd (p + 1 + 1) (4 - 1) (by omega) (by decide), if_neg d2, ax_up_ne (by decide), fo_up_at, fo_u_s]
    · rw [if_neg d1] at b2
      rw [b2] at hra
      obtain ⟨j1, j2⟩ := dj_n (M := M8) (s0 := -1) hj (by decide)
      obtain ⟨r1, r2⟩ := hra j1
      refine dr_mk r1 (r2.trans j2) (f6.uj (Or.inr (Or.inl rfl))) (by rw [ax_up_ne (by decide), f5]) (Or.inr ⟨rfl, ?_, fun act => ?_⟩)
      · rw [ax_up_ne (by decide), f1]; omega
      · rw [hcl, dd (p + 1) 4 (by omega) (by decide), if_neg d1, ax_up_ne (by decide), f1]
  rw [if_neg c6] at t2
  obtain ⟨r1, r2⟩ := ra_0 hj hac t1 t2 hac (by decide)
  rw [if_pos (by decide)] at r2
  have hz : dp_sz (Nm 2 p) = 0 := by
    unfold dp_sz
    rw [if_neg c5, if_neg c3, if_neg c2, if_neg c4, if_neg c1, if_neg c6]
  refine dr_mk r1 r2 ((dz.rf.uj (Or.inl rfl)).u0 (Or.inr rfl)) (by rw [fo_up_at, fo_u_s]; omega) (Or.inr ⟨rfl, ?_, fun act => ?_⟩)
  · rw [fo_up_at, fo_u_o (by decide), ax_up_ne (by decide), hat]; omega
  · rw [hb, hz, if_neg (by decide), fo_up_at, fo_u_o (by decide), ax_up_ne (by decide), hat]
end DYQ
