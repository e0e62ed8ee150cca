/-! ===== a day, side by side ===== -/
section DYZ
variable {C D : Int} {Mc Mm X Y : ax_M} {r q : fo_R}
theorem dy_end {i m : Nat} (hd : pr_D D r q X Y) (hm : Y 0 31 = (m : Int)) (h26 : Y 0 26 = r 265) (h27 : Y 0 27 = r 266) (him : i ≤ m) : pq D (f_X2_day_J88 (i : Int) (if i < m then 1 else 0) X) (f_X3_day_J78 (i : Int) Y) := by
  have e31 : ax_up Y 0 1 0 0 31 = (m : Int) := by rw [fo_up_at, fo_u_o (by decide), hm]
  have hJ : f_X3_day_J78 (i : Int) Y = ax_rc (f_X3_enters (if i < m then 1 else 0) (ax_up Y 0 1 0)) (fun M25 => ax_rc (f_X3_entersMore 7 M25) (fun M26 => (if (i : Int) ≤ 0 then (True, (0, M26)) else ax_rc (f_X3_adds (i : Int) M26) (fun y28 => (True, (y28.1, y28.2)))))) := by
    unfold f_X3_day_J78
    simp only [ax_bd]
    rw [e31]
    by_cases h : i < m
    · rw [if_neg (by omega), if_pos h]; rfl
    · rw [if_pos (by omega), if_neg h]; rfl
  rw [hJ]
  generalize (if i < m then (1 : Int) else 0) = x
  unfold f_X2_day_J88
  simp only [ax_bd]
  by_cases h0 : i = 0
  · subst h0
    rw [if_pos (show ((0 : Nat) : Int) ≤ 0 by decide)]
    have s0 := ps_anew hd.1.1
    obtain ⟨q1, s1⟩ := ps_tell (x := x) s0 (by decide)
    have o1 := fun t (h1 : t ≠ 0) (h2 : t ≠ 35) => (tell_o (M := f_X2_tellAnew X) (x := x) h1 h2).trans (show f_X2_tellAnew X t = X t from ax_up_ne h1)
    have o2 := fun f (h1 : f ≠ 1) => (enters_0 (M := ax_up Y 0 1 0) (x := x) h1).trans (show ax_up Y 0 1 0 0 f = Y 0 f by rw [fo_up_at, fo_u_o h1])
    unfold ax_rc
    dsimp only
    rw [if_pos (show ((0 : Nat) : Int) ≤ 0 by decide)]
    generalize f_X2_tell x (f_X2_tellAnew X) = Z at s1 o1 ⊢
    generalize f_X3_enters x (ax_up Y 0 1 0) = W at q1 s1 o2 ⊢
    obtain ⟨m1, m2, m3, m4, _⟩ := pd_more (q := q) (r := r) (n := 1) s1.2.1 (by decide) (s1.c.trans hd.2.1) (fun k k1 k2 => by rw [o1 11 (by decide) (by decide)]; exact hd.2.2.2.2.1 k k1 k2) (s1.2.2.trans hd.2.1) (by rw [o2 26 (by decide)]; exact h26) (by rw [o2 27 (by decide)]; exact h27)
    exact ⟨trivial, ⟨q1, m1, trivial⟩, rfl, pr_U_q m3 m4 s1.1, m2.1⟩
  · rw [if_neg (show ¬ (i : Int) ≤ 0 by omega)]
    unfold ax_rc
    dsimp only
    rw [if_neg (show ¬ (i : Int) ≤ 0 by omega)]
    have hT : pr_Tn 0 (f_X2_tellAnew (f_X2_keepPast X)) (ax_up Y 0 1 0) := tn_anew
    have c0 : cQ (f_X2_keepPast X) (f_X2_tellAnew (f_X2_keepPast X)) := cq_anew
    have o0 : ∀ t, t ≠ 0 → f_X2_tellAnew (f_X2_keepPast X) t = X t := fun t ht => by
      have : f_X2_tellAnew (f_X2_keepPast X) t = f_X2_keepPast X t := ax_up_ne ht
      rw [this, keepPast_o ht]
    obtain ⟨t1, t2⟩ := tn_tell (x := x) hT (by decide)
    have q1 := cq_tell (x := x) (Mc := f_X2_tellAnew (f_X2_keepPast X))
    have q2 := mq_enters (x := x) (Mm := ax_up Y 0 1 0)
    have o1 : ∀ t, t ≠ 0 → t ≠ 35 → f_X2_tell x (f_X2_tellAnew (f_X2_keepPast X)) t = X t := fun t t1 t2 => by rw [tell_o t1 t2, o0 t t1]
    have o2 : ∀ t, t ≠ 0 → t ≠ 1 → (f_X3_enters x (ax_up Y 0 1 0)).2 t = Y t := fun t t1 t2 => by rw [enters_o t1 t2, ax_up_ne t1]
    have o3 : ∀ f, f ≠ 1 → (f_X3_enters x (ax_up Y 0 1 0)).2 0 f = Y 0 f := fun f f1 => by rw [enters_0 f1, fo_up_at, fo_u_o f1]
    generalize f_X2_tell x (f_X2_tellAnew (f_X2_keepPast X)) = Z1 at t2 q1 o1 ⊢
    generalize f_X3_enters x (ax_up Y 0 1 0) = W1 at t1 t2 q2 o2 o3 ⊢
    obtain ⟨s1, s2, s3, s4, s5⟩ := pd_more (q := q) (r := r) (n := 1) t2 (by decide) (by rw [← hd.2.1, ← hd.1.1.1.1]; exact fo_cr_same (fun k k1 k2 => o1 _ (by omega) (by omega))) (fun k k1 k2 => by rw [o1 11 (by decide) (by decide)]; exact hd.2.2.2.2.1 k k1 k2) (by rw [o2 7 (by decide) (by decide)]; exact hd.2.1) (by rw [o3 26 (by decide)]; exact h26) (by rw [o3 27 (by decide)]; exact h27)
    obtain ⟨a1, a2, a3⟩ := pd_fin hd ((c0.tr q1).tr s3) (((mQ_0 (by decide)).tr q2).tr s4) (by rw [s5, o2 13 (by decide) (by decide)]) s2 (i : Int)
    exact ⟨trivial, ⟨t1, s1, a1, trivial⟩, a2.symm, a3⟩
theorem marks_o {M : ax_M} {s : Nat} (hs : s ≠ 0) : f_X3_marks 7 M s = M s := by
  unfold f_X3_marks
  simp only [ax_bd]
  rw [ax_up_ne hs, ax_up_ne hs]
theorem up_id {M : ax_M} {s i : Nat} {v : Int} (h : M s i = v) : ax_up M s i v = M := by
  funext s' i'
  unfold ax_up
  split
  · rename_i e
    rw [e.1, e.2, h]
  · rfl
theorem pq_day (hC : C + 80 ≤ 900000) (h11 : ax_r32 (Mc 1 11)) (h20 : 0 ≤ Mm 0 20 ∧ Mm 0 20 ≤ 400) (h : pr_G C Mc Mm) : pq (C + 80) (f_X2_day Mc) (f_X3_day Mm) := by
  obtain ⟨x1, x2, x3, x4⟩ := h.1.2.2.2.2.1
  obtain ⟨n, en⟩ : ∃ n : Nat, Mm 0 4 = (n : Int) := ⟨(Mm 0 4).toNat, by omega⟩
  have hn : n ≤ 80 := by omega
  unfold f_X2_day f_X3_day f_X3_begins
  simp only [ax_bd]
  have e4 : ax_up Mm 0 0 0 0 4 = (n : Int) := by rw [fo_up_at, fo_u_o (by decide), en]
  rw [e4, x1, en, if_neg (show ¬ (80 : Int) < (n : Int) by omega)]
  have hN : ∃ N0, N0 = ax_up (ax_up (ax_up (ax_up (ax_up (ax_up Mm 0 0 0) 0 4 0) 0 5 0) 0 7 0) 0 6 (n : Int)) 0 31 0 ∧ (∀ s, s ≠ 0 → N0 s = Mm s) ∧ (∀ f, f ≠ 0 → f ≠ 4 → f ≠ 5 → f ≠ 6 → f ≠ 7 → f ≠ 31 → N0 0 f = Mm 0 f) ∧ N0 0 0 = 0 ∧ N0 0 4 = 0 ∧ N0 0 5 = 0 ∧ N0 0 6 = (n : Int) ∧ N0 0 31 = 0 := by
    refine ⟨_, rfl, fun s hs => by rw [ax_up_ne hs, ax_up_ne hs, ax_up_ne hs, ax_up_ne hs, ax_up_ne hs, ax_up_ne hs], fun f f0 f4 f5 f6 f7 f31 => by rw [fo_up_at, fo_u_o f31, fo_up_at, fo_u_o f6, fo_up_at, fo_u_o f7, fo_up_at, fo_u_o f5, fo_up_at, fo_u_o f4, fo_up_at, fo_u_o f0], ?_, ?_, ?_, ?_, ?_⟩
    · rw [fo_up_at, fo_u_o (by decide), fo_up_at, fo_u_o (by decide), fo_up_at, fo_u_o (by decide), fo_up_at, fo_u_o (by decide), fo_up_at, fo_u_o (by decide), fo_up_at, fo_u_s]
    · rw [fo_up_at, fo_u_o (by decide), fo_up_at, fo_u_o (by decide), fo_up_at, fo_u_o (by decide), fo_up_at, fo_u_o (by decide), fo_up_at, fo_u_s]
    · rw [fo_up_at, fo_u_o (by decide), fo_up_at, fo_u_o (by decide), fo_up_at, fo_u_o (by decide), fo_up_at, fo_u_s]
    · rw [fo_up_at, fo_u_o (by decide), fo_up_at, fo_u_s]
    · rw [fo_up_at, fo_u_s]
  obtain ⟨N0, eN, ns, n0, n00, n04, n05, n06, n31⟩ := hN
  rw [← eN]
  have c34 : ∀ i, i < n → ax_up Mc 0 10 0 34 i = N0 2 i := fun i hi => by rw [ax_up_ne (by decide), ns 2 (by decide)]; exact (x4 i (by omega)).1
  have hI0 : dl_I N0 n 0 N0 := ⟨n05, n06, n31, Nat.zero_le _, Nat.le_refl _, fun _ _ _ _ _ => rfl, fun _ _ _ => rfl, fun i hi => by omega⟩
  have hG : ∀ M', (∀ s, s ≠ 0 → s ≠ 14 → s ≠ 15 → s ≠ 16 → M' s = N0 s) → (∀ f, f ≠ 5 → f ≠ 31 → M' 0 f = N0 0 f) → pr_G C (ax_up Mc 0 10 0) M' := fun M' ms m0 =>
    pr_G_x0 h (fun s a b c d => by rw [ms s a b c d, ns s a]) (fun f a b c d e g => by rw [m0 f c g, n0 f a b c d e g]) (by rw [m0 4 (by decide) (by decide), n04])
  have hw : f_X2_wrongInDay (n : Int) (ax_up Mc 0 10 0) = f_X2_wrongInDay_L8 (n : Int) (ax_up Mc 0 10 0) (n - dp_pos (N0 2) 0) (dp_pos (N0 2) 0 : Int) 113 0 (fun z => if z ≤ 0 then -1 else (n : Int)) := by
    unfold f_X2_wrongInDay
    rw [show ((n : Int) - 0).toNat = n - dp_pos (N0 2) 0 by show ((n : Int) - 0).toNat = n - 0; omega]
    rfl
  rw [hw]
  have k31 := h.1.1.2.2.1
  generalize hO : ax_up Mc 0 10 0 = O at c34 hG
  rcases dl_read (w := (n : Int)) (X := O) (N := N0) hn c34 (fun M10 => ax_rc (f_X3_putsBy M10) (fun M11 => f_X3_day_L56 100 0 (f_X3_marks 7 M11) (fun z19 M20 => f_X3_day_J78 z19 M20))) 100 0 N0 (by show n - 0 < 100; omega) hI0 with ⟨b1, m, Z, b2, b3, b4, b5⟩ | ⟨v, M', b1, b2, b3, b4, b5, b6⟩
  · rw [b1, if_pos rfl]
    obtain ⟨z1, z2, z3, z4, z5, z6, z7, z8⟩ := b2
    have hm80 : m ≤ 80 := by omega
    have hGZ := hG Z z6 z7
    have eZ : ax_up Z 0 0 0 = Z := up_id (by rw [z7 0 (by decide) (by decide), n00])
    obtain ⟨p1, d, fr, p0⟩ := pd_begin hGZ
    rw [eZ] at p1 d p0
    obtain ⟨u, hu, eu⟩ := hGZ.1.2.1.u
    obtain ⟨_, pz, _, _⟩ := fm_putsBy (M := Z) hu eu (pr_7hi hGZ.1.1)
    obtain ⟨dm, m26, m27, m0⟩ := pd_marks d
    have mk := fun s (hs : s ≠ 0) => marks_o (M := (f_X3_putsBy Z).2) hs
    have hX11 : ax_r32 (f_X2_begin O 1 11) := by rw [fr 1 (by decide) (by decide), ← hO, ax_up_ne (by decide)]; exact h11
    have hY20 : 0 ≤ f_X3_marks 7 (f_X3_putsBy Z).2 0 20 ∧ f_X3_marks 7 (f_X3_putsBy Z).2 0 20 ≤ 400 := by rw [m0 20 (by decide) (by decide), p0 20 (by decide), z7 20 (by decide) (by decide), n0 20 (by decide) (by decide) (by decide) (by decide) (by decide) (by decide)]; exact h20
    have hY31 : f_X3_marks 7 (f_X3_putsBy Z).2 0 31 = (m : Int) := by rw [m0 31 (by decide) (by decide), p0 31 (by decide), z3]
    have y14 : ∀ s, s ≠ 0 → s ≠ 13 → f_X3_marks 7 (f_X3_putsBy Z).2 s = Z s := fun s a b => by rw [mk s a, pz s b]
    have hX34 : ∀ i, i < n → f_X2_begin O 34 i = N0 2 i := fun i hi => by rw [fr 34 (by decide) (by decide)]; exact c34 i hi
    unfold ax_rc at b4 b5
    dsimp only at b4 b5
    generalize f_X2_begin O = X0 at dm hX11 hX34 ⊢
    generalize f_X3_marks 7 (f_X3_putsBy Z).2 = Y0 at dm m26 m27 hY20 hY31 y14 b4 b5
    obtain ⟨i', X', Y', c1, ⟨⟨q', c2⟩, _⟩, c3, c4, c5, c6, c7, c8, c9⟩ := dl_acts (r := Z 7) (T := N0 2) (n := n) (m := m) (A14 := Z 14) (A15 := Z 15) (A16 := Z 16) C hC hn hm80 b3 z8 (fun z16 z17 M18 => f_X2_day_J88 z16 z17 M18) (fun z19 M20 => f_X3_day_J78 z19 M20) 99 0 X0 Y0 (by omega) (Nat.zero_le _) ⟨⟨_, dm.mono (by omega)⟩, hX11, hY20⟩ hX34 (y14 14 (by decide) (by decide)) (y14 15 (by decide) (by decide)) (y14 16 (by decide) (by decide)) hY31 m26 m27
    have hend := dy_end (c2.mono (D := C + 80) (by omega)) c3 c4 c5 c1
    obtain ⟨e1, e2, e3, e4⟩ := hend
    refine ⟨c6 e1, b4 ⟨p1, c8 e2⟩, ?_, ?_⟩
    · exact (congrArg Prod.fst c7).trans (e3.trans ((congrArg Prod.fst c9).symm.trans (congrArg Prod.fst b5).symm))
    · have f1 : (f_X2_day_L37 (n : Int) (99 + 1) ((0 : Nat) : Int) 0 (dp_pos (N0 2) 0 : Int) X0 (fun z16 z17 M18 => f_X2_day_J88 z16 z17 M18)).2.2 = _ := congrArg Prod.snd c7
      have f2 := (congrArg Prod.snd b5).trans (congrArg Prod.snd c9)
      show pr_G (C + 80) (f_X2_day_L37 (n : Int) (99 + 1) ((0 : Nat) : Int) 0 (dp_pos (N0 2) 0 : Int) X0 (fun z16 z17 M18 => f_X2_day_J88 z16 z17 M18)).2.2 _
      rw [f1]
      have g : ∀ W, W = (f_X3_day_J78 (i' : Int) Y').2.2 → pr_G (C + 80) (f_X2_day_J88 (i' : Int) (if i' < m then 1 else 0) X').2.2 W := fun W h => by rw [h]; exact e4
      exact g _ f2
  · rw [b2, if_neg (by omega)]
    exact ⟨trivial, b3, by rw [b4], by rw [b4]; exact ⟨(hG M' b5 b6).1.mono (by omega), (hG M' b5 b6).2⟩⟩
end DYZ
