/-! ===== the law: a case of its switch ===== -/
theorem ax_r32_toInt (x : Int32) : ax_r32 x.toInt := ⟨Int32.le_toInt x, by have := Int32.toInt_lt x; omega⟩
/-- decoded: x.f(..), m.f(..), both compared -/
def lw_dc (pc iC iM n : Nat) (js : List Nat) : Bool :=
  decide (js.length = n) && decide (decode code pc = .ok (.aload_n 1, 1)) && lw_dj (pc + 1) js && decide (decode code (pc + 1 + 6 * n) = .ok (.invokevirtual iC, 3)) &&
  decide (decode code (pc + 4 + 6 * n) = .ok (.aload_n 2, 1)) && lw_dj (pc + 5 + 6 * n) js && decide (decode code (pc + 5 + 12 * n) = .ok (.invokevirtual iM, 3)) &&
  decide (decode code (pc + 8 + 12 * n) = .ok (.if_icmp .eq (1309 - ((pc + 8 + 12 * n : Nat) : Int)), 3)) && js.all (fun j => decide (j ≤ 4))
section LWC
variable {p : Program} {l : Launch} {e : Env} {s : State} {m : MethodId} {below : List Frame} {meth : Method} {c : Code} {b L : Nat} {xs : Nat → Int32} {H : Heap} {locs : List Loc} {cells slots : Nat} {Q : State → Prop} {ls : Array Slot} {rest : List Value}
variable {qo : Nat} {cls : Nat → ClassId} {D : va_G} {ad u v : Nat → Nat} {Mc Mm : ax_M} {g : Nat → Int64}
theorem lw_fix (C0 : lw_At p s m meth c b L xs) : CallFix p m c code 8 s #[Value.ref b] (lw_c0 :: ax_T) R_law := by
  obtain ⟨hx, hb, _, hml, hown, hts, _⟩ := C0
  refine ⟨hx, hb, hml, hown, fun w hw => ?_⟩
  rcases List.mem_cons.mp hw with h | h
  · subst h; exact hts _ (by decide +kernel)
  · exact hts w (List.mem_filter.mp h).1
theorem lw_vals {X : ax_X} {i : Nat} (js : List Nat) : js.map (fun j => Value.int (xs (i + j))) = ((js.map (fun j => (xs (i + j)).toInt)).map (fun x => ((0, 0, x) : ax_V))).map (ax_vl X) := by
  induction js with
  | nil => rfl
  | cons j js ih =>
    rw [List.map_cons, List.map_cons, List.map_cons, List.map_cons, ← ih]
    show Value.int (xs (i + j)) :: _ = Value.int (Int32.ofInt (xs (i + j)).toInt) :: _
    rw [lw_i0]
theorem lw_oks {La : ax_L} {i : Nat} (js : List Nat) : ∀ w ∈ (js.map (fun j => (xs (i + j)).toInt)).map (fun x => ((0, 0, x) : ax_V)), ax_ok La w := by
  intro w hw
  obtain ⟨x, hx, rfl⟩ := List.mem_map.mp hw
  obtain ⟨j, _, rfl⟩ := List.mem_map.mp hx
  exact ax_r32_toInt _
theorem lw_case (C0 : lw_At p s m meth c b L xs) (hL : L ≤ 2560) {i : Nat} (hi : i + 5 ≤ L) (hl : lv_has ls 8 [(4, .int (Int32.ofNat i)), (0, .ref b), (1, .ref (u 0)), (2, .ref (v 0)), (3, .ref qo)]) (hS : va_S (fun q => s.heap.size ≤ q) s.heap H locs) (hJ : lw_J s.heap.size cls D ad u v qo Mc Mm g s H) (hc : cells ≤ 601024 ∧ slots ≤ 7293034)
    {C C1 : Int} {pc iC iM n : Nat} {js : List Nat} {G1 G2 : ax_G} (hd : lw_dc pc iC iM n js = true) (w1 : Cond.methodLink R_law iC G1.1 ∈ ax_T) (w2 : Cond.instanceMethod G1.1 ∈ ax_T) (w3 : Cond.selects RX2 G1.1 G1.1 ∈ ax_T) (y1 : Cond.methodLink R_law iM G2.1 ∈ ax_T) (y2 : Cond.instanceMethod G2.1 ∈ ax_T) (y3 : Cond.selects RX3 G2.1 G2.1 ∈ ax_T)
    (hok : lw_ok n C C1 G1 G2 (js.map (fun j => (xs (i + j)).toInt))) (hG : pr_G C Mc Mm)
    (kk : ∀ (Nc Nm : ax_M) (H1 : Heap) (locs1 : List Loc), pr_G C1 Nc Nm → lw_J s.heap.size cls D ad u v qo Nc Nm g s H1 → va_S (fun q => s.heap.size ≤ q) s.heap H1 locs1 → W p l e room_1 s m #[Value.ref b] below meth c H1 locs1 cells slots Q (F0 m 1309 ls [])) :
    W p l e room_1 s m #[Value.ref b] below meth c H locs cells slots Q (F0 m pc ls []) := by
  have hfix := lw_fix C0
  have hx := C0.1
  have hb := C0.2.1
  unfold lw_dc at hd
  simp only [Bool.and_eq_true, decide_eq_true_eq] at hd
  obtain ⟨⟨⟨⟨⟨⟨⟨⟨d0, d1⟩, d2⟩, d3⟩, d4⟩, d5⟩, d6⟩, d7⟩, d8⟩ := hd
  have hjs : ∀ j ∈ js, j ≤ 4 := fun j hj => by have := List.all_eq_true.mp d8 j hj; simpa using this
  obtain ⟨o1, o2, o3, o4⟩ := hok
  obtain ⟨w, Nc, Nm, e1, e2, Q1, Q2, k1, k2, m1, m2, q1, q2, hG1⟩ := o4 Mc Mm hJ.1.2.2.2 hJ.2.1.2.2.2 hG
  refine lv_aload_n hx hb d1 rfl (lv_at hl 2 rfl) ?_
  refine lw_load C0 hL hi hl hS js (pc + 1) [.ref (u 0)] hjs d2 ?_
  rw [d0, lw_vals (X := (u, cls, D)) js]
  refine mx_callV (L := ax_LC) (X := (u, cls, D)) (rest := []) (c0 := lw_c0) rfl hfix d3 ax_cls2 o1 (by show e1 + 1 ≤ 2048; omega) (by show 64 + 64 * e1 ≤ 84000; omega) (by rw [List.length_map]; exact o3) w1 w2 w3 (by decide) m1 rfl (lw_oks js) hJ.1 hJ.2.2.2.1 (fun q h => (hJ.2.2.2.2.1 q h).1) hJ.2.2.2.2.2.2.2.1 hS (fun q h => (hJ.2.2.2.2.1 q h).1) hl.1 hc (fun r M1 H1 locs1 hq _ hR1 _ hk1 hS1 => ?_)
  obtain ⟨rfl, rfl⟩ := q1 r M1 hq
  have hJ1 := hJ.c hR1 hk1
  have ep : pc + 1 + 6 * n + 3 = pc + 4 + 6 * n := by omega
  rw [ep]
  refine lv_aload_n hx hb d4 rfl (lv_at hl 3 rfl) ?_
  have ep2 : pc + 4 + 6 * n + 1 = pc + 5 + 6 * n := by omega
  rw [ep2]
  refine lw_load C0 hL hi hl hS1 js (pc + 5 + 6 * n) _ hjs d5 ?_
  have ep3 : pc + 5 + 6 * n + 6 * js.length = pc + 5 + 12 * n := by omega
  rw [ep3, lw_vals (X := (v, cls, D)) js]
  refine mx_callV (L := ax_LM) (X := (v, cls, D)) (c0 := lw_c0) rfl hfix d6 ax_cls3 o2 (by show e2 + 1 ≤ 2048; omega) (by show 64 + 64 * e2 ≤ 84000; omega) (by rw [List.length_map]; exact o3) y1 y2 y3 (show (1 : Nat) ≤ 8 by decide) m2 rfl (lw_oks js) hJ1.2.1 hJ1.2.2.2.1 (fun q h => (hJ1.2.2.2.2.2.1 q h).1) hJ1.2.2.2.2.2.2.2.2 hS1 (fun q h => (hJ1.2.2.2.2.2.1 q h).1) hl.1 hc (fun r M1 H2 locs2 hq _ hR2 _ hk2 hS2 => ?_)
  obtain ⟨rfl, rfl⟩ := q2 r M1 hq
  have hJ2 := hJ1.m hR2 hk2
  have ep4 : pc + 5 + 12 * n + 3 = pc + 8 + 12 * n := by omega
  rw [ep4]
  exact lv_icmp_eq hx hb d7 (by omega) (fun _ => kk _ _ _ _ hG1 hJ2 hS2) (fun h => absurd rfl h)
end LWC
