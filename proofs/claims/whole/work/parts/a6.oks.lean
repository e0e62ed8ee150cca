/-! ===== the public methods of both, told by answers ===== -/
theorem lo_11 {M : ax_M} (h : ax_can ax_LC M) : ax_r32 (M 1 11) := (h 1 (2, 0) rfl 11 (0, 0, 0) rfl).1
theorem lo_11b {M : ax_M} (h : ax_can ax_LC M) : ax_r32 (M 13 11) := (h 13 (2, 0) rfl 11 (0, 0, 0) rfl).1
theorem lo_20 {M : ax_M} (h : ax_can ax_LM M) : 0 ≤ M 0 20 ∧ M 0 20 ≤ 400 := by
  have h1 := (h 0 (2, 3) rfl 20 (0, 401, 0) rfl).2 (by decide)
  have h2 : M 0 20 < ((401 : Nat) : Int) := h1.2
  exact ⟨h1.1, by omega⟩
theorem ok_sign {C : Int} (hC : C + 80 ≤ 900000) {x1 : Int} : lw_ok 1 C (C + 80) gX2_sign gX3_sign [x1] := ⟨calX2_sign, calX3_sign, rfl, fun Mc Mm hc hm hG => by
  obtain ⟨p1, p2, p3, p4⟩ := pq_sign (x := x1)  hG
  exact ⟨_, _, _, _, _, _, _, Nat.le_of_ble_eq_true rfl, Nat.le_of_ble_eq_true rfl, c_X2_sign 700 x1 Mc p1, c_X3_sign 700 x1 Mm p2, fun r M1 h => ⟨h.1, h.2.1⟩, fun r M1 h => ⟨h.1.trans (congrArg (fun z : Int => some ((0, 0, z) : ax_V)) p3.symm), h.2.1⟩, p4.mono (by omega)⟩⟩
theorem ok_end {C : Int} (hC : C + 80 ≤ 900000) {x1 : Int} : lw_ok 1 C (C + 80) gX2_end gX3_end [x1] := ⟨calX2_end, calX3_end, rfl, fun Mc Mm hc hm hG => by
  obtain ⟨p1, p2, p3, p4⟩ := pq_end (x := x1)  hG
  exact ⟨_, _, _, _, _, _, _, Nat.le_of_ble_eq_true rfl, Nat.le_of_ble_eq_true rfl, c_X2_end 700 x1 Mc, c_X3_end 700 x1 Mm, fun r M1 h => ⟨h.1, h.2.1⟩, fun r M1 h => ⟨h.1.trans (congrArg (fun z : Int => some ((0, 0, z) : ax_V)) p3.symm), h.2.1⟩, p4.mono (by omega)⟩⟩
theorem ok_rule {C : Int} (hC : C + 80 ≤ 900000) : lw_ok 0 C (C + 80) gX2_rule gX3_rule [] := ⟨calX2_rule, calX3_rule, rfl, fun Mc Mm hc hm hG => by
  obtain ⟨p1, p2, p3, p4⟩ := pq_rule  (by omega) hG
  exact ⟨_, _, _, _, _, _, _, Nat.le_of_ble_eq_true rfl, Nat.le_of_ble_eq_true rfl, c_X2_rule 700  Mc p1, c_X3_rule 700  Mm p2, fun r M1 h => ⟨h.1, h.2.1⟩, fun r M1 h => ⟨h.1.trans (congrArg (fun z : Int => some ((0, 0, z) : ax_V)) p3.symm), h.2.1⟩, p4.mono (by omega)⟩⟩
theorem ok_sheet {C : Int} (hC : C + 80 ≤ 900000) {x1 x2 x3 x4 : Int} (hf : ax_r32 x3) : lw_ok 4 C (C + 80) gX2_sheet gX3_sheet [x1, x2, x3, x4] := ⟨calX2_sheet, calX3_sheet, rfl, fun Mc Mm hc hm hG => by
  obtain ⟨p1, p2, p3, p4⟩ := pq_sheet (k := x1) (n := x2) (f := x3) (s := x4) hf hG
  exact ⟨_, _, _, _, _, _, _, Nat.le_of_ble_eq_true rfl, Nat.le_of_ble_eq_true rfl, c_X2_sheet 700 x1 x2 x3 x4 Mc, c_X3_sheet 700 x1 x2 x3 x4 Mm, fun r M1 h => ⟨h.1, h.2.1⟩, fun r M1 h => ⟨h.1.trans (congrArg (fun z : Int => some ((0, 0, z) : ax_V)) p3.symm), h.2.1⟩, p4.mono (by omega)⟩⟩
theorem ok_writes {C : Int} (hC : C + 80 ≤ 900000) {x1 x2 : Int} : lw_ok 2 C (C + 80) gX2_writes gX3_writes [x1, x2] := ⟨calX2_writes, calX3_writes, rfl, fun Mc Mm hc hm hG => by
  obtain ⟨p1, p2, p3, p4⟩ := pq_writes (x := x1) (v := x2) (by omega) hG
  exact ⟨_, _, _, _, _, _, _, Nat.le_of_ble_eq_true rfl, Nat.le_of_ble_eq_true rfl, c_X2_writes 700 x1 x2 Mc p1, c_X3_writes 700 x1 x2 Mm p2, fun r M1 h => ⟨h.1, h.2.1⟩, fun r M1 h => ⟨h.1.trans (congrArg (fun z : Int => some ((0, 0, z) : ax_V)) p3.symm), h.2.1⟩, p4.mono (by omega)⟩⟩
theorem ok_reads {C : Int} (hC : C + 80 ≤ 900000) {x1 : Int} : lw_ok 1 C (C + 80) gX2_reads gX3_reads [x1] := ⟨calX2_reads, calX3_reads, rfl, fun Mc Mm hc hm hG => by
  obtain ⟨p1, p2, p3, p4⟩ := pq_reads (x := x1) (by omega) hG
  exact ⟨_, _, _, _, _, _, _, Nat.le_of_ble_eq_true rfl, Nat.le_of_ble_eq_true rfl, c_X2_reads 700 x1 Mc, c_X3_reads 700 x1 Mm p2, fun r M1 h => ⟨h.1, h.2.1⟩, fun r M1 h => ⟨h.1.trans (congrArg (fun z : Int => some ((0, 0, z) : ax_V)) p3.symm), h.2.1⟩, p4.mono (by omega)⟩⟩
theorem ok_merges {C : Int} (hC : C + 80 ≤ 900000) {x1 : Int} : lw_ok 1 C (C + 80) gX2_merges gX3_merges [x1] := ⟨calX2_merges, calX3_merges, rfl, fun Mc Mm hc hm hG => by
  obtain ⟨p1, p2, p3, p4⟩ := pq_merges (x := x1) (by omega) (lo_11 hc) (lo_20 hm) hG
  exact ⟨_, _, _, _, _, _, _, Nat.le_of_ble_eq_true rfl, Nat.le_of_ble_eq_true rfl, c_X2_merges 700 x1 Mc, c_X3_merges 700 x1 Mm p2, fun r M1 h => ⟨h.1, h.2.1⟩, fun r M1 h => ⟨h.1.trans (congrArg (fun z : Int => some ((0, 0, z) : ax_V)) p3.symm), h.2.1⟩, p4.mono (by omega)⟩⟩
theorem ok_seals {C : Int} (hC : C + 80 ≤ 900000) : lw_ok 0 C (C + 80) gX2_seals gX3_seals [] := ⟨calX2_seals, calX3_seals, rfl, fun Mc Mm hc hm hG => by
  obtain ⟨p1, p2, p3, p4⟩ := pq_seals  (by omega) (lo_11 hc) (lo_20 hm) hG
  exact ⟨_, _, _, _, _, _, _, Nat.le_of_ble_eq_true rfl, Nat.le_of_ble_eq_true rfl, c_X2_seals 700  Mc, c_X3_seals 700  Mm p2, fun r M1 h => ⟨h.1, h.2.1⟩, fun r M1 h => ⟨h.1.trans (congrArg (fun z : Int => some ((0, 0, z) : ax_V)) p3.symm), h.2.1⟩, p4.mono (by omega)⟩⟩
theorem ok_clears {C : Int} (hC : C + 80 ≤ 900000) {x1 : Int} : lw_ok 1 C (C + 80) gX2_clears gX3_clears [x1] := ⟨calX2_clears, calX3_clears, rfl, fun Mc Mm hc hm hG => by
  obtain ⟨p1, p2, p3, p4⟩ := pq_clears (x := x1) (by omega) (lo_11 hc) (lo_20 hm) hG
  exact ⟨_, _, _, _, _, _, _, Nat.le_of_ble_eq_true rfl, Nat.le_of_ble_eq_true rfl, c_X2_clears 700 x1 Mc, c_X3_clears 700 x1 Mm p2, fun r M1 h => ⟨h.1, h.2.1⟩, fun r M1 h => ⟨h.1.trans (congrArg (fun z : Int => some ((0, 0, z) : ax_V)) p3.symm), h.2.1⟩, p4.mono (by omega)⟩⟩
theorem ok_levels {C : Int} (hC : C + 80 ≤ 900000) : lw_ok 0 C (C + 80) gX2_levels gX3_levels [] := ⟨calX2_levels, calX3_levels, rfl, fun Mc Mm hc hm hG => by
  obtain ⟨p1, p2, p3, p4⟩ := pq_levels  (by omega) (lo_11 hc) (lo_20 hm) hG
  exact ⟨_, _, _, _, _, _, _, Nat.le_of_ble_eq_true rfl, Nat.le_of_ble_eq_true rfl, c_X2_levels 700  Mc, c_X3_levels 700  Mm p2, fun r M1 h => ⟨h.1, h.2.1⟩, fun r M1 h => ⟨h.1.trans (congrArg (fun z : Int => some ((0, 0, z) : ax_V)) p3.symm), h.2.1⟩, p4.mono (by omega)⟩⟩
theorem ok_cools {C : Int} (hC : C + 80 ≤ 900000) : lw_ok 0 C (C + 80) gX2_cools gX3_cools [] := ⟨calX2_cools, calX3_cools, rfl, fun Mc Mm hc hm hG => by
  obtain ⟨p1, p2, p3, p4⟩ := pq_cools   hG
  exact ⟨_, _, _, _, _, _, _, Nat.le_of_ble_eq_true rfl, Nat.le_of_ble_eq_true rfl, c_X2_cools 700  Mc, c_X3_cools 700  Mm p2, fun r M1 h => ⟨h.1, h.2.1⟩, fun r M1 h => ⟨h.1.trans (congrArg (fun z : Int => some ((0, 0, z) : ax_V)) p3.symm), h.2.1⟩, p4.mono (by omega)⟩⟩
theorem ok_sets {C : Int} (hC : C + 80 ≤ 900000) {x1 x2 : Int} : lw_ok 2 C (C + 80) gX2_sets gX3_sets [x1, x2] := ⟨calX2_sets, calX3_sets, rfl, fun Mc Mm hc hm hG => by
  obtain ⟨p1, p2, p3, p4⟩ := pq_sets (x := x1) (v := x2)  hG
  exact ⟨_, _, _, _, _, _, _, Nat.le_of_ble_eq_true rfl, Nat.le_of_ble_eq_true rfl, c_X2_sets 700 x1 x2 Mc, c_X3_sets 700 x1 x2 Mm p2, fun r M1 h => ⟨h.1, h.2.1⟩, fun r M1 h => ⟨h.1.trans (congrArg (fun z : Int => some ((0, 0, z) : ax_V)) p3.symm), h.2.1⟩, p4.mono (by omega)⟩⟩
theorem ok_day {C : Int} (hC : C + 80 ≤ 900000) : lw_ok 0 C (C + 80) gX2_day gX3_day [] := ⟨calX2_day, calX3_day, rfl, fun Mc Mm hc hm hG => by
  obtain ⟨p1, p2, p3, p4⟩ := pq_day  (by omega) (lo_11 hc) (lo_20 hm) hG
  exact ⟨_, _, _, _, _, _, _, Nat.le_of_ble_eq_true rfl, Nat.le_of_ble_eq_true rfl, c_X2_day 700  Mc p1, c_X3_day 700  Mm p2, fun r M1 h => ⟨h.1, h.2.1⟩, fun r M1 h => ⟨h.1.trans (congrArg (fun z : Int => some ((0, 0, z) : ax_V)) p3.symm), h.2.1⟩, p4.mono (by omega)⟩⟩
theorem ok_undo {C : Int} (hC : C + 80 ≤ 900000) : lw_ok 0 C (C + 80) gX2_undo gX3_undo [] := ⟨calX2_undo, calX3_undo, rfl, fun Mc Mm hc hm hG => by
  obtain ⟨p1, p2, p3, p4⟩ := pq_undo   hG
  exact ⟨_, _, _, _, _, _, _, Nat.le_of_ble_eq_true rfl, Nat.le_of_ble_eq_true rfl, c_X2_undo 700  Mc, c_X3_undo 700  Mm p2, fun r M1 h => ⟨h.1, h.2.1⟩, fun r M1 h => ⟨h.1.trans (congrArg (fun z : Int => some ((0, 0, z) : ax_V)) p3.symm), h.2.1⟩, p4.mono (by omega)⟩⟩
theorem ok_copies {C : Int} (hC : C + 80 ≤ 900000) {x1 : Int} : lw_ok 1 C (C + 80) gX2_copies gX3_copies [x1] := ⟨calX2_copies, calX3_copies, rfl, fun Mc Mm hc hm hG => by
  obtain ⟨p1, p2, p3, p4⟩ := pq_copies (x := x1) (by omega) hG
  exact ⟨_, _, _, _, _, _, _, Nat.le_of_ble_eq_true rfl, Nat.le_of_ble_eq_true rfl, c_X2_copies 700 x1 Mc, c_X3_copies 700 x1 Mm p2, fun r M1 h => ⟨h.1, h.2.1⟩, fun r M1 h => ⟨h.1.trans (congrArg (fun z : Int => some ((0, 0, z) : ax_V)) p3.symm), h.2.1⟩, p4.mono (by omega)⟩⟩
theorem ok_stale {C : Int} (hC : C + 80 ≤ 900000) : lw_ok 0 C (C + 80) gX2_stale gX3_stale [] := ⟨calX2_stale, calX3_stale, rfl, fun Mc Mm hc hm hG => by
  obtain ⟨p1, p2, p3, p4⟩ := pq_stale  (by omega) hG
  exact ⟨_, _, _, _, _, _, _, Nat.le_of_ble_eq_true rfl, Nat.le_of_ble_eq_true rfl, c_X2_stale 700  Mc, c_X3_stale 700  Mm p2, fun r M1 h => ⟨h.1, h.2.1⟩, fun r M1 h => ⟨h.1.trans (congrArg (fun z : Int => some ((0, 0, z) : ax_V)) p3.symm), h.2.1⟩, p4.mono (by omega)⟩⟩
theorem ok_hot {C : Int} (hC : C + 80 ≤ 900000) : lw_ok 0 C (C + 80) gX2_hot gX3_hot [] := ⟨calX2_hot, calX3_hot, rfl, fun Mc Mm hc hm hG => by
  obtain ⟨p1, p2, p3, p4⟩ := pq_hot   hG
  exact ⟨_, _, _, _, _, _, _, Nat.le_of_ble_eq_true rfl, Nat.le_of_ble_eq_true rfl, c_X2_hot 700  Mc, c_X3_hot 700  Mm p2, fun r M1 h => ⟨h.1, h.2.1⟩, fun r M1 h => ⟨h.1.trans (congrArg (fun z : Int => some ((0, 0, z) : ax_V)) p3.symm), h.2.1⟩, p4.mono (by omega)⟩⟩
theorem ok_heat {C : Int} (hC : C + 80 ≤ 900000) {x1 : Int} : lw_ok 1 C (C + 80) gX2_heat gX3_heat [x1] := ⟨calX2_heat, calX3_heat, rfl, fun Mc Mm hc hm hG => by
  obtain ⟨p1, p2, p3, p4⟩ := pq_heat (x := x1)  hG
  exact ⟨_, _, _, _, _, _, _, Nat.le_of_ble_eq_true rfl, Nat.le_of_ble_eq_true rfl, c_X2_heat 700 x1 Mc, c_X3_heat 700 x1 Mm, fun r M1 h => ⟨h.1, h.2.1⟩, fun r M1 h => ⟨h.1.trans (congrArg (fun z : Int => some ((0, 0, z) : ax_V)) p3.symm), h.2.1⟩, p4.mono (by omega)⟩⟩
theorem ok_next {C : Int} (hC : C + 80 ≤ 900000) : lw_ok 0 C (C + 80) gX2_next gX3_next [] := ⟨calX2_next, calX3_next, rfl, fun Mc Mm hc hm hG => by
  obtain ⟨p1, p2, p3, p4⟩ := pq_next   hG
  exact ⟨_, _, _, _, _, _, _, Nat.le_of_ble_eq_true rfl, Nat.le_of_ble_eq_true rfl, c_X2_next 700  Mc, c_X3_next 700  Mm p2, fun r M1 h => ⟨h.1, h.2.1⟩, fun r M1 h => ⟨h.1.trans (congrArg (fun z : Int => some ((0, 0, z) : ax_V)) p3.symm), h.2.1⟩, p4.mono (by omega)⟩⟩
theorem ok_logs {C : Int} (hC : C + 80 ≤ 900000) {x1 : Int} : lw_ok 1 C (C + 80) gX2_logs gX3_logs [x1] := ⟨calX2_logs, calX3_logs, rfl, fun Mc Mm hc hm hG => by
  obtain ⟨p1, p2, p3, p4⟩ := pq_logs (x := x1)  hG
  exact ⟨_, _, _, _, _, _, _, Nat.le_of_ble_eq_true rfl, Nat.le_of_ble_eq_true rfl, c_X2_logs 700 x1 Mc, c_X3_logs 700 x1 Mm p2, fun r M1 h => ⟨h.1, h.2.1⟩, fun r M1 h => ⟨h.1.trans (congrArg (fun z : Int => some ((0, 0, z) : ax_V)) p3.symm), h.2.1⟩, p4.mono (by omega)⟩⟩
theorem ok_holds {C : Int} (hC : C + 80 ≤ 900000) {x1 : Int} : lw_ok 1 C (C + 80) gX2_holds gX3_holds [x1] := ⟨calX2_holds, calX3_holds, rfl, fun Mc Mm hc hm hG => by
  obtain ⟨p1, p2, p3, p4⟩ := pq_holds (x := x1) (by omega) (lo_11b hc) (lo_20 hm) hG
  exact ⟨_, _, _, _, _, _, _, Nat.le_of_ble_eq_true rfl, Nat.le_of_ble_eq_true rfl, c_X2_holds 700 x1 Mc, c_X3_holds 700 x1 Mm p2, fun r M1 h => ⟨h.1, h.2.1⟩, fun r M1 h => ⟨h.1.trans (congrArg (fun z : Int => some ((0, 0, z) : ax_V)) p3.symm), h.2.1⟩, p4.mono (by omega)⟩⟩
theorem ok_spread {C : Int} (hC : C + 80 ≤ 900000) : lw_ok 0 C (C + 80) gX2_spread gX3_spread [] := ⟨calX2_spread, calX3_spread, rfl, fun Mc Mm hc hm hG => by
  obtain ⟨p1, p2, p3, p4⟩ := pq_spread   hG
  exact ⟨_, _, _, _, _, _, _, Nat.le_of_ble_eq_true rfl, Nat.le_of_ble_eq_true rfl, c_X2_spread 700  Mc, c_X3_spread 700  Mm p2, fun r M1 h => ⟨h.1, h.2.1⟩, fun r M1 h => ⟨h.1.trans (congrArg (fun z : Int => some ((0, 0, z) : ax_V)) p3.symm), h.2.1⟩, p4.mono (by omega)⟩⟩
theorem ok_costs {C : Int} (hC : C + 80 ≤ 900000) {x1 : Int} : lw_ok 1 C (C + 80) gX2_costs gX3_costs [x1] := ⟨calX2_costs, calX3_costs, rfl, fun Mc Mm hc hm hG => by
  obtain ⟨p1, p2, p3, p4⟩ := pq_costs (x := x1) (by omega) hG
  exact ⟨_, _, _, _, _, _, _, Nat.le_of_ble_eq_true rfl, Nat.le_of_ble_eq_true rfl, c_X2_costs 700 x1 Mc p1, c_X3_costs 700 x1 Mm p2, fun r M1 h => ⟨h.1, h.2.1⟩, fun r M1 h => ⟨h.1.trans (congrArg (fun z : Int => some ((0, 0, z) : ax_V)) p3.symm), h.2.1⟩, p4.mono (by omega)⟩⟩
theorem ok_worst {C : Int} (hC : C + 80 ≤ 900000) : lw_ok 0 C (C + 80) gX2_worst gX3_worst [] := ⟨calX2_worst, calX3_worst, rfl, fun Mc Mm hc hm hG => by
  obtain ⟨p1, p2, p3, p4⟩ := pq_worst  (by omega) hG
  exact ⟨_, _, _, _, _, _, _, Nat.le_of_ble_eq_true rfl, Nat.le_of_ble_eq_true rfl, c_X2_worst 700  Mc p1, c_X3_worst 700  Mm p2, fun r M1 h => ⟨h.1, h.2.1⟩, fun r M1 h => ⟨h.1.trans (congrArg (fun z : Int => some ((0, 0, z) : ax_V)) p3.symm), h.2.1⟩, p4.mono (by omega)⟩⟩
theorem ok_burst {C : Int} (hC : C + 80 ≤ 900000) {x1 x2 : Int} : lw_ok 2 C (C + 80) gX2_burst gX3_burst [x1, x2] := ⟨calX2_burst, calX3_burst, rfl, fun Mc Mm hc hm hG => by
  obtain ⟨p1, p2, p3, p4⟩ := pq_burst (x := x1) (n := x2) (by omega) hG
  exact ⟨_, _, _, _, _, _, _, Nat.le_of_ble_eq_true rfl, Nat.le_of_ble_eq_true rfl, c_X2_burst 700 x1 x2 Mc p1, c_X3_burst 700 x1 x2 Mm p2, fun r M1 h => ⟨h.1, h.2.1⟩, fun r M1 h => ⟨h.1.trans (congrArg (fun z : Int => some ((0, 0, z) : ax_V)) p3.symm), h.2.1⟩, p4.mono (by omega)⟩⟩
theorem ok_lasts {C : Int} (hC : C + 80 ≤ 900000) {x1 x2 : Int} : lw_ok 2 C (C + 80) gX2_lasts gX3_lasts [x1, x2] := ⟨calX2_lasts, calX3_lasts, rfl, fun Mc Mm hc hm hG => by
  obtain ⟨p1, p2, p3, p4⟩ := pq_lasts (x := x1) (k := x2) (by omega) hG
  exact ⟨_, _, _, _, _, _, _, Nat.le_of_ble_eq_true rfl, Nat.le_of_ble_eq_true rfl, c_X2_lasts 700 x1 x2 Mc p1, c_X3_lasts 700 x1 x2 Mm p2, fun r M1 h => ⟨h.1, h.2.1⟩, fun r M1 h => ⟨h.1.trans (congrArg (fun z : Int => some ((0, 0, z) : ax_V)) p3.symm), h.2.1⟩, p4.mono (by omega)⟩⟩
theorem ok_cuts {C : Int} (hC : C + 80 ≤ 900000) {x1 x2 x3 : Int} : lw_ok 3 C (C + 80) gX2_cuts gX3_cuts [x1, x2, x3] := ⟨calX2_cuts, calX3_cuts, rfl, fun Mc Mm hc hm hG => by
  obtain ⟨p1, p2, p3, p4⟩ := pq_cuts (x := x1) (v := x2) (k := x3) (by omega) hG
  exact ⟨_, _, _, _, _, _, _, Nat.le_of_ble_eq_true rfl, Nat.le_of_ble_eq_true rfl, c_X2_cuts 700 x1 x2 x3 Mc p1, c_X3_cuts 700 x1 x2 x3 Mm p2, fun r M1 h => ⟨h.1, h.2.1⟩, fun r M1 h => ⟨h.1.trans (congrArg (fun z : Int => some ((0, 0, z) : ax_V)) p3.symm), h.2.1⟩, p4.mono (by omega)⟩⟩
theorem ok_swells {C : Int} (hC : C + 80 ≤ 900000) : lw_ok 0 C (C + 80) gX2_swells gX3_swells [] := ⟨calX2_swells, calX3_swells, rfl, fun Mc Mm hc hm hG => by
  obtain ⟨p1, p2, p3, p4⟩ := pq_swells   hG
  exact ⟨_, _, _, _, _, _, _, Nat.le_of_ble_eq_true rfl, Nat.le_of_ble_eq_true rfl, c_X2_swells 700  Mc p1, c_X3_swells 700  Mm p2, fun r M1 h => ⟨h.1, h.2.1⟩, fun r M1 h => ⟨h.1.trans (congrArg (fun z : Int => some ((0, 0, z) : ax_V)) p3.symm), h.2.1⟩, p4.mono (by omega)⟩⟩
theorem ok_heard {C : Int} (hC : C + 80 ≤ 900000) {x1 x2 : Int} : lw_ok 2 C (C + 80) gX2_heard gX3_heard [x1, x2] := ⟨calX2_heard, calX3_heard, rfl, fun Mc Mm hc hm hG => by
  obtain ⟨p1, p2, p3, p4⟩ := pq_heard (x := x1) (v := x2)  hG
  exact ⟨_, _, _, _, _, _, _, Nat.le_of_ble_eq_true rfl, Nat.le_of_ble_eq_true rfl, c_X2_heard 700 x1 x2 Mc, c_X3_heard 700 x1 x2 Mm, fun r M1 h => ⟨h.1, h.2.1⟩, fun r M1 h => ⟨h.1.trans (congrArg (fun z : Int => some ((0, 0, z) : ax_V)) p3.symm), h.2.1⟩, p4.mono (by omega)⟩⟩
theorem ok_denies {C : Int} (hC : C + 80 ≤ 900000) : lw_ok 0 C (C + 80) gX2_denies gX3_denies [] := ⟨calX2_denies, calX3_denies, rfl, fun Mc Mm hc hm hG => by
  obtain ⟨p1, p2, p3, p4⟩ := pq_denies   hG
  exact ⟨_, _, _, _, _, _, _, Nat.le_of_ble_eq_true rfl, Nat.le_of_ble_eq_true rfl, c_X2_denies 700  Mc, c_X3_denies 700  Mm, fun r M1 h => ⟨h.1, h.2.1⟩, fun r M1 h => ⟨h.1.trans (congrArg (fun z : Int => some ((0, 0, z) : ax_V)) p3.symm), h.2.1⟩, p4.mono (by omega)⟩⟩
theorem ok_fits {C : Int} (hC : C + 80 ≤ 900000) : lw_ok 0 C (C + 80) gX2_fits gX3_fits [] := ⟨calX2_fits, calX3_fits, rfl, fun Mc Mm hc hm hG => by
  obtain ⟨p1, p2, p3, p4⟩ := pq_fits   hG
  exact ⟨_, _, _, _, _, _, _, Nat.le_of_ble_eq_true rfl, Nat.le_of_ble_eq_true rfl, c_X2_fits 700  Mc, c_X3_fits 700  Mm p2, fun r M1 h => ⟨h.1, h.2.1⟩, fun r M1 h => ⟨h.1.trans (congrArg (fun z : Int => some ((0, 0, z) : ax_V)) p3.symm), h.2.1⟩, p4.mono (by omega)⟩⟩
theorem ok_asks {C : Int} (hC : C + 80 ≤ 900000) : lw_ok 0 C (C + 80) gX2_asks gX3_asks [] := ⟨calX2_asks, calX3_asks, rfl, fun Mc Mm hc hm hG => by
  obtain ⟨p1, p2, p3, p4⟩ := pq_asks   hG
  exact ⟨_, _, _, _, _, _, _, Nat.le_of_ble_eq_true rfl, Nat.le_of_ble_eq_true rfl, c_X2_asks 700  Mc p1, c_X3_asks 700  Mm p2, fun r M1 h => ⟨h.1, h.2.1⟩, fun r M1 h => ⟨h.1.trans (congrArg (fun z : Int => some ((0, 0, z) : ax_V)) p3.symm), h.2.1⟩, p4.mono (by omega)⟩⟩
theorem ok_law {C : Int} (hC : C + 80 ≤ 900000) {x1 : Int} : lw_ok 1 C (C + 80) gX2_law gX3_law [x1] := ⟨calX2_law, calX3_law, rfl, fun Mc Mm hc hm hG => by
  obtain ⟨p1, p2, p3, p4⟩ := pq_law (seed := x1) (by omega) hG
  exact ⟨_, _, _, _, _, _, _, Nat.le_of_ble_eq_true rfl, Nat.le_of_ble_eq_true rfl, c_X2_law 700 x1 Mc p1, c_X3_law 700 x1 Mm p2, fun r M1 h => ⟨h.1, h.2.1⟩, fun r M1 h => ⟨h.1.trans (congrArg (fun z : Int => some ((0, 0, z) : ax_V)) p3.symm), h.2.1⟩, p4.mono (by omega)⟩⟩
theorem ok_years {C : Int} (hC : C + 80 ≤ 900000) {x1 x2 : Int} : lw_ok 2 C (C + 80) gX2_years gX3_years [x1, x2] := ⟨calX2_years, calX3_years, rfl, fun Mc Mm hc hm hG => by
  obtain ⟨p1, p2, p3, p4⟩ := pq_years (seed := x1) (n := x2) (by omega) hG
  exact ⟨_, _, _, _, _, _, _, Nat.le_of_ble_eq_true rfl, Nat.le_of_ble_eq_true rfl, c_X2_years 700 x1 x2 Mc p1, c_X3_years 700 x1 x2 Mm p2, fun r M1 h => ⟨h.1, h.2.1⟩, fun r M1 h => ⟨h.1.trans (congrArg (fun z : Int => some ((0, 0, z) : ax_V)) p3.symm), h.2.1⟩, p4.mono (by omega)⟩⟩
theorem ok_sum {C : Int} (hC : C + 80 ≤ 900000) : lw_ok 0 C (C + 80) gX2_sum gX3_sum [] := ⟨calX2_sum, calX3_sum, rfl, fun Mc Mm hc hm hG => by
  obtain ⟨p1, p2, p3, p4⟩ := pq_sum   hG
  exact ⟨_, _, _, _, _, _, _, Nat.le_of_ble_eq_true rfl, Nat.le_of_ble_eq_true rfl, c_X2_sum 700  Mc, c_X3_sum 700  Mm p2, fun r M1 h => ⟨h.1, h.2.1⟩, fun r M1 h => ⟨h.1.trans (congrArg (fun z : Int => some ((0, 0, z) : ax_V)) p3.symm), h.2.1⟩, p4.mono (by omega)⟩⟩
theorem ok_keep {C : Int} (hC : C + 80 ≤ 900000) {x1 : Int} : lw_ok 1 C (C + 80) gX2_keep gX3_keep [x1] := ⟨calX2_keep, calX3_keep, rfl, fun Mc Mm hc hm hG => by
  obtain ⟨p1, p2, p3, p4⟩ := pq_keep (x := x1)  hG
  exact ⟨_, _, _, _, _, _, _, Nat.le_of_ble_eq_true rfl, Nat.le_of_ble_eq_true rfl, c_X2_keep 700 x1 Mc, c_X3_keep 700 x1 Mm, fun r M1 h => ⟨h.1, h.2.1⟩, fun r M1 h => ⟨h.1.trans (congrArg (fun z : Int => some ((0, 0, z) : ax_V)) p3.symm), h.2.1⟩, p4.mono (by omega)⟩⟩
theorem ok_again {C : Int} (hC : C + 80 ≤ 900000) {x1 : Int} : lw_ok 1 C (C + 80) gX2_again gX3_again [x1] := ⟨calX2_again, calX3_again, rfl, fun Mc Mm hc hm hG => by
  obtain ⟨p1, p2, p3, p4⟩ := pq_again (x := x1)  hG
  exact ⟨_, _, _, _, _, _, _, Nat.le_of_ble_eq_true rfl, Nat.le_of_ble_eq_true rfl, c_X2_again 700 x1 Mc, c_X3_again 700 x1 Mm, fun r M1 h => ⟨h.1, h.2.1⟩, fun r M1 h => ⟨h.1.trans (congrArg (fun z : Int => some ((0, 0, z) : ax_V)) p3.symm), h.2.1⟩, p4.mono (by omega)⟩⟩
theorem ok_count {C : Int} (hC : C + 80 ≤ 900000) {x1 : Int} : lw_ok 1 C (C + 80) gX2_count gX3_count [x1] := ⟨calX2_count, calX3_count, rfl, fun Mc Mm hc hm hG => by
  obtain ⟨p1, p2, p3, p4⟩ := pq_count (x := x1)  hG
  exact ⟨_, _, _, _, _, _, _, Nat.le_of_ble_eq_true rfl, Nat.le_of_ble_eq_true rfl, c_X2_count 700 x1 Mc, c_X3_count 700 x1 Mm, fun r M1 h => ⟨h.1, h.2.1⟩, fun r M1 h => ⟨h.1.trans (congrArg (fun z : Int => some ((0, 0, z) : ax_V)) p3.symm), h.2.1⟩, p4.mono (by omega)⟩⟩
