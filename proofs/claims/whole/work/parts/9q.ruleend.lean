/-! ===== the class's reading of a rule: its ends ===== -/
section RUX
variable {a : Nat} {M N K : ax_M} {T : Nat → Int} {o t : List Int} {dg cm : Int}
theorem rd_last {n m : Nat} (ha : a = 28 ∨ a = 31) (hn : 1 ≤ n) (hm : m = if n ≤ 40 then n else 40) (hT : ∀ i, i < n → M 34 i = T i) (hr : cl_run a T m 0 (rd_0 a M) N) (kx : ax_M → Prop × Int × ax_M) :
    ((kx N).1 → (f_X1_read_L58 (a : Int) 80 34 (n : Int) n 0 (rd_0 a M) kx).1) ∧ (f_X1_read_L58 (a : Int) 80 34 (n : Int) n 0 (rd_0 a M) kx).2 = (kx N).2 := by
  have hz := (rd_0_T (a := a) (M := M)).2
  have h34 : ∀ i, i < n → rd_0 a M 34 i = T i := fun i hi => by rw [hz.1 34 (by omega) (by omega) (by omega)]; exact hT i hi
  have hmn : m ≤ n ∧ m ≤ 40 := by rw [hm]; split <;> omega
  obtain ⟨f, e⟩ : ∃ f, n = f + m := ⟨n - m, by omega⟩
  obtain ⟨r1, r2⟩ := rd_run (w := (n : Int)) ha kx m f 0 (rd_0 a M) N hr (fun i _ hi => h34 i (by omega)) (by omega)
  rw [Nat.zero_add] at r1 r2
  rw [← e] at r1 r2
  have hs : f_X1_read_L58 (a : Int) 80 34 (n : Int) f (m : Int) N kx = kx N := rd_stop kx (by
    by_cases h40 : n ≤ 40
    · rw [if_pos h40] at hm; left; omega
    · rw [if_neg h40] at hm; right; omega)
  rw [hs] at r1 r2
  exact ⟨r1, r2⟩
/-- a text that is too long -/
theorem rd_long {n : Nat} (ha : a = 28 ∨ a = 31) (hn : 40 < n) (hT : ∀ i, i < n → M 34 i = T i) (hr : cl_run a T 40 0 (rd_0 a M) N) :
    (f_X1_read (a : Int) 80 34 (n : Int) M).1 ∧ (f_X1_read (a : Int) 80 34 (n : Int) M).2.1 = 40 ∧ cl_G a M (f_X1_read (a : Int) 80 34 (n : Int) M).2.2 := by
  rw [rd_eq (by omega)]
  obtain ⟨r1, r2⟩ := rd_last ha (by omega) (by rw [if_neg (by omega)]) hT hr (fun M13 : ax_M => (if (n : Int) ≤ 40 then (if (M13 a 4) ≠ 0 then (True, ((n : Int), M13)) else (if (M13 a 5) ≤ 0 then ax_rc (f_X1_unwind (a : Int) 0 M13) (fun M19 => (True, ((-1), M19))) else (True, ((n : Int), M13)))) else (True, ((40 : Int), M13))))
  rw [if_neg (show ¬ (n : Int) ≤ 40 by omega)] at r1 r2
  refine ⟨r1 trivial, by rw [r2], by rw [r2]; exact (rd_0_T).2.tr hr.g⟩
/-- a text that ends too early -/
theorem rd_early {n : Nat} (ha : a = 28 ∨ a = 31) (hn : 1 ≤ n ∧ n ≤ 40) (hT : ∀ i, i < n → M 34 i = T i) (hr : cl_run a T n 0 (rd_0 a M) N) (h : N a 4 ≠ 0 ∨ 0 < N a 5) :
    (f_X1_read (a : Int) 80 34 (n : Int) M).1 ∧ (f_X1_read (a : Int) 80 34 (n : Int) M).2.1 = (n : Int) ∧ cl_G a M (f_X1_read (a : Int) 80 34 (n : Int) M).2.2 := by
  rw [rd_eq (by omega)]
  obtain ⟨r1, r2⟩ := rd_last ha hn.1 (by rw [if_pos hn.2]) hT hr (fun M13 : ax_M => (if (n : Int) ≤ 40 then (if (M13 a 4) ≠ 0 then (True, ((n : Int), M13)) else (if (M13 a 5) ≤ 0 then ax_rc (f_X1_unwind (a : Int) 0 M13) (fun M19 => (True, ((-1), M19))) else (True, ((n : Int), M13)))) else (True, ((40 : Int), M13))))
  rw [if_pos (show (n : Int) ≤ 40 by omega)] at r1 r2
  by_cases h4 : N a 4 ≠ 0
  · rw [if_pos h4] at r1 r2
    exact ⟨r1 trivial, by rw [r2], by rw [r2]; exact (rd_0_T).2.tr hr.g⟩
  · rw [if_neg h4, if_neg (by omega)] at r1 r2
    exact ⟨r1 trivial, by rw [r2], by rw [r2]; exact (rd_0_T).2.tr hr.g⟩
/-- a text that tells a rule -/
theorem rd_ok {n : Nat} (ha : a = 28 ∨ a = 31) (hn : 1 ≤ n ∧ n ≤ 40) (hT : ∀ i, i < n → M 34 i = T i) (hr : cl_run a T n 0 (rd_0 a M) N) (h : cl_T a o t 0 0 dg cm N) (ht : ∀ x, x ∈ t → 1 ≤ bd_of x) (ho : o.length + t.length ≤ 40) :
    (f_X1_read (a : Int) 80 34 (n : Int) M).1 ∧ (f_X1_read (a : Int) 80 34 (n : Int) M).2.1 = -1 ∧ cl_S a (o ++ t.map (fun x => 2000 + x)) [] (f_X1_read (a : Int) 80 34 (n : Int) M).2.2 ∧ cl_G a M (f_X1_read (a : Int) 80 34 (n : Int) M).2.2 := by
  rw [rd_eq (by omega)]
  obtain ⟨r1, r2⟩ := rd_last ha hn.1 (by rw [if_pos hn.2]) hT hr (fun M13 : ax_M => (if (n : Int) ≤ 40 then (if (M13 a 4) ≠ 0 then (True, ((n : Int), M13)) else (if (M13 a 5) ≤ 0 then ax_rc (f_X1_unwind (a : Int) 0 M13) (fun M19 => (True, ((-1), M19))) else (True, ((n : Int), M13)))) else (True, ((40 : Int), M13))))
  obtain ⟨u1, u2, u3⟩ := cl_unwind (w := 0) (t := t) (u := []) (by decide) (by rw [List.append_nil]; exact h.1) (fun x hx => ⟨by have := ht x hx; omega, bd_of_r (ht x hx)⟩) (Or.inl rfl) ho
  rw [if_pos (show (n : Int) ≤ 40 by omega), h.2.1, if_neg (by decide), h.2.2.1, if_pos (by decide)] at r1 r2
  exact ⟨r1 ⟨u1, trivial⟩, by rw [r2]; rfl, by rw [r2]; exact u2, by rw [r2]; exact ((rd_0_T).2.tr hr.g).tr u3.g⟩
/-- no text: pages with a rule of one's own -/
theorem rd_none : (f_X1_read (a : Int) 80 34 0 M).1 ∧ (f_X1_read (a : Int) 80 34 0 M).2.1 = -1 ∧ cl_S a [1000, 4, 2062] [] (f_X1_read (a : Int) 80 34 0 M).2.2 ∧ cl_G a M (f_X1_read (a : Int) 80 34 0 M).2.2 := by
  obtain ⟨h, g⟩ := rd_0_T (a := a) (M := M)
  obtain ⟨e1, g1⟩ := cl_emit (x := 1000) h.1 (by decide)
  obtain ⟨e2, g2⟩ := cl_emit (x := 4) e1 (by decide)
  obtain ⟨e3, g3⟩ := cl_emit (x := 2062) e2 (by decide)
  have e : f_X1_read (a : Int) 80 34 0 M = (True, -1, f_X1_emit (a : Int) 2062 (f_X1_emit (a : Int) 4 (f_X1_emit (a : Int) 1000 (rd_0 a M)))) := by
    unfold f_X1_read
    simp only [ax_bd]
    rw [if_neg (by decide), fo_t0]
    rfl
  rw [e]
  exact ⟨trivial, rfl, e3, ((g.tr g1.g).tr g2.g).tr g3.g⟩
end RUX
