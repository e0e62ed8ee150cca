/-! ===== a rule read by both ===== -/
section RRD
variable {a n : Nat} {M Mm : ax_M}
def rr_F (M N : ax_M) : Prop := (∀ t, t ≠ 0 → t ≠ 4 → N t = M t) ∧ N 0 4 = 0 ∧ ∀ f, f ≠ 4 → f ≠ 5 → f ≠ 6 → f ≠ 7 → f ≠ 11 → N 0 f = M 0 f
def rr_q (a : Nat) (M Mm : ax_M) (A B : Prop × Int × ax_M) : Prop := A.1 ∧ B.1 ∧ cl_G a M A.2.2 ∧ rr_F Mm B.2.2 ∧ ((∃ l : Nat, l ≤ 40 ∧ A.2.1 = (l : Int) ∧ B.2.1 = -1 - (l : Int)) ∨ (A.2.1 = -1 ∧ B.2.1 = 0 ∧ ∃ cs : List Int, cs.length ≤ 40 ∧ fo_wf cs 0 ∧ cl_S a (cs.map fo_sgn) [] A.2.2 ∧ ((B.2.2 0 11 = 0 ∧ cs = [1000, 4, 2001]) ∨ (cs.length ≠ 0 ∧ ml_S cs B.2.2))))
theorem rr_fault {x : Int} {p m : Nat} (h5 : M 0 5 = (p : Int)) (h6 : M 0 6 = (m : Int)) : f_X3_faultOf (n : Int) 40 x M = if x ≠ 0 ∧ p = m then (if n ≤ 40 then 0 else -41) else (if n ≤ 40 ∨ p < 40 then -1 - (p : Int) else -41) := by
  unfold f_X3_faultOf f_X3_faultOf_J19 f_X3_faultOf_J20
  rw [h5, h6]
  repeat' split
  all_goals omega
/-- the model's memory as its reading begins -/
def rr_0 (m : Nat) (M : ax_M) : ax_M := ax_up (ax_up (ax_up (ax_up (ax_up M 0 4 0) 0 5 0) 0 7 0) 0 6 (m : Int)) 0 11 0
theorem rr_0_F {m : Nat} : rr_F M (rr_0 m M) ∧ rr_0 m M 0 5 = 0 ∧ rr_0 m M 0 6 = (m : Int) ∧ rr_0 m M 0 7 = 0 ∧ rr_0 m M 0 11 = 0 := by
  refine ⟨⟨fun t t0 t4 => ?_, ?_, fun f f4 f5 f6 f7 f11 => ?_⟩, ?_, ?_, ?_, ?_⟩
  · unfold rr_0
    rw [ax_up_ne t0, ax_up_ne t0, ax_up_ne t0, ax_up_ne t0, ax_up_ne t0]
  · unfold rr_0; simp [ax_up]
  · unfold rr_0
    rw [fo_up_at, fo_u_o f11, fo_up_at, fo_u_o f6, fo_up_at, fo_u_o f7, fo_up_at, fo_u_o f5, fo_up_at, fo_u_o f4]
  all_goals (unfold rr_0; simp [ax_up])
theorem rr_F.ml {N K : ax_M} (h : rr_F M N) (g : ml_F N K) : rr_F M K := ⟨fun t t0 t4 => (g.1 t t0 t4).trans (h.1 t t0 t4), (g.2 4 (by decide) (by decide) (by decide)).trans h.2.1, fun f f4 f5 f6 f7 f11 => (g.2 f f5 f7 f11).trans (h.2.2 f f4 f5 f6 f7 f11)⟩
theorem rr_read (ha : a = 28 ∨ a = 31) (hT : ∀ i, i < n → M 34 i = Mm 2 i) (hb : ∀ i, i < n → 0 ≤ Mm 2 i ∧ Mm 2 i ≤ 255) (h4 : Mm 0 4 = (n : Int)) : rr_q a M Mm (f_X1_read (a : Int) 80 34 (n : Int) M) (f_X3_readsRule Mm) := by
  obtain ⟨m, hm⟩ : ∃ m : Nat, m = if n ≤ 40 then n else 40 := ⟨_, rfl⟩
  have hmn : m ≤ n ∧ m ≤ 40 := by rw [hm]; split <;> omega
  obtain ⟨z1, z5, z6, z7, z11⟩ := rr_0_F (M := Mm) (m := m)
  have eB : f_X3_readsRule Mm = (if (n : Int) = 0 then (True, ((f_X3_faultOf (n : Int) 40 1 (rr_0 m Mm)), (rr_0 m Mm))) else ax_rc (f_X3_rank 0 (rr_0 m Mm)) (fun y5 => (if y5.1 = 0 then (True, ((f_X3_faultOf (n : Int) 40 0 y5.2), y5.2)) else (True, ((f_X3_faultOf (n : Int) 40 1 y5.2), y5.2))))) := by
    unfold f_X3_readsRule f_X3_begins rr_0
    simp only [ax_bd]
    rw [h4, show (if (40 : Int) < (n : Int) then (40 : Int) else (n : Int)) = (m : Int) by rw [hm]; split <;> split <;> omega]
    rfl
  rw [eB]
  by_cases h0 : n = 0
  · subst h0
    have em : m = 0 := by omega
    obtain ⟨q1, q2, q3, q4⟩ := rd_none (a := a) (M := M)
    rw [if_pos (by decide), rr_fault (p := 0) z5 z6, if_pos ⟨by decide, em.symm⟩, if_pos (by decide)]
    exact ⟨q1, trivial, q4, z1, Or.inr ⟨q2, rfl, [1000, 4, 2001], by decide, by simp [fo_wf], q3, Or.inl ⟨z11, rfl⟩⟩⟩
  · rw [if_neg (by omega)]
    have eT : rr_0 m Mm 2 = Mm 2 := z1.1 2 (by decide) (by decide)
    have hz := rd_0_T (a := a) (M := M)
    have hI : sm_I a m 0 0 [] [] [] 0 0 (rr_0 m Mm) (rd_0 a M) := ⟨z5, z6, z7, ⟨z11, fun i hi => absurd hi (by simp)⟩, hz.1, by omega, hmn.2, by decide, by decide, by decide, by decide, fun i hi => by rw [eT]; exact hb i (by omega)⟩
    have hs := (sm_rec 200).2 0 0 0 [] [] [] 0 0 (rr_0 m Mm) (rd_0 a M) (by decide) hI (Or.inl rfl) (fun _ => by decide) (by omega)
    rw [show (((0 : Nat) : Int)) = 0 from rfl] at hs
    rw [show (f_X3_rec 200).2 0 (rr_0 m Mm) = f_X3_rank 0 (rr_0 m Mm) from rfl] at hs
    generalize f_X3_rank 0 (rr_0 m Mm) = R at hs ⊢
    have hT' : ∀ i, i < n → M 34 i = rr_0 m Mm 2 i := fun i hi => by rw [eT]; exact hT i hi
    unfold ax_rc
    dsimp only
    rcases hs with ⟨a1, a2, a3, l, N, g1, g2, g3, g4, g5, g6, g7⟩ | ⟨a1, a2, a3, l, N, g, t, o', dg', cm', b1, b2, b3, b4, b5, b6, b7, b8, b9, b10, b11, b12, b13, b14, b15, b16, b17⟩
    · rw [Nat.zero_add] at g2 g3 g4 g5
      have hF := z1.ml a3
      have e6 : R.2.2 0 6 = (m : Int) := by rw [a3.2 6 (by decide) (by decide) (by decide), z6]
      rw [if_pos a2, rr_fault g2 e6, if_neg (fun h => h.1 rfl)]
      by_cases hl : l < m
      · obtain ⟨q1, q2, q3⟩ := rd_wrong ha (show l < n by omega) (by omega) hT' g1 (g4 hl)
        rw [if_pos (by omega)]
        exact ⟨q1, ⟨a1, trivial⟩, q3, hF, Or.inl ⟨l, by omega, q2, rfl⟩⟩
      · have e : l = m := by omega
        subst e
        by_cases h40 : n ≤ 40
        · rw [if_pos h40] at hm
          subst hm
          obtain ⟨q1, q2, q3⟩ := rd_early ha ⟨by omega, h40⟩ hT' g1 (g5 rfl)
          rw [if_pos (Or.inl h40)]
          exact ⟨q1, ⟨a1, trivial⟩, q3, hF, Or.inl ⟨l, by omega, q2, rfl⟩⟩
        · rw [if_neg h40] at hm
          subst hm
          obtain ⟨q1, q2, q3⟩ := rd_long ha (by omega) hT' g1
          rw [if_neg (by omega)]
          exact ⟨q1, ⟨a1, trivial⟩, q3, hF, Or.inl ⟨40, by omega, q2, rfl⟩⟩
    · rw [Nat.zero_add] at b3 b4 b11 b13 b16 b17
      have hF := z1.ml a3
      have e6 : R.2.2 0 6 = (m : Int) := by rw [a3.2 6 (by decide) (by decide) (by decide), z6]
      rw [if_neg (show ¬ R.2.1 = 0 by omega), rr_fault b3 e6]
      by_cases hl : l < m
      · rw [if_neg (fun h => by omega), if_pos (by omega)]
        have hbb : 0 ≤ rr_0 m Mm 2 l ∧ rr_0 m Mm 2 l ≤ 255 := by rw [eT]; exact hb l (by omega)
        obtain ⟨q1, q2, q3⟩ := rd_wrong ha (show l < n by omega) (by omega) hT' b2 (sm_after (d' := 0) b7 hbb (fun _ => rfl) (fun q1 q2 => b13 hl q1 q2) (b16 1 (by decide) (by decide) (by decide) hl) (b16 2 (by decide) (by decide) (by decide) hl) (fun q => b17 rfl hl q))
        exact ⟨q1, ⟨a1, trivial⟩, q3, hF, Or.inl ⟨l, by omega, q2, rfl⟩⟩
      · have e : l = m := by omega
        subst e
        rw [if_pos ⟨by decide, rfl⟩]
        by_cases h40 : n ≤ 40
        · rw [if_pos h40] at hm
          subst hm
          rw [List.append_nil] at b7
          rw [List.nil_append] at b6
          rw [List.nil_append] at b9
          have hlen : o'.length + t.length ≤ 40 := by simp at b11; omega
          obtain ⟨q1, q2, q3, q4⟩ := rd_ok ha ⟨by omega, h40⟩ hT' b2 b7 (fun x hx => by have := b8 x hx; omega) hlen
          rw [b9] at q3
          rw [if_pos h40]
          have hw : fo_wf g 0 := by have := b10 [] 0 (show (0 : Nat) + 1 = 1 from rfl); rwa [List.append_nil] at this
          refine ⟨q1, ⟨a1, trivial⟩, q4, hF, Or.inr ⟨q2, rfl, g, by omega, hw, q3, Or.inr ⟨fun h0 => ?_, b6⟩⟩⟩
          have := List.eq_nil_of_length_eq_zero h0
          subst this
          exact absurd hw (by simp [fo_wf])
        · rw [if_neg h40] at hm
          subst hm
          obtain ⟨q1, q2, q3⟩ := rd_long ha (by omega) hT' b2
          rw [if_neg h40]
          exact ⟨q1, ⟨a1, trivial⟩, q3, hF, Or.inl ⟨40, by omega, q2, rfl⟩⟩
end RRD
