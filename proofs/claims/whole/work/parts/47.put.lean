/-! ===== a leaf written, a block taken for it ===== -/
/-- the strong invariant but for the run's first leaf, and the homes' pages -/
def fo_S9 (r : fo_R) : Prop := fo_Hu r ∧ fo_Ru r ∧ fo_Lu r ∧ fo_Or r ∧ fo_Lo r ∧ fo_Lm r ∧ fo_Cg r ∧ fo_Ha r ∧ fo_Ls r
theorem fo_SI.s9 {r : fo_R} (s : fo_SI r) : fo_S9 r := ⟨s.hu, s.ru, s.lu, s.or, s.lo, s.lm, s.cg, s.ha, s.ls⟩
theorem fo_S9.free {B : Int} {r : fo_R} (s : fo_S9 r) (h : fo_WI B r) : 0 ≤ fo_free r := fo_free_of h.kd s.1 s.2.1 s.2.2.1 s.2.2.2.1 s.2.2.2.2.1 s.2.2.2.2.2.1
def fo_Hx (f : Int) (r : fo_R) : Prop := ∃ c, c < 16 ∧ r (192 + c) = 1 ∧ r (208 + c) = f
theorem fo_SI_put {l : Nat} {p v st : Int} {σ : fo_S} (hl : l < 64) (hp : 0 ≤ p) (s : fo_S9 σ.1) (h0 : σ.1 l = 0)
    (hC : 2 ≤ σ.1 (192 + l / 4) → ∀ k, k < l % 4 → σ.1 (4 * (l / 4) + k) ≠ 0) (hx : fo_Hx (p / 4) σ.1)
    (hR : ∀ b, b < 16 → σ.1 (192 + b) = 2 → b ≠ l / 4 → σ.1 (4 * b) ≠ 0) (hRc : σ.1 (192 + l / 4) = 2 → l % 4 = 0 ∨ σ.1 (4 * (l / 4)) ≠ 0)
    (hH : ∀ b, b < 16 → σ.1 (192 + b) = 1 → b ≠ l / 4 → ∃ i, i < 64 ∧ σ.1 i ≠ 0 ∧ (σ.1 i - 1) / 4 = σ.1 (208 + b)) (hHc : σ.1 (192 + l / 4) = 1 → σ.1 (208 + l / 4) = p / 4) : fo_SI (fo_put l p v st σ).1 := by
  obtain ⟨s1, s2, s3, s4, s5, s6, s7, s8, s9⟩ := s
  have hi : ∀ j, 192 ≤ j → (fo_put l p v st σ).1 j = σ.1 j := fun j hj => fo_put_hi hl hj
  have pg : ∀ j, j < 64 → (fo_put l p v st σ).1 j = if j = l then p + 1 else σ.1 j := fun j hj => fo_put_pg hl hj
  have em : ∀ k, fo_many (fo_put l p v st σ).1 k = fo_many σ.1 k := fun k => fo_many_congr (fun c hc => by rw [hi _ (by omega)])
  refine ⟨fun b c hb hc => ?_, fun b c hb hc => ?_, fun b c hb hc => ?_, fun b hb => ?_, fun b hb => ?_, ?_, fun b hb e1 k hk e2 => ?_, fun b hb e1 => ?_, fun j hj e1 => ?_, fun b hb e1 => ?_, fun k o hk3 ho hm => ?_⟩
  · rw [hi _ (by omega), hi _ (by omega), hi _ (by omega), hi _ (by omega)]; exact s1 b c hb hc
  · rw [hi _ (by omega), hi _ (by omega)]; exact s2 b c hb hc
  · rw [hi _ (by omega), hi _ (by omega), hi _ (by omega), hi _ (by omega)]; exact s3 b c hb hc
  · rw [hi _ (by omega), hi _ (by omega)]; exact s4 b hb
  · rw [hi _ (by omega), hi _ (by omega), em]; exact s5 b hb
  · unfold fo_Lm at s6 ⊢
    rw [em, em, hi _ (by omega), hi _ (by omega), hi _ (by omega)]
    exact s6
  · rw [hi _ (by omega)] at e1
    rw [pg _ (by omega)] at e2 ⊢
    by_cases ea : 4 * b + k = l
    · rw [if_pos ea] at e2; omega
    · rw [if_neg ea] at e2
      by_cases eb : 4 * b + k + 1 = l
      · have hb4 : l / 4 = b := by omega
        exact absurd e2 (by have := hC (by rw [hb4]; exact e1) k (by omega); rw [hb4] at this; exact this)
      · rw [if_neg eb]; exact s7 b hb e1 k hk e2
  · rw [hi _ (by omega)] at e1
    rw [pg _ (by omega)]
    split
    · omega
    · rename_i en
      by_cases eb : b = l / 4
      · rw [eb] at e1 en ⊢
        rcases hRc e1 with q | q
        · exact absurd (by omega) en
        · exact q
      · exact hR b hb e1 eb
  · rw [pg j hj] at e1 ⊢
    by_cases ej : j = l
    · rw [if_pos ej]
      obtain ⟨c, hc, a1, a2⟩ := hx
      exact ⟨c, hc, by rw [hi _ (by omega)]; exact a1, by rw [hi _ (by omega), a2]; omega⟩
    · rw [if_neg ej] at e1 ⊢
      obtain ⟨c, hc, a1, a2⟩ := s8 j hj e1
      exact ⟨c, hc, by rw [hi _ (by omega)]; exact a1, by rw [hi _ (by omega)]; exact a2⟩
  · rw [hi _ (by omega)] at e1
    by_cases eb : b = l / 4
    · refine ⟨l, hl, ?_⟩
      rw [pg l hl, if_pos rfl, hi _ (by omega), eb, hHc (by rw [← eb]; exact e1)]
      exact ⟨by omega, by omega⟩
    · obtain ⟨i, hi', a1, a2⟩ := hH b hb e1 eb
      have hil : i ≠ l := fun e => by rw [e] at a1; exact a1 h0
      refine ⟨i, hi', ?_⟩
      rw [pg i hi', if_neg hil, hi _ (by omega)]
      exact ⟨a1, a2⟩
  · rw [em] at hm
    obtain ⟨c, hc, a1, a2⟩ := s9 k o hk3 ho hm
    exact ⟨c, hc, by rw [hi _ (by omega)]; exact a1, by rw [hi _ (by omega)]; exact a2⟩
/-- a home or the run taken -/
theorem fo_S9_take {B k o : Int} {r : fo_R} (h : fo_WI B r) (s : fo_S9 r) (hk : k = 1 ∨ k = 2) (ho : 0 ≤ o ∧ o ≤ 5) (h1 : k = 1 → ∀ c, c < 16 → ¬ (r (192 + c) = 1 ∧ r (208 + c) = o)) (h2 : k = 2 → ∀ c, c < 16 → r (192 + c) ≠ 2) : fo_S9 (fo_take k o r) := by
  have hfr := s.free h
  obtain ⟨n, en, hn, h0⟩ := fo_free_nat hfr
  obtain ⟨s1, s2, s3, s4, s5, s6, s7, s8, s9⟩ := s
  have kd : ∀ c, c < 16 → fo_take k o r (192 + c) = if c = n then k else r (192 + c) := fun c hc => by
    rw [fo_take_kd hfr hc, en]
    by_cases e : c = n
    · rw [if_pos (by omega), if_pos e]
    · rw [if_neg (by omega), if_neg e]
  have ow : ∀ c, c < 16 → fo_take k o r (208 + c) = if c = n then o else r (208 + c) := fun c hc => by
    rw [fo_take_ow hfr hc, en]
    by_cases e : c = n
    · rw [if_pos (by omega), if_pos e]
    · rw [if_neg (by omega), if_neg e]
  have oth : ∀ j, j < 192 ∨ 224 ≤ j → fo_take k o r j = r j := fun j hj => fo_take_o hfr hj
  have hemp : ∀ i, i < 4 → r (4 * n + i) = 0 := fun i hi => h.em _ (by omega) (by rw [show (4 * n + i) / 4 = n by omega]; exact h0)
  have em : ∀ q, 3 ≤ q → fo_many (fo_take k o r) q = fo_many r q := fun q hq => fo_many_congr (fun c hc => by
    rw [kd c hc]
    by_cases e : c = n
    · rw [if_pos e, e, h0]; omega
    · rw [if_neg e])
  refine ⟨fun b c hb hc e1 e2 e3 => ?_, fun b c hb hc e1 e2 => ?_, fun b c hb hc e1 e2 e3 => ?_, fun b hb e1 => ?_, fun b hb e1 => ?_, ?_, fun b hb e1 i hi e2 => ?_, fun j hj e1 => ?_, fun q u hq hu hm => ?_⟩
  · rw [kd b hb] at e1
    rw [kd c hc] at e2
    rw [ow b hb, ow c hc] at e3
    by_cases eb : b = n
    · by_cases ec : c = n
      · omega
      · rw [if_pos eb] at e1 e3
        rw [if_neg ec] at e2 e3
        exact absurd ⟨e2, e3.symm⟩ (h1 e1 c hc)
    · by_cases ec : c = n
      · rw [if_neg eb] at e1 e3
        rw [if_pos ec] at e2 e3
        exact absurd ⟨e1, e3⟩ (h1 e2 b hb)
      · rw [if_neg eb] at e1 e3
        rw [if_neg ec] at e2 e3
        exact s1 b c hb hc e1 e2 e3
  · rw [kd b hb] at e1
    rw [kd c hc] at e2
    by_cases eb : b = n
    · by_cases ec : c = n
      · omega
      · rw [if_pos eb] at e1
        rw [if_neg ec] at e2
        exact absurd e2 (h2 e1 c hc)
    · by_cases ec : c = n
      · rw [if_neg eb] at e1
        rw [if_pos ec] at e2
        exact absurd e1 (h2 e2 b hb)
      · rw [if_neg eb] at e1
        rw [if_neg ec] at e2
        exact s2 b c hb hc e1 e2
  · have eb : b ≠ n := fun e => by rw [kd b hb, if_pos e] at e1; omega
    have ec : c ≠ n := fun e => by rw [kd b hb, if_neg eb] at e1; rw [kd b hb, kd c hc, if_neg eb, if_pos e] at e2; omega
    rw [kd b hb, if_neg eb] at e1
    rw [kd b hb, kd c hc, if_neg eb, if_neg ec] at e2
    rw [ow b hb, ow c hc, if_neg eb, if_neg ec] at e3
    exact s3 b c hb hc e1 e2 e3
  · rw [kd b hb] at e1
    rw [ow b hb]
    by_cases eb : b = n
    · rw [if_pos eb]; exact ho
    · rw [if_neg eb] at e1 ⊢; exact s4 b hb e1
  · have eb : b ≠ n := fun e => by rw [kd b hb, if_pos e] at e1; omega
    rw [kd b hb, if_neg eb] at e1 ⊢
    rw [ow b hb, if_neg eb, em _ e1]
    exact s5 b hb e1
  · unfold fo_Lm at s6 ⊢
    rw [em 3 (by decide), em 4 (by decide), oth 271 (by omega), oth 272 (by omega), oth 273 (by omega)]
    exact s6
  · rw [oth _ (by omega)] at e2 ⊢
    rw [kd b hb] at e1
    by_cases eb : b = n
    · rw [eb]; exact hemp (i + 1) (by omega)
    · rw [if_neg eb] at e1; exact s7 b hb e1 i hi e2
  · rw [oth j (by omega)] at e1 ⊢
    obtain ⟨c, hc, a1, a2⟩ := s8 j hj e1
    have ec : c ≠ n := fun e => by rw [e] at a1; omega
    exact ⟨c, hc, by rw [kd c hc, if_neg ec]; exact a1, by rw [ow c hc, if_neg ec]; exact a2⟩
  · rw [em q hq] at hm
    obtain ⟨c, hc, a1, a2⟩ := s9 q u hq hu hm
    have ec : c ≠ n := fun e => by rw [e] at a1; omega
    exact ⟨c, hc, by rw [kd c hc, if_neg ec]; exact a1, by rw [ow c hc, if_neg ec]; exact a2⟩
/-- a log taken, the last of its row -/
theorem fo_S9_takeL {B k : Int} {r : fo_R} (h : fo_WI B r) (s : fo_S9 r) (hk : k = 3 ∨ k = 4) (hlt : fo_many r k < r (268 + k.toNat)) : fo_S9 (fo_take k (fo_many r k) r) := by
  have hfr := s.free h
  obtain ⟨n, en, hn, h0⟩ := fo_free_nat hfr
  obtain ⟨s1, s2, s3, s4, s5, s6, s7, s8, s9⟩ := s
  have hm0 : 0 ≤ fo_many r k := fo_many_pos
  have kd : ∀ c, c < 16 → fo_take k (fo_many r k) r (192 + c) = if c = n then k else r (192 + c) := fun c hc => by
    rw [fo_take_kd hfr hc, en]
    by_cases e : c = n
    · rw [if_pos (by omega), if_pos e]
    · rw [if_neg (by omega), if_neg e]
  have ow : ∀ c, c < 16 → fo_take k (fo_many r k) r (208 + c) = if c = n then fo_many r k else r (208 + c) := fun c hc => by
    rw [fo_take_ow hfr hc, en]
    by_cases e : c = n
    · rw [if_pos (by omega), if_pos e]
    · rw [if_neg (by omega), if_neg e]
  have oth : ∀ j, j < 192 ∨ 224 ≤ j → fo_take k (fo_many r k) r j = r j := fun j hj => fo_take_o hfr hj
  have hemp : ∀ i, i < 4 → r (4 * n + i) = 0 := fun i hi => h.em _ (by omega) (by rw [show (4 * n + i) / 4 = n by omega]; exact h0)
  have m1 : fo_many (fo_take k (fo_many r k) r) k = fo_many r k + 1 := fo_many_one hn (by rw [kd n hn, if_pos rfl]) (by omega) (fun c hc e => by rw [kd c hc, if_neg e])
  have m2 : ∀ q, q ≠ 0 → q ≠ k → fo_many (fo_take k (fo_many r k) r) q = fo_many r q := fun q hq hqk => fo_many_congr (fun c hc => by
    rw [kd c hc]
    by_cases e : c = n
    · rw [if_pos e, e, h0]
      exact ⟨fun h => absurd h.symm hqk, fun h => absurd h.symm hq⟩
    · rw [if_neg e])
  have lo' : ∀ c, c < 16 → r (192 + c) = k → 0 ≤ r (208 + c) ∧ r (208 + c) < fo_many r k := fun c hc e => by
    have := s5 c hc (by omega)
    rw [e] at this
    exact this
  generalize hM : fo_many r k = m at *
  refine ⟨fun b c hb hc e1 e2 e3 => ?_, fun b c hb hc e1 e2 => ?_, fun b c hb hc e1 e2 e3 => ?_, fun b hb e1 => ?_, fun b hb e1 => ?_, ?_, fun b hb e1 i hi e2 => ?_, fun j hj e1 => ?_, fun q u hq hu hm => ?_⟩
  · have eb : b ≠ n := fun e => by rw [kd b hb, if_pos e] at e1; omega
    have ec : c ≠ n := fun e => by rw [kd c hc, if_pos e] at e2; omega
    rw [kd b hb, if_neg eb] at e1
    rw [kd c hc, if_neg ec] at e2
    rw [ow b hb, ow c hc, if_neg eb, if_neg ec] at e3
    exact s1 b c hb hc e1 e2 e3
  · have eb : b ≠ n := fun e => by rw [kd b hb, if_pos e] at e1; omega
    have ec : c ≠ n := fun e => by rw [kd c hc, if_pos e] at e2; omega
    rw [kd b hb, if_neg eb] at e1
    rw [kd c hc, if_neg ec] at e2
    exact s2 b c hb hc e1 e2
  · rw [kd b hb] at e1
    rw [kd b hb, kd c hc] at e2
    rw [ow b hb, ow c hc] at e3
    by_cases eb : b = n
    · by_cases ec : c = n
      · omega
      · rw [if_pos eb, if_neg ec] at e2 e3
        have := lo' c hc e2.symm
        omega
    · by_cases ec : c = n
      · rw [if_neg eb, if_pos ec] at e2 e3
        have := lo' b hb e2
        omega
      · rw [if_neg eb] at e1
        rw [if_neg eb, if_neg ec] at e2 e3
        exact s3 b c hb hc e1 e2 e3
  · have eb : b ≠ n := fun e => by rw [kd b hb, if_pos e] at e1; omega
    rw [kd b hb, if_neg eb] at e1
    rw [ow b hb, if_neg eb]
    exact s4 b hb e1
  · by_cases eb : b = n
    · rw [kd b hb, ow b hb, if_pos eb, if_pos eb, m1]
      omega
    · rw [kd b hb, if_neg eb] at e1 ⊢
      rw [ow b hb, if_neg eb]
      by_cases ek : r (192 + b) = k
      · have := lo' b hb ek
        rw [ek, m1]; omega
      · rw [m2 _ (by omega) ek]
        exact s5 b hb e1
  · unfold fo_Lm at s6 ⊢
    rw [oth 271 (by omega), oth 272 (by omega), oth 273 (by omega)]
    rcases hk with hk | hk
    · subst hk
      rw [m2 4 (by decide) (by decide), m1]
      rw [show (268 : Nat) + (3 : Int).toNat = 271 from rfl] at hlt
      refine ⟨by omega, s6.2⟩
    · subst hk
      rw [m2 3 (by decide) (by decide), m1]
      rw [show (268 : Nat) + (4 : Int).toNat = 272 from rfl] at hlt
      refine ⟨s6.1, by omega, s6.2.2⟩
  · rw [oth _ (by omega)] at e2 ⊢
    rw [kd b hb] at e1
    by_cases eb : b = n
    · rw [eb]; exact hemp (i + 1) (by omega)
    · rw [if_neg eb] at e1; exact s7 b hb e1 i hi e2
  · rw [oth j (by omega)] at e1 ⊢
    obtain ⟨c, hc, a1, a2⟩ := s8 j hj e1
    have ec : c ≠ n := fun e => by rw [e] at a1; omega
    exact ⟨c, hc, by rw [kd c hc, if_neg ec]; exact a1, by rw [ow c hc, if_neg ec]; exact a2⟩
  · by_cases ek : q = k
    · subst ek
      rw [m1] at hm
      by_cases eu : u = m
      · exact ⟨n, hn, by rw [kd n hn, if_pos rfl], by rw [ow n hn, if_pos rfl, eu]⟩
      · obtain ⟨c, hc, a1, a2⟩ := s9 q u hq hu (by omega)
        have ec : c ≠ n := fun e => by rw [e] at a1; omega
        exact ⟨c, hc, by rw [kd c hc, if_neg ec]; exact a1, by rw [ow c hc, if_neg ec]; exact a2⟩
    · rw [m2 q (by omega) ek] at hm
      obtain ⟨c, hc, a1, a2⟩ := s9 q u hq hu hm
      have ec : c ≠ n := fun e => by rw [e] at a1; omega
      exact ⟨c, hc, by rw [kd c hc, if_neg ec]; exact a1, by rw [ow c hc, if_neg ec]; exact a2⟩
/-- a leaf written with a new stamp -/
theorem fo_WI_new {B : Int} {σ : fo_S} {l : Nat} {p v : Int} (hB : 0 ≤ B) (hl : l < 64) (hp : 0 ≤ p ∧ p < 24) (hk : σ.1 (192 + l / 4) ≠ 0) (ho : (σ.1 (192 + l / 4) = 1 ∨ σ.1 (192 + l / 4) = 2) → p = 4 * σ.1 (208 + l / 4) + ((l % 4 : Nat) : Int)) (h : fo_WI B σ.1) : fo_WI (B + 1) (fo_put l p v (B + 1) σ).1 :=
  fo_WI_put hl hp (by omega) hk ho (fun j hj _ e => by have := (h.sb j hj).2; omega) (h.mono (by omega))
/-- a row that differs in heat and clock alone -/
theorem fo_keep {B : Int} {r q : fo_R} (hq : ∀ j, j ≠ 270 → j < 240 ∨ 264 ≤ j → q j = r j) (ht : fo_Ht q) (h : fo_WI B r) (s : fo_SI r) : fo_WI B q ∧ fo_SI q := by
  have em : ∀ k, fo_many q k = fo_many r k := fun k => fo_many_congr (fun c hc => by rw [hq _ (by omega) (by omega)])
  refine ⟨⟨fun j hj => ?_, fun j hj => ?_, fun c hc => ?_, fun c hc => ?_, fun c hc => ?_, fun j hj => ?_, fun j hj => ?_, fun j m hj hm => ?_, fun k a c => ?_, ht⟩, ⟨fun b c hb hc => ?_, fun b c hb hc => ?_, fun b c hb hc => ?_, fun b hb => ?_, fun b hb => ?_, ?_, fun b hb e1 k hk => ?_, fun b hb => ?_, fun l hl => ?_, fun b hb => ?_, fun k o hk3 ho hm => ?_⟩⟩
  · rw [hq j (by omega) (by omega)]; exact h.pg j hj
  · rw [hq _ (by omega) (by omega)]; exact h.sb j hj
  · rw [hq _ (by omega) (by omega)]; exact h.kd c hc
  · rw [hq _ (by omega) (by omega)]; exact h.ow c hc
  · rw [hq _ (by omega) (by omega)]; exact h.wi c hc
  · rw [hq _ (by omega) (by omega), hq j (by omega) (by omega)]; exact h.em j hj
  · rw [hq j (by omega) (by omega), hq (192 + j / 4) (by omega) (by omega), hq (208 + j / 4) (by omega) (by omega)]; exact h.on j hj
  · rw [hq j (by omega) (by omega), hq m (by omega) (by omega), hq _ (by omega) (by omega), hq _ (by omega) (by omega), hq _ (by omega) (by omega), hq _ (by omega) (by omega)]; exact h.sv j m hj hm
  · rw [hq k (by omega) (by omega)]; exact h.ct k a c
  · rw [hq _ (by omega) (by omega), hq _ (by omega) (by omega), hq _ (by omega) (by omega), hq _ (by omega) (by omega)]; exact s.hu b c hb hc
  · rw [hq _ (by omega) (by omega), hq _ (by omega) (by omega)]; exact s.ru b c hb hc
  · rw [hq _ (by omega) (by omega), hq _ (by omega) (by omega), hq _ (by omega) (by omega), hq _ (by omega) (by omega)]; exact s.lu b c hb hc
  · rw [hq _ (by omega) (by omega), hq _ (by omega) (by omega)]; exact s.or b hb
  · rw [hq _ (by omega) (by omega), hq _ (by omega) (by omega), em]; exact s.lo b hb
  · have := s.lm
    unfold fo_Lm at this ⊢
    rw [em, em, hq 271 (by omega) (by omega), hq 272 (by omega) (by omega), hq 273 (by omega) (by omega)]
    exact this
  · rw [hq _ (by omega) (by omega)] at e1
    rw [hq _ (by omega) (by omega), hq _ (by omega) (by omega)]; exact s.cg b hb e1 k hk
  · rw [hq _ (by omega) (by omega), hq _ (by omega) (by omega)]; exact s.r0 b hb
  · rw [hq l (by omega) (by omega)]
    intro e
    obtain ⟨b, hb, a1, a2⟩ := s.ha l hl e
    exact ⟨b, hb, by rw [hq _ (by omega) (by omega)]; exact a1, by rw [hq _ (by omega) (by omega)]; exact a2⟩
  · rw [hq _ (by omega) (by omega)]
    intro e
    obtain ⟨l, hl, a1, a2⟩ := s.hb b hb e
    exact ⟨l, hl, by rw [hq l (by omega) (by omega)]; exact a1, by rw [hq l (by omega) (by omega), hq _ (by omega) (by omega)]; exact a2⟩
  · rw [em] at hm
    obtain ⟨b, hb, a1, a2⟩ := s.ls k o hk3 ho hm
    exact ⟨b, hb, by rw [hq _ (by omega) (by omega)]; exact a1, by rw [hq _ (by omega) (by omega)]; exact a2⟩
