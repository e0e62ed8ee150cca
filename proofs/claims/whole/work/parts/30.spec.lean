/-! ===== a folio as one row of numbers: what is done, told without a machine ===== -/
abbrev fo_R : Type := Nat → Int
abbrev fo_T : Type := Int × Int × Int × Int
abbrev fo_S : Type := fo_R × List fo_T
def fo_u (r : fo_R) (i : Nat) (v : Int) : fo_R := fun j => if j = i then v else r j
theorem fo_u_s {r : fo_R} {i : Nat} {v : Int} : fo_u r i v i = v := by simp [fo_u]
theorem fo_u_o {r : fo_R} {i j : Nat} {v : Int} (h : j ≠ i) : fo_u r i v j = r j := by simp [fo_u, h]
theorem fo_u_eq {r : fo_R} {i j : Nat} {v : Int} : fo_u r i v j = if j = i then v else r j := rfl
/-! loops -/
/-! (by well-founded recursion: they aren't opened when terms are compared) -/
def fo_find (P : Nat → Bool) (n i : Nat) : Int := if n = 0 then -1 else if P i = true then (i : Int) else fo_find P (n - 1) (i + 1)
termination_by n
decreasing_by omega
def fo_fold {α : Type} (f : Nat → α → α) (n i : Nat) (v : α) : α := if n = 0 then v else fo_fold f (n - 1) (i + 1) (f i v)
termination_by n
decreasing_by omega
theorem fo_find_z {P : Nat → Bool} {i : Nat} : fo_find P 0 i = -1 := by rw [fo_find, if_pos rfl]
theorem fo_find_s {P : Nat → Bool} {n i : Nat} : fo_find P (n + 1) i = if P i = true then (i : Int) else fo_find P n (i + 1) := by
  rw [fo_find, if_neg (by omega), Nat.add_sub_cancel]
theorem fo_fold_z {α : Type} {f : Nat → α → α} {i : Nat} {v : α} : fo_fold f 0 i v = v := by rw [fo_fold, if_pos rfl]
theorem fo_fold_s {α : Type} {f : Nat → α → α} {n i : Nat} {v : α} : fo_fold f (n + 1) i v = fo_fold f n (i + 1) (f i v) := by
  rw [fo_fold, if_neg (by omega), Nat.add_sub_cancel]
def fo_bstep (ok : Nat → Bool) (lt : Nat → Nat → Bool) (i : Nat) (v : Int) : Int := if ok i = true ∧ (v < 0 ∨ lt i v.toNat = true) then (i : Int) else v
/-- counting, adding, the first of the least (begun at block 0) -/
def fo_cs (P : Nat → Bool) (i : Nat) (v : Int) : Int := if P i = true then v + 1 else v
def fo_ms (lt : Nat → Nat → Bool) (i : Nat) (v : Int) : Int := if lt i v.toNat = true then (i : Int) else v
def fo_sm (g : Nat → Int) (i : Nat) (v : Int) : Int := v + g i
def fo_best (ok : Nat → Bool) (lt : Nat → Nat → Bool) (n : Nat) : Int := fo_fold (fun i v => if ok i = true ∧ (v < 0 ∨ lt i v.toNat = true) then (i : Int) else v) n 0 (-1)
theorem fo_find_spec {P : Nat → Bool} : ∀ n i, (fo_find P n i = -1 ∧ ∀ k, i ≤ k → k < i + n → P k = false) ∨ ∃ j : Nat, fo_find P n i = (j : Int) ∧ i ≤ j ∧ j < i + n ∧ P j = true ∧ ∀ k, i ≤ k → k < j → P k = false := by
  intro n
  induction n with
  | zero => intro i; exact Or.inl ⟨fo_find_z, fun k h1 h2 => by omega⟩
  | succ n ih =>
    intro i
    rw [fo_find_s]
    by_cases h : P i = true
    · rw [if_pos h]
      exact Or.inr ⟨i, rfl, Nat.le_refl _, by omega, h, fun k h1 h2 => by omega⟩
    · rw [if_neg h]
      have hf : P i = false := by simpa using h
      rcases ih (i + 1) with ⟨h1, h2⟩ | ⟨j, h1, h2, h3, h4, h5⟩
      · refine Or.inl ⟨h1, fun k a b => ?_⟩
        by_cases hk : k = i
        · rw [hk]; exact hf
        · exact h2 k (by omega) (by omega)
      · refine Or.inr ⟨j, h1, by omega, by omega, h4, fun k a b => ?_⟩
        by_cases hk : k = i
        · rw [hk]; exact hf
        · exact h5 k (by omega) (by omega)
theorem fo_find_congr {P Q : Nat → Bool} : ∀ n i, (∀ k, i ≤ k → k < i + n → P k = Q k) → fo_find P n i = fo_find Q n i := by
  intro n
  induction n with
  | zero => intro i _; rw [fo_find_z, fo_find_z]
  | succ n ih =>
    intro i h
    rw [fo_find_s, fo_find_s]
    rw [h i (Nat.le_refl _) (by omega), ih (i + 1) (fun k a b => h k (by omega) (by omega))]
theorem fo_fold_inv {α : Type} {f : Nat → α → α} (I : Nat → α → Prop) : ∀ n i v, I i v → (∀ k v, i ≤ k → k < i + n → I k v → I (k + 1) (f k v)) → I (i + n) (fo_fold f n i v) := by
  intro n
  induction n with
  | zero => intro i v h _; rw [fo_fold_z]; exact h
  | succ n ih =>
    intro i v h hs
    have h1 := ih (i + 1) (f i v) (hs i v (Nat.le_refl _) (by omega) h) (fun k v a b c => hs k v (by omega) (by omega) c)
    have e : i + (n + 1) = i + 1 + n := by omega
    rw [e, fo_fold_s]
    exact h1
/-- a loop of a program is a fold -/
theorem fo_loop {α β : Type} {L : Nat → Nat → α → β} {out : α → β} {f : Nat → α → α} {N : Nat} (I : Nat → α → Prop) (h0 : ∀ i v, L 0 i v = out v) (hs : ∀ n i v, i + n + 1 = N → I i v → L (n + 1) i v = L n (i + 1) (f i v) ∧ I (i + 1) (f i v)) : ∀ n i v, i + n = N → I i v → L n i v = out (fo_fold f n i v) := by
  intro n
  induction n with
  | zero => intro i v _ _; rw [fo_fold_z]; exact h0 i v
  | succ n ih =>
    intro i v hi hI
    obtain ⟨h1, h2⟩ := hs n i v (by omega) hI
    rw [h1, fo_fold_s]
    exact ih (i + 1) (f i v) (by omega) h2
theorem fo_findL {L : Nat → Nat → Int} {P : Nat → Bool} {N : Nat} (h0 : ∀ i, L 0 i = -1) (hs : ∀ n i, i + n + 1 = N → L (n + 1) i = if P i = true then (i : Int) else L n (i + 1)) : ∀ n i, i + n = N → L n i = fo_find P n i := by
  intro n
  induction n with
  | zero => intro i _; rw [fo_find_z]; exact h0 i
  | succ n ih =>
    intro i hi
    rw [hs n i (by omega), ih (i + 1) (by omega), fo_find_s]
theorem fo_ms0 {lt : Nat → Nat → Bool} : fo_ms lt 0 0 = 0 := by
  unfold fo_ms
  split <;> rfl
theorem fo_fold1 {α : Type} {f : Nat → α → α} {v : α} (h : f 0 v = v) : fo_fold f 16 0 v = fo_fold f 15 1 v := by
  rw [fo_fold_s, h]
theorem fo_fold_congr {α : Type} {f g : Nat → α → α} : ∀ n i v, (∀ k v, i ≤ k → k < i + n → f k v = g k v) → fo_fold f n i v = fo_fold g n i v := by
  intro n
  induction n with
  | zero => intro i v _; rw [fo_fold_z, fo_fold_z]
  | succ n ih =>
    intro i v h
    rw [fo_fold_s, fo_fold_s, h i v (Nat.le_refl _) (by omega)]
    exact ih (i + 1) _ (fun k v a b => h k v (by omega) (by omega))
/-- the best is the first of the least -/
theorem fo_best_spec {ok : Nat → Bool} {lt : Nat → Nat → Bool} (ha : ∀ a b, lt a b = true → lt b a = false) (ht : ∀ a b c, lt a b = false → lt b c = false → lt a c = false) (n : Nat) :
    (fo_best ok lt n = -1 ∧ ∀ k, k < n → ok k = false) ∨ ∃ j : Nat, fo_best ok lt n = (j : Int) ∧ j < n ∧ ok j = true ∧ (∀ k, k < n → ok k = true → lt k j = false) ∧ ∀ k, k < j → ok k = true → lt j k = true := by
  have h := fo_fold_inv (f := fo_bstep ok lt)
    (fun i v => (v = -1 ∧ ∀ k, k < i → ok k = false) ∨ ∃ j : Nat, v = (j : Int) ∧ j < i ∧ ok j = true ∧ (∀ k, k < i → ok k = true → lt k j = false) ∧ ∀ k, k < j → ok k = true → lt j k = true) n 0 (-1)
    (Or.inl ⟨rfl, fun k hk => by omega⟩) ?_
  · rw [Nat.zero_add] at h
    exact h
  · intro i v _ _ hI
    unfold fo_bstep
    have hsr : lt i i = false := by
      cases hc : lt i i with
      | false => rfl
      | true => have h9 := ha i i hc; rw [hc] at h9; exact h9
    rcases hI with ⟨hv, hn⟩ | ⟨j, hv, hj, h1, h2, h3⟩
    · by_cases hk : ok i = true
      · rw [if_pos ⟨hk, Or.inl (by omega)⟩]
        refine Or.inr ⟨i, rfl, by omega, hk, fun k a b => ?_, fun k a b => ?_⟩
        · by_cases he : k = i
          · rw [he]; exact hsr
          · rw [hn k (by omega)] at b; cases b
        · rw [hn k a] at b; cases b
      · rw [if_neg (fun h => hk h.1)]
        refine Or.inl ⟨hv, fun k a => ?_⟩
        by_cases he : k = i
        · rw [he]; simpa using hk
        · exact hn k (by omega)
    · have hvn : v.toNat = j := by omega
      rw [hvn]
      by_cases hk : ok i = true ∧ lt i j = true
      · rw [if_pos ⟨hk.1, Or.inr hk.2⟩]
        refine Or.inr ⟨i, rfl, by omega, hk.1, fun k a b => ?_, fun k a b => ?_⟩
        · by_cases he : k = i
          · rw [he]; exact hsr
          · exact ht k j i (h2 k (by omega) b) (ha i j hk.2)
        · cases hc : lt i k with
          | true => rfl
          | false =>
            have := ht i k j hc (h2 k a b)
            rw [hk.2] at this; cases this
      · rw [if_neg (fun h => h.2.elim (fun h => by omega) (fun h' => hk ⟨h.1, h'⟩))]
        refine Or.inr ⟨j, hv, by omega, h1, fun k a b => ?_, h3⟩
        by_cases he : k = i
        · rw [he] at b ⊢
          cases hc : lt i j with
          | false => rfl
          | true => exact absurd ⟨b, hc⟩ hk
        · exact h2 k (by omega) b
theorem fo_best_congr {ok ok' : Nat → Bool} {lt lt' : Nat → Nat → Bool} {n : Nat} (h1 : ∀ k, k < n → ok k = ok' k) (h2 : ∀ a b, a < n → b < n → ok a = true → ok b = true → lt a b = lt' a b) : fo_best ok lt n = fo_best ok' lt' n := by
  have h : ∀ m i (v : Int), i + m = n → (v = -1 ∨ ∃ j : Nat, v = (j : Int) ∧ j < n ∧ ok j = true) →
      fo_fold (fo_bstep ok lt) m i v = fo_fold (fo_bstep ok' lt') m i v := by
    intro m
    induction m with
    | zero => intro i v _ _; rw [fo_fold_z, fo_fold_z]
    | succ m ih =>
      intro i v him hv
      rw [fo_fold_s, fo_fold_s]
      have hi : i < n := by omega
      have e : fo_bstep ok lt i v = fo_bstep ok' lt' i v := by
        unfold fo_bstep
        rw [← h1 i hi]
        by_cases hk : ok i = true
        · rcases hv with hv | ⟨j, hv, hj, hoj⟩
          · have : v < 0 := by omega
            simp [this]
          · have hvn : v.toNat = j := by omega
            rw [hvn, h2 i j hi hj hk hoj]
        · simp [hk]
      rw [← e]
      refine ih (i + 1) _ (by omega) ?_
      unfold fo_bstep
      split
      · rename_i hc
        exact Or.inr ⟨i, rfl, hi, hc.1⟩
      · exact hv
  exact h n 0 (-1) (by omega) (Or.inl rfl)
/-! what is asked of a row -/
def fo_blk (r : fo_R) (k o : Int) : Int := fo_find (fun b => decide (r (192 + b) = k ∧ r (208 + b) = o)) 16 0
def fo_run (r : fo_R) : Int := fo_find (fun b => decide (r (192 + b) = 2)) 16 0
def fo_many (r : fo_R) (k : Int) : Int := fo_fold (fo_cs (fun b => decide (r (192 + b) = k))) 16 0 0
def fo_rank (r : fo_R) (l : Nat) : Int := if r (208 + l / 4) = (r l - 1) / 4 then (if r (192 + l / 4) = 1 then 0 else if r (192 + l / 4) = 2 then 1 else 2) else 2
def fo_bet (r : fo_R) (i v : Nat) : Bool := decide (r (128 + v) < r (128 + i) ∨ (r (128 + i) = r (128 + v) ∧ fo_rank r i < fo_rank r v))
def fo_lat (r : fo_R) (p : Int) : Int := fo_best (fun i => decide (r i = p + 1)) (fo_bet r) 64
def fo_isL (r : fo_R) (l : Nat) : Bool := decide (0 < r l ∧ fo_lat r (r l - 1) = (l : Int))
def fo_free (r : fo_R) : Int := fo_best (fun b => decide (r (192 + b) = 0)) (fun a b => decide (r (224 + a) < r (224 + b))) 16
def fo_lvl (r : fo_R) (k : Int) : Int := fo_best (fun b => decide (r (192 + b) = k)) (fun a b => decide (if k = 1 then r (224 + a) < r (224 + b) else r (224 + b) < r (224 + a))) 16
def fo_fill (r : fo_R) (b : Nat) : Nat := if r (4 * b) ≤ 0 then 0 else if r (4 * b + 1) ≤ 0 then 1 else if r (4 * b + 2) ≤ 0 then 2 else if r (4 * b + 3) ≤ 0 then 3 else 4
def fo_hasF (r : fo_R) (b : Nat) (f : Nat) : Bool := (List.range 4).any (fun k => fo_isL r (4 * b + k) && decide ((r (4 * b + k) - 1) / 4 = (f : Int)))
def fo_allL (r : fo_R) (b n : Nat) : Bool := (List.range n).all (fun k => fo_isL r (4 * b + k))
def fo_hot (r : fo_R) (p : Nat) : Bool := decide (r 272 ≠ 0 ∧ r 273 ≤ r (240 + p))
def fo_most (r : fo_R) : Int := fo_fold (fo_ms (fun a b => decide (r (224 + b) < r (224 + a)))) 16 0 0
def fo_few (r : fo_R) : Int := fo_fold (fo_ms (fun a b => decide (r (224 + a) < r (224 + b)))) 16 0 0
def fo_wear (r : fo_R) : Int := r (224 + (fo_most r).toNat) - r (224 + (fo_few r).toNat)
def fo_staleIn (r : fo_R) (b : Nat) : Int := fo_fold (fo_cs (fun k => decide (0 < r (4 * b + k)) && !fo_isL r (4 * b + k))) 4 0 0
def fo_stale (r : fo_R) : Int := fo_fold (fo_sm (fo_staleIn r)) 16 0 0
/-- what the things of a rule are worth -/
def fo_things (r : fo_R) : fo_R := fun i => if i = 0 then fo_wear r else if i = 1 then fo_many r 0 else if i = 2 then r 264 % 10 else if i = 3 then r 265 % 10 else if i = 4 then fo_many r 3 + fo_many r 4 else fo_stale r
/-! what is done -/
def fo_cnt (w : Nat) (r : fo_R) : fo_R := fo_u r w (if r w < 99999 then r w + 1 else 99999)
def fo_put (l : Nat) (p v s : Int) (σ : fo_S) : fo_S := (fo_u (fo_u (fo_u σ.1 l (p + 1)) (64 + l) v) (128 + l) s, σ.2 ++ [((l : Int), p, v, s)])
def fo_copy (g l : Nat) (σ : fo_S) : fo_S := (fo_cnt 265 (fo_put l (σ.1 g - 1) (σ.1 (64 + g)) (σ.1 (128 + g)) σ).1, (fo_put l (σ.1 g - 1) (σ.1 (64 + g)) (σ.1 (128 + g)) σ).2)
def fo_copyI (g : Int) (l : Nat) (σ : fo_S) : fo_S := if g < 0 then σ else fo_copy g.toNat l σ
def fo_cl (f b : Nat) : Nat → Nat → fo_S → fo_S
  | 0, _, σ => σ
  | n + 1, k, σ => fo_cl f b n (k + 1) (fo_copyI (fo_lat σ.1 (4 * (f : Int) + (k : Int))) (4 * b + k) σ)
def fo_wp (b : Nat) (r : fo_R) : fo_R := fun j =>
  if j < 192 then (if (j % 64) / 4 = b then 0 else r j)
  else if j < 208 then (if j = 192 + b then 0 else r j)
  else if j < 224 then (if j = 208 + b then 0 else if 3 ≤ r (192 + b) ∧ r (j - 16) = r (192 + b) ∧ r (208 + b) < r j then r j - 1 else r j)
  else if j = 224 + b then (if r j < 999 then r j + 1 else 999) else r j
def fo_wipe (b : Nat) (σ : fo_S) : fo_S := (fo_cnt 266 (fo_wp b σ.1), σ.2 ++ [(64 + (b : Int), 0, 0, 0)])
def fo_wipeI (x : Int) (σ : fo_S) : fo_S := if x < 0 then σ else fo_wipe x.toNat σ
def fo_take (k o : Int) (r : fo_R) : fo_R := fo_u (fo_u r (192 + (fo_free r).toNat) k) (208 + (fo_free r).toNat) o
def fo_mergeS (f : Nat) (σ : fo_S) : fo_S := fo_wipeI (fo_blk σ.1 2 f) (fo_wipeI (fo_blk σ.1 1 f) (fo_cl f (fo_free σ.1).toNat 4 0 (fo_take 1 f σ.1, σ.2)))
def fo_merge (f : Nat) (σ : fo_S) : fo_S := (fo_cnt 269 (fo_mergeS f σ).1, (fo_mergeS f σ).2)
def fo_sealS (b f n : Nat) (σ : fo_S) : fo_S := fo_wipeI (fo_blk σ.1 1 f) (fo_u (fo_cl f b (4 - n) n σ).1 (192 + b) 1, (fo_cl f b (4 - n) n σ).2)
/-- the run is sealed, b it, f its folder: 0 by a switch, 1 by a part, 2 by a full merge -/
def fo_sealA (b f : Nat) (σ : fo_S) : Int × fo_S :=
  if fo_allL σ.1 b (fo_fill σ.1 b) = true then ((if fo_fill σ.1 b = 4 then 0 else 1), (fo_cnt (if fo_fill σ.1 b = 4 then 267 else 268) (fo_sealS b f (fo_fill σ.1 b) σ).1, (fo_sealS b f (fo_fill σ.1 b) σ).2))
  else (2, fo_merge f σ)
def fo_seal (σ : fo_S) : Int × fo_S := fo_sealA (fo_run σ.1).toNat (σ.1 (208 + (fo_run σ.1).toNat)).toNat σ
def fo_clr (r0 : fo_R) (b : Nat) : Nat → Nat → fo_S → fo_S
  | 0, _, σ => σ
  | n + 1, f, σ => fo_clr r0 b n (f + 1) (if fo_hasF r0 b f = true then fo_merge f σ else σ)
def fo_clears (r : fo_R) (b : Nat) : Int := fo_fold (fo_cs (fo_hasF r b)) 6 0 0
def fo_clear (k : Int) (σ : fo_S) : fo_S := fo_wipe (fo_blk σ.1 k 0).toNat (fo_clr σ.1 (fo_blk σ.1 k 0).toNat 6 0 σ)
def fo_lvlC (h b : Nat) : Nat → Nat → fo_S → fo_S
  | 0, _, σ => σ
  | n + 1, k, σ => fo_lvlC h b n (k + 1) (if 0 < σ.1 (4 * h + k) then fo_copy (4 * h + k) (4 * b + k) σ else σ)
def fo_lvlOk (r : fo_R) : Bool := decide (0 ≤ fo_lvl r 1 ∧ 0 ≤ fo_lvl r 0 ∧ r (224 + (fo_lvl r 1).toNat) < r (224 + (fo_lvl r 0).toNat))
/-- to level, h the home of the fewest wipes, b the free block of the most -/
def fo_levelS (h b : Nat) (σ : fo_S) : fo_S := fo_wipe h (fo_u (fo_u (fo_lvlC h b 4 0 σ).1 (192 + b) 1) (208 + b) (σ.1 (208 + h)), (fo_lvlC h b 4 0 σ).2)
def fo_level (σ : fo_S) : fo_S := if fo_lvlOk σ.1 = true then fo_levelS (fo_lvl σ.1 1).toNat (fo_lvl σ.1 0).toNat σ else σ
/-- the leaf of a log, kind k, to which a page goes; what is done ahead of it -/
def fo_room (r : fo_R) (k : Int) : Int := if fo_many r k ≤ 0 then -1 else if fo_fill r (fo_blk r k (fo_many r k - 1)).toNat < 4 then 4 * fo_blk r k (fo_many r k - 1) + (fo_fill r (fo_blk r k (fo_many r k - 1)).toNat : Int) else -1
def fo_logC (k : Int) (σ : fo_S) : fo_S := if fo_many σ.1 k = σ.1 (if k = 4 then 272 else 271) then fo_clear k σ else σ
def fo_logA (k : Int) (σ : fo_S) : Int × fo_S :=
  if 0 ≤ fo_room σ.1 k then (fo_room σ.1 k, σ)
  else (4 * fo_free (fo_logC k σ).1, (fo_take k (fo_many (fo_logC k σ).1 k) (fo_logC k σ).1, (fo_logC k σ).2))
def fo_log (p : Nat) (σ : fo_S) : Int × fo_S := fo_logA (if fo_hot σ.1 p = true then 4 else 3) σ
/-- way, leaf; h the home -/
def fo_leafA (p h : Nat) (σ : fo_S) : Int × Int × fo_S :=
  if σ.1 (4 * h + p % 4) ≤ 0 then (2, 4 * (h : Int) + ((p % 4 : Nat) : Int), σ)
  else if p % 4 = 0 then (3, 4 * fo_free (if 0 ≤ fo_run σ.1 then (fo_seal σ).2 else σ).1, (fo_take 2 ((p / 4 : Nat) : Int) (if 0 ≤ fo_run σ.1 then (fo_seal σ).2 else σ).1, (if 0 ≤ fo_run σ.1 then (fo_seal σ).2 else σ).2))
  else if 0 ≤ fo_run σ.1 ∧ σ.1 (208 + (fo_run σ.1).toNat) = ((p / 4 : Nat) : Int) ∧ fo_fill σ.1 (fo_run σ.1).toNat = p % 4 then (4, 4 * fo_run σ.1 + ((p % 4 : Nat) : Int), σ)
  else (5, (fo_log p σ).1, (fo_log p σ).2)
def fo_leaf (p : Nat) (σ : fo_S) : Int × Int × fo_S :=
  if 0 ≤ fo_blk σ.1 1 ((p / 4 : Nat) : Int) then fo_leafA p (fo_blk σ.1 1 ((p / 4 : Nat) : Int)).toNat σ
  else fo_leafA p (fo_free σ.1).toNat (fo_take 1 ((p / 4 : Nat) : Int) σ.1, σ.2)
def fo_pre (p : Nat) (r : fo_R) : fo_R := fo_u (fo_u r 270 (r 270 + 1)) (240 + p) (if r (240 + p) < 99 then r (240 + p) + 1 else 99)
/-- a write up to (5): way, leaf, what is then -/
def fo_wr1 (p : Nat) (v : Int) (r : fo_R) : Int × Int × fo_S :=
  ((fo_leaf p (fo_pre p r, [])).1, (fo_leaf p (fo_pre p r, [])).2.1, fo_put (fo_leaf p (fo_pre p r, [])).2.1.toNat p v (r 270 + 1) (fo_leaf p (fo_pre p r, [])).2.2)
def fo_wr2 (p : Nat) (v : Int) (r : fo_R) : fo_S :=
  if (fo_wr1 p v r).1 = 4 ∧ p % 4 = 3 then (fo_cnt 264 (fo_seal (fo_wr1 p v r).2.2).2.1, (fo_seal (fo_wr1 p v r).2.2).2.2) else (fo_cnt 264 (fo_wr1 p v r).2.2.1, (fo_wr1 p v r).2.2.2)
/-- is something levelled? ev: the rule -/
def fo_wrL (ev : fo_R → Int) (p : Nat) (v : Int) (r : fo_R) : Bool :=
  decide ((∃ q ∈ (fo_wr2 p v r).2, 64 ≤ q.1) ∧ 0 < ev (fo_things (fo_wr2 p v r).1)) && fo_lvlOk (fo_wr2 p v r).1
def fo_write (ev : fo_R → Int) (p : Nat) (v : Int) (r : fo_R) : fo_S :=
  if fo_wrL ev p v r = true then fo_level (fo_wr2 p v r) else fo_wr2 p v r
