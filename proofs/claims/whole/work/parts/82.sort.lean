/-! Leaves: sorted by count, then symbol, on the class's side; by symbol on the reference's. -/
theorem nin {a M : Nat} (h : a < M) (hM : M < 2 ^ 31) : ¬ (nI a < 0 ∨ M ≤ a) := by
  rw [nI_lt0 (by omega), false_or]
  omega
def rk (c : Nat → Nat) : Nat → Nat
  | 0 => 0
  | s + 1 => rk c s + (if 0 < c s then 1 else 0)
theorem rk_le (c : Nat → Nat) : ∀ s, rk c s ≤ s
  | 0 => Nat.le_refl _
  | s + 1 => by
    have := rk_le c s
    rw [rk]
    split <;> omega
theorem rk_mono (c : Nat → Nat) {a b : Nat} (h : a ≤ b) : rk c a ≤ rk c b := by
  induction h with
  | refl => exact Nat.le_refl _
  | step h ih => rw [rk]; omega
theorem rk_lt {c : Nat → Nat} {a b : Nat} (h : a < b) (ha : 0 < c a) : rk c a < rk c b := by
  have := rk_mono c (show a + 1 ≤ b from h)
  rw [rk, if_pos ha] at this
  omega
/-- σ lists the symbols below s that count, by count and then by symbol -/
def srt (c : Nat → Nat) (s m : Nat) (σ : Nat → Nat) : Prop := m = rk c s ∧ (∀ i, i < m → σ i < s ∧ 0 < c (σ i)) ∧ (∀ i j, i < j → j < m → c (σ i) < c (σ j) ∨ (c (σ i) = c (σ j) ∧ σ i < σ j)) ∧ ∀ x, x < s → 0 < c x → ∃ i, i < m ∧ σ i = x
def insσ (σ : Nat → Nat) (at_ s : Nat) : Nat → Nat := fun i => if i < at_ then σ i else if i = at_ then s else σ (i - 1)
theorem srt_ins {c : Nat → Nat} {s m a : Nat} {σ : Nat → Nat} (h : srt c s m σ) (hs : 0 < c s) (ha : a ≤ m) (h1 : ∀ i, i < a → c (σ i) ≤ c s) (h2 : ∀ i, a ≤ i → i < m → c s < c (σ i)) : srt c (s + 1) (m + 1) (insσ σ a s) := by
  obtain ⟨q1, q2, q3, q4⟩ := h
  have e1 : ∀ i, i < a → insσ σ a s i = σ i := fun i hi => if_pos hi
  have e2 : insσ σ a s a = s := by rw [insσ, if_neg (by omega), if_pos rfl]
  have e3 : ∀ i, a < i → insσ σ a s i = σ (i - 1) := fun i hi => by rw [insσ, if_neg (by omega), if_neg (by omega)]
  refine ⟨by rw [rk, if_pos hs, q1], fun i hi => ?_, fun i j hij hj => ?_, fun x hx hc => ?_⟩
  · rcases Nat.lt_trichotomy i a with h | h | h
    · rw [e1 i h]
      have := q2 i (by omega)
      exact ⟨by omega, this.2⟩
    · rw [h, e2]
      exact ⟨by omega, hs⟩
    · rw [e3 i h]
      have := q2 (i - 1) (by omega)
      exact ⟨by omega, this.2⟩
  · rcases Nat.lt_trichotomy i a with h | h | h
    · rcases Nat.lt_trichotomy j a with g | g | g
      · rw [e1 i h, e1 j g]
        exact q3 i j hij (by omega)
      · rw [e1 i h, g, e2]
        have p1 := h1 i h
        have p2 := (q2 i (by omega)).1
        rcases Nat.lt_or_ge (c (σ i)) (c s) with r | r
        · exact Or.inl r
        · exact Or.inr ⟨by omega, p2⟩
      · rw [e1 i h, e3 j g]
        have p1 := h1 i h
        have p2 := h2 (j - 1) (by omega) (by omega)
        exact Or.inl (by omega)
    · rw [h, e2, e3 j (by omega)]
      exact Or.inl (h2 (j - 1) (by omega) (by omega))
    · rw [e3 i h, e3 j (by omega)]
      exact q3 (i - 1) (j - 1) (by omega) (by omega)
  · by_cases ex : x = s
    · exact ⟨a, by omega, by rw [e2, ex]⟩
    · obtain ⟨i, hi, hσ⟩ := q4 x (by omega) hc
      by_cases hia : i < a
      · exact ⟨i, by omega, by rw [e1 i hia, hσ]⟩
      · exact ⟨i + 1, by omega, by rw [e3 (i + 1) (by omega), Nat.add_sub_cancel, hσ]⟩
theorem srt_skip {c : Nat → Nat} {s m : Nat} {σ : Nat → Nat} (h : srt c s m σ) (hs : ¬ 0 < c s) : srt c (s + 1) m σ := by
  obtain ⟨q1, q2, q3, q4⟩ := h
  refine ⟨by rw [rk, if_neg hs, Nat.add_zero, q1], fun i hi => ⟨by have := (q2 i hi).1; omega, (q2 i hi).2⟩, q3, fun x hx hc => ?_⟩
  by_cases ex : x = s
  · subst ex; exact absurd hc hs
  · exact q4 x (by omega) hc
/-- the arrays hold the sorted leaves -/
def SL (c : Nat → Nat) (m : Nat) (σ : Nat → Nat) (W S : Nat → Int32) : Prop := ∀ i, i < m → W i = nI (c (σ i)) ∧ S i = nI (σ i)
theorem s_insert_5 {N s m : Nat} {c σ : Nat → Nat} {sh W0 S0 : Nat → Int32} (hs : s < 286) (hm : m ≤ s) (hsh : sh s = nI (c s)) (hcb : ∀ x, x ≤ s → c x < 2 ^ 30) (hq : ∀ i, i < m → σ i < s) (h0 : SL c m σ W0 S0) :
    ∀ (a k : Nat) (W S : Nat → Int32), a ≤ m → a < k → (∀ i, i < a → W i = W0 i ∧ S i = S0 i) → (∀ i, a < i → i ≤ m → W i = W0 (i - 1) ∧ S i = S0 (i - 1)) → (∀ i, a ≤ i → i < m → c s < c (σ i)) →
      ∃ a' W' S', fTrees_insertLeaf_5 N (nI s) sh k (nI a) W S = some (nI a', W', S') ∧ a' ≤ m ∧ (∀ i, i < a' → W' i = W0 i ∧ S' i = S0 i) ∧ (∀ i, a' < i → i ≤ m → W' i = W0 (i - 1) ∧ S' i = S0 (i - 1)) ∧ (∀ i, a' ≤ i → i < m → c s < c (σ i)) ∧ (a' = 0 ∨ c (σ (a' - 1)) ≤ c s)
  | 0, k + 1, W, S, ha, hk, h1, h2, h3 => by
    refine ⟨0, W, S, ?_, ha, h1, h2, h3, Or.inl rfl⟩
    rw [fTrees_insertLeaf_5, if_pos (show nI 0 ≤ (0 : Int32) from by decide)]
  | a + 1, k + 1, W, S, ha, hk, h1, h2, h3 => by
    have e1 : nI (a + 1) - (1 : Int32) = nI a := nI_sub (b := 1) (by omega)
    have em : nI (a + 1) + (-1 : Int32) = nI a := pk_m1 a
    obtain ⟨w1, w2⟩ := h1 a (by omega)
    obtain ⟨v1, v2⟩ := h0 a (by omega)
    have hb1 := hcb s (Nat.le_refl _)
    have hb2 := hcb (σ a) (by have := hq a (by omega); omega)
    rw [fTrees_insertLeaf_5, if_neg (show ¬ nI (a + 1) ≤ (0 : Int32) from nI_ge (a := 0) (by omega) (by omega)), e1, if_pos (nI_in (show a < 572 by omega) (by omega)), if_pos (nI_in hs (by omega)), nI_clamp (show a < 2 ^ 31 by omega), nI_clamp (show s < 2 ^ 31 by omega), w1, w2, v1, hsh]
    by_cases hc : c (σ a) ≤ c s
    · refine ⟨a + 1, W, S, ?_, ha, h1, h2, h3, Or.inr hc⟩
      rw [if_pos (nI_le hc (by omega))]
    · rw [if_neg (show ¬ nI (c (σ a)) ≤ nI (c s) from nI_ge (by omega) (by omega)), if_pos (nin (show a < 572 by omega) (by omega)), if_pos (nI_in (show a + 1 < 572 by omega) (by omega)), if_pos (nin (show a < 286 by omega) (by omega)), if_pos (nI_in (show a + 1 < 286 by omega) (by omega)), em, nI_clamp (show a + 1 < 2 ^ 31 by omega), ← v1]
      refine s_insert_5 hs hm hsh hcb hq h0 a k _ _ (by omega) (by omega) ?_ ?_ ?_
      · intro i hi
        rw [upd_ne (by omega), upd_ne (by omega)]
        exact h1 i (by omega)
      · intro i hi hi2
        by_cases e : i = a + 1
        · rw [e, upd_same, upd_same, Nat.add_sub_cancel]
          exact ⟨rfl, rfl⟩
        · rw [upd_ne e, upd_ne e]
          exact h2 i (by omega) hi2
      · intro i hi hi2
        by_cases e : i = a
        · rw [e]; omega
        · exact h3 i (by omega) hi2
theorem s_insert {N s m : Nat} {c σ : Nat → Nat} {sh W S : Nat → Int32} (hN : 300 ≤ N) (hs : s < 286) (hsh : sh s = nI (c s)) (hcs : 0 < c s) (hcb : ∀ x, x ≤ s → c x < 2 ^ 30) (hσ : srt c s m σ) (h0 : SL c m σ W S) :
    ∃ W' S' σ', fTrees_insertLeaf N (nI s) (nI m) W sh S = some (nI (m + 1), W', S') ∧ srt c (s + 1) (m + 1) σ' ∧ SL c (m + 1) σ' W' S' := by
  have hm : m ≤ s := by have := rk_le c s; have := hσ.1; omega
  obtain ⟨a, W1, S1, r1, r2, r3, r4, r5, r6⟩ := s_insert_5 (N := N) hs hm hsh hcb (fun i hi => (hσ.2.1 i hi).1) h0 m N W S (Nat.le_refl _) (by omega) (fun i hi => ⟨rfl, rfl⟩) (fun i a b => by omega) (fun i a b => by omega)
  refine ⟨upd W1 a (nI (c s)), upd S1 a (nI s), insσ σ a s, ?_, srt_ins hσ hcs r2 ?_ r5, ?_⟩
  · rw [fTrees_insertLeaf, r1, Option.bind_some]
    dsimp only
    rw [if_pos (nI_in hs (by omega)), if_pos (nI_in (show a < 572 by omega) (by omega)), if_pos (nI_in (show a < 286 by omega) (by omega)), nI_1, nI_clamp (show a < 2 ^ 31 by omega), nI_clamp (show s < 2 ^ 31 by omega), hsh]
  · intro i hi
    rcases r6 with r | r
    · omega
    · by_cases e : i = a - 1
      · rw [e]; exact r
      · rcases hσ.2.2.1 i (a - 1) (by omega) (by omega) with q | q <;> omega
  · intro i hi
    rcases Nat.lt_trichotomy i a with h | h | h
    · rw [upd_ne (by omega), upd_ne (by omega), insσ, if_pos h, (r3 i h).1, (r3 i h).2]
      exact h0 i (by omega)
    · rw [h, upd_same, upd_same, insσ, if_neg (by omega), if_pos rfl]
      exact ⟨rfl, rfl⟩
    · rw [upd_ne (by omega), upd_ne (by omega), insσ, if_neg (by omega), if_neg (by omega), (r4 i h (by omega)).1, (r4 i h (by omega)).2]
      exact h0 (i - 1) (by omega)
theorem s_sort_7 {N n : Nat} {c : Nat → Nat} {sh : Nat → Int32} (hN : 300 ≤ N) (hn : n ≤ 286) (hsh : ∀ x, x < n → sh x = nI (c x)) (hcb : ∀ x, c x < 2 ^ 30) :
    ∀ (d k s m : Nat) (W S : Nat → Int32) (σ : Nat → Nat), s + d = n → d < k → srt c s m σ → SL c m σ W S → ∃ m' W' S' σ', fTrees_sortLeaves_7 N (nI n) sh k (nI s) (nI m) W S = some (nI m', W', S') ∧ srt c n m' σ' ∧ SL c m' σ' W' S'
  | 0, k + 1, s, m, W, S, σ, hd, hk, h1, h2 => by
    have e : s = n := by omega
    subst e
    refine ⟨m, W, S, σ, ?_, h1, h2⟩
    rw [fTrees_sortLeaves_7, if_pos (nI_le (Nat.le_refl _) (by omega))]
  | d + 1, k + 1, s, m, W, S, σ, hd, hk, h1, h2 => by
    have hb := hcb s
    rw [fTrees_sortLeaves_7, if_neg (show ¬ nI n ≤ nI s from nI_ge (by omega) (by omega)), if_pos (nI_in (show s < 286 by omega) (by omega)), nI_clamp (show s < 2 ^ 31 by omega), hsh s (by omega)]
    by_cases hc : 0 < c s
    · obtain ⟨W', S', σ', e1, e2, e3⟩ := s_insert (N := N) hN (show s < 286 by omega) (hsh s (by omega)) hc (fun x _ => hcb x) h1 h2
      rw [if_neg (show ¬ nI (c s) ≤ (0 : Int32) from nI_ge (a := 0) hc (by omega)), e1, Option.bind_some, nI_1]
      exact s_sort_7 hN hn hsh hcb d k (s + 1) (m + 1) W' S' σ' (by omega) (by omega) e2 e3
    · rw [if_pos (show nI (c s) ≤ (0 : Int32) from nI_le (b := 0) (by omega) (by omega)), nI_1]
      exact s_sort_7 hN hn hsh hcb d k (s + 1) m W S σ (by omega) (by omega) (srt_skip h1 hc) h2
theorem s_sortLeaves {N n : Nat} {c : Nat → Nat} {sh W S : Nat → Int32} (hN : 300 ≤ N) (hn : n ≤ 286) (hsh : ∀ x, x < n → sh x = nI (c x)) (hcb : ∀ x, c x < 2 ^ 30) :
    ∃ m W' S' σ, fTrees_sortLeaves N (nI n) sh W S = some (nI m, W', S') ∧ srt c n m σ ∧ SL c m σ W' S' := by
  obtain ⟨m, W', S', σ, e1, e2, e3⟩ := s_sort_7 (N := N) hN hn hsh hcb n N 0 0 W S (fun _ => 0) (by omega) (by omega) ⟨rfl, fun i hi => by omega, fun i j a b => by omega, fun x hx => by omega⟩ (fun i hi => by omega)
  refine ⟨m, W', S', σ, ?_, e2, e3⟩
  rw [fTrees_sortLeaves, show fTrees_sortLeaves_7 N (nI n) sh N (0 : Int32) (0 : Int32) W S = _ from e1]
  rfl
