/-! Lengths of codes: with halvings, both sides. -/
theorem hv_pos {x : Nat} : ∀ h, 0 < hv x h ↔ 0 < x
  | 0 => Iff.rfl
  | h + 1 => by
    have := hv_pos (x := x) h
    rw [hv]
    omega
theorem hv_bound (x : Nat) : ∀ h, hv x h * 2 ^ h + 1 ≤ x + 2 ^ h
  | 0 => by rw [hv, Nat.pow_zero, Nat.mul_one]; omega
  | h + 1 => by
    have ih := hv_bound x h
    rw [hv, Nat.pow_succ]
    have h1 : (hv x h + 1) / 2 * (2 ^ h * 2) ≤ (hv x h + 1) * 2 ^ h := by
      rw [Nat.mul_comm (2 ^ h) 2, ← Nat.mul_assoc]
      exact Nat.mul_le_mul_right _ (Nat.div_mul_le_self _ _)
    rw [Nat.add_mul, Nat.one_mul] at h1
    omega
theorem hv_17 {x : Nat} (hx : x ≤ 2 ^ 17) : hv x 17 ≤ 1 := by
  have := hv_bound x 17
  omega
theorem sumL_le {w : Nat → Nat} {B : Nat} : ∀ (k lo : Nat), (∀ x, lo ≤ x → x < lo + k → w x ≤ B) → sumL w lo k ≤ k * B
  | 0, _, _ => Nat.zero_le _
  | k + 1, lo, h => by
    have h1 := h lo (Nat.le_refl _) (by omega)
    have h2 := sumL_le k (lo + 1) (fun x a b => h x (by omega) (by omega))
    rw [sumL, Nat.add_mul]
    omega
theorem rk_ext {c : Nat → Nat} {n : Nat} : ∀ d, (∀ x, n ≤ x → x < n + d → c x = 0) → rk c (n + d) = rk c n
  | 0, _ => rfl
  | d + 1, h => by
    rw [show n + (d + 1) = n + d + 1 from rfl, rk, rk_ext d (fun x a b => h x a (by omega)), h (n + d) (by omega) (by omega), if_neg (by omega), Nat.add_zero]
theorem s_deepest_4 {N m lim : Nat} {DC : Nat → Int32} {D : Nat → Nat} (hm : m ≤ 286) (hD : ∀ i, i < m → DC i = nI (D i) ∧ D i < 600) : ∀ (d k i x : Nat), i + d = m → d < k → x < 600 → (x ≤ lim ↔ ∀ q, q < i → D q ≤ lim) → ∃ y, fTrees_deepest_4 N (nI m) DC k (nI x) (nI i) = some (nI y) ∧ y < 600 ∧ (y ≤ lim ↔ ∀ q, q < m → D q ≤ lim)
  | 0, k + 1, i, x, hd, hk, hx, h => by
    have e : i = m := by omega
    subst e
    refine ⟨x, ?_, hx, h⟩
    rw [fTrees_deepest_4, if_pos (nI_le (Nat.le_refl _) (by omega))]
  | d + 1, k + 1, i, x, hd, hk, hx, h => by
    obtain ⟨d1, d2⟩ := hD i (by omega)
    rw [fTrees_deepest_4, if_neg (show ¬ nI m ≤ nI i from nI_ge (by omega) (by omega)), if_pos (nI_in (show i < 572 by omega) (by omega)), nI_clamp (show i < 2 ^ 31 by omega), d1, nI_1]
    have key : ∀ z, z < 600 → (z = x ∨ z = D i) → x ≤ z → D i ≤ z → ∃ y, fTrees_deepest_4 N (nI m) DC k (nI z) (nI (i + 1)) = some (nI y) ∧ y < 600 ∧ (y ≤ lim ↔ ∀ q, q < m → D q ≤ lim) := by
      intro z hz h1 h2 h3
      refine s_deepest_4 hm hD d k (i + 1) z (by omega) (by omega) hz ?_
      constructor
      · intro g q hq
        by_cases e : q = i
        · rw [e]; omega
        · exact h.mp (by omega) q (by omega)
      · intro g
        have g1 := g i (by omega)
        have g2 := h.mpr (fun q hq => g q (by omega))
        rcases h1 with r | r <;> omega
    by_cases c : x < D i
    · rw [if_pos (nI_lt c (by omega))]
      exact key (D i) d2 (Or.inr rfl) (by omega) (Nat.le_refl _)
    · rw [if_neg (nI_nlt (by omega) (by omega))]
      exact key x hx (Or.inl rfl) (Nat.le_refl _) (by omega)
theorem s_deepest {N m lim : Nat} {DC : Nat → Int32} {D : Nat → Nat} (hN : 300 ≤ N) (hm : m ≤ 286) (hD : ∀ i, i < m → DC i = nI (D i) ∧ D i < 600) : ∃ y, fTrees_deepest N (nI m) DC = some (nI y) ∧ y < 600 ∧ (y ≤ lim ↔ ∀ q, q < m → D q ≤ lim) := by
  obtain ⟨y, a, b⟩ := s_deepest_4 (N := N) (lim := lim) hm hD m N 0 0 (by omega) (by omega) (by omega) ⟨fun _ q hq => by omega, fun _ => Nat.zero_le _⟩
  refine ⟨y, ?_, b⟩
  rw [fTrees_deepest, show fTrees_deepest_4 N (nI m) DC N (0 : Int32) (0 : Int32) = _ from a]
  rfl
theorem s_halve_2 {N n : Nat} {c : Nat → Nat} (hn : n ≤ 286) (hc : ∀ x, c x < 2 ^ 29) : ∀ (d k i : Nat) (sh : Nat → Int32), i + d = n → d < k → (∀ x, x < i → sh x = nI ((c x + 1) / 2)) → (∀ x, i ≤ x → x < n → sh x = nI (c x)) → ∃ sh', fTrees_halve_2 N (nI n) k (nI i) sh = some sh' ∧ ∀ x, x < n → sh' x = nI ((c x + 1) / 2)
  | 0, k + 1, i, sh, hd, hk, h1, h2 => by
    have e : i = n := by omega
    subst e
    refine ⟨sh, ?_, h1⟩
    rw [fTrees_halve_2, if_pos (nI_le (Nat.le_refl _) (by omega))]
  | d + 1, k + 1, i, sh, hd, hk, h1, h2 => by
    have hb := hc i
    rw [fTrees_halve_2, if_neg (show ¬ nI n ≤ nI i from nI_ge (by omega) (by omega)), if_pos (nI_in (show i < 286 by omega) (by omega)), if_pos (nI_in (show i < 286 by omega) (by omega)), nI_clamp (show i < 2 ^ 31 by omega), h2 i (Nat.le_refl _) (by omega), nI_1, nI_1, show nI (c i + 1) / (2 : Int32) = nI ((c i + 1) / 2) from pk_div (d := 2) (by omega) (by omega) (by omega)]
    refine s_halve_2 hn hc d k (i + 1) _ (by omega) (by omega) ?_ ?_
    · intro x hx
      by_cases e : x = i
      · rw [e, upd_same]
      · rw [upd_ne e]
        exact h1 x (by omega)
    · intro x hx hx2
      rw [upd_ne (by omega)]
      exact h2 x (by omega) hx2
theorem s_halve {N n : Nat} {c : Nat → Nat} {sh : Nat → Int32} (hN : 300 ≤ N) (hn : n ≤ 286) (hc : ∀ x, c x < 2 ^ 29) (h2 : ∀ x, x < n → sh x = nI (c x)) : ∃ sh', fTrees_halve N (nI n) sh = some sh' ∧ ∀ x, x < n → sh' x = nI ((c x + 1) / 2) := by
  obtain ⟨sh', a, b⟩ := s_halve_2 (N := N) hn hc n N 0 sh (by omega) (by omega) (fun x hx => by omega) (fun x _ hx => h2 x hx)
  refine ⟨sh', ?_, b⟩
  rw [fTrees_halve, show fTrees_halve_2 N (nI n) N (0 : Int32) sh = _ from a]
  rfl
/-- the class's lengths out of the depths -/
theorem s_find_85 {N m n : Nat} {c σ E : Nat → Nat} {S DC : Nat → Int32} (hm : m ≤ 286) (hn : n ≤ 286) (hσ : srt c n m σ) (hS : ∀ i, i < m → S i = nI (σ i)) (hD : ∀ i, i < m → (if m = 1 then (1 : Int32) else DC i) = nI (E (σ i))) (hE : ∀ x, ¬ 0 < c x → E x = 0) :
    ∀ (d k i : Nat) (p : Nat → Int32), i + d = m → d < k → (∀ q, q < i → p (σ q) = nI (E (σ q))) → (∀ x, x < n → (∀ q, q < i → σ q ≠ x) → p x = 0) → ∃ p', fTrees_findLengths_85 N (nI m) n S DC k (nI i) p = some p' ∧ ∀ x, x < n → p' x = nI (E x)
  | 0, k + 1, i, p, hd, hk, h1, h2 => by
    have e : i = m := by omega
    subst e
    refine ⟨p, ?_, fun x hx => ?_⟩
    · rw [fTrees_findLengths_85, if_pos (nI_le (Nat.le_refl _) (by omega))]
    · by_cases hc : 0 < c x
      · obtain ⟨q, q1, q2⟩ := hσ.2.2.2 x hx hc
        rw [← q2]
        exact h1 q q1
      · rw [hE x hc, h2 x hx (fun q hq e => hc (by rw [← e]; exact (hσ.2.1 q hq).2))]
        rfl
  | d + 1, k + 1, i, p, hd, hk, h1, h2 => by
    have hσi := (hσ.2.1 i (by omega)).1
    have hv := hD i (by omega)
    have hnext : ∃ p', fTrees_findLengths_85 N (nI m) n S DC k (nI (i + 1)) (upd p (σ i) (nI (E (σ i)))) = some p' ∧ ∀ x, x < n → p' x = nI (E x) := by
      refine s_find_85 hm hn hσ hS hD hE d k (i + 1) _ (by omega) (by omega) ?_ ?_
      · intro q hq
        by_cases e : σ q = σ i
        · rw [e, upd_same]
        · rw [upd_ne e]
          refine h1 q ?_
          by_cases e2 : q = i
          · subst e2; exact absurd rfl e
          · omega
      · intro x hx hx2
        rw [upd_ne (Ne.symm (hx2 i (by omega)))]
        exact h2 x hx (fun q hq => hx2 q (by omega))
    obtain ⟨p', a1, a2⟩ := hnext
    refine ⟨p', ?_, a2⟩
    rw [fTrees_findLengths_85, if_neg (show ¬ nI m ≤ nI i from nI_ge (by omega) (by omega)), if_pos (nI_in (show i < 286 by omega) (by omega)), nI_clamp (show i < 2 ^ 31 by omega), hS i (by omega), nI_1, nI_clamp (show σ i < 2 ^ 31 by omega)]
    by_cases h1m : m = 1
    · rw [if_pos h1m] at hv
      rw [if_pos (show nI m = (1 : Int32) by rw [h1m]; rfl), if_pos (nin hσi (by omega)), hv]
      exact a1
    · rw [if_neg h1m] at hv
      rw [if_neg (show ¬ nI m = (1 : Int32) by rw [show (1 : Int32) = nI 1 from rfl, nI_eq (by omega) (by omega)]; exact h1m), if_pos (nin (show i < 572 by omega) (by omega)), if_pos (nin hσi (by omega)), hv]
      exact a1
