/-! Lengths of codes: the rounds of halving. -/
/-- the reference's lengths out of its tree -/
theorem s_join_223 {N x3 n n2 m lim : Nat} {c E : Nat → Nat} {PM Y : Nat → Int32} (hN : 1000 ≤ N) (hm : m = rk c n) (hn : n ≤ 288) (hx : x3 + n ≤ n2) (hn2 : n2 ≤ 320) (hY : ∀ x, x < n → 0 < c x → Y (rk c x) = nI x) (hE : ∀ x, x < n → 0 < c x → ∃ e, fMo_join_237 N PM N 0 (nI (rk c x)) = some (nI e) ∧ e < 600 ∧ (if m = 1 then 1 else e) = E x) :
    ∀ (d k r x11 : Nat) (T : Nat → Int32), r + d = m → d < k → x11 < 600 → (x11 ≤ lim ↔ ∀ x, x < n → 0 < c x → rk c x < r → E x ≤ lim) → (∀ x, x < n → 0 < c x → rk c x < r → T (x3 + x) = nI (E x)) →
      ∃ y T', fMo_join_223 N (nI x3) (nI m) n2 PM Y k (nI x11) (nI r) T = some (nI y, T') ∧ y < 600 ∧ (y ≤ lim ↔ ∀ x, x < n → 0 < c x → E x ≤ lim) ∧ (∀ x, x < n → 0 < c x → T' (x3 + x) = nI (E x)) ∧ ∀ j, (∀ x, x < n → 0 < c x → j ≠ x3 + x) → T' j = T j
  | 0, k + 1, r, x11, T, hd, hk, hx11, h1, h2 => by
    have e : r = m := by omega
    subst e
    have hall : ∀ x, x < n → 0 < c x → rk c x < r := fun x hx hc => by rw [hm]; exact rk_lt hx hc
    refine ⟨x11, T, ?_, hx11, ⟨fun g x hx hc => h1.mp g x hx hc (hall x hx hc), fun g => h1.mpr (fun x hx hc _ => g x hx hc)⟩, fun x hx hc => h2 x hx hc (hall x hx hc), fun _ _ => rfl⟩
    have := rk_le c n
    rw [fMo_join_223, if_pos (nI_le (Nat.le_refl _) (by omega))]
  | d + 1, k + 1, r, x11, T, hd, hk, hx11, h1, h2 => by
    have hml := rk_le c n
    obtain ⟨x, y1, y2, y3⟩ := rk_ex (c := c) (s := n) (r := r) (by omega)
    obtain ⟨e, e1, e2, e3⟩ := hE x y1 y2
    rw [y3] at e1
    have hYx := hY x y1 y2
    rw [y3] at hYx
    have huniq : ∀ z, z < n → 0 < c z → rk c z = r → z = x := by
      intro z z1 z2 z3
      rcases Nat.lt_trichotomy z x with g | g | g
      · have := rk_lt g z2; omega
      · exact g
      · have := rk_lt g y2; omega
    have hval : (if nI m = (1 : Int32) then (1 : Int32) else nI e) = nI (E x) := by
      rw [← e3]
      by_cases h1m : m = 1
      · rw [if_pos h1m, if_pos (show nI m = (1 : Int32) by rw [h1m]; rfl)]
        rfl
      · rw [if_neg h1m, if_neg (show ¬ nI m = (1 : Int32) by rw [show (1 : Int32) = nI 1 from rfl, nI_eq (by omega) (by omega)]; exact h1m)]
    have hE600 : E x < 600 := by
      rw [← e3]
      split <;> omega
    have key : ∀ z, z < 600 → (z = x11 ∨ z = E x) → x11 ≤ z → E x ≤ z → ∃ y T', fMo_join_223 N (nI x3) (nI m) n2 PM Y k (nI z) (nI (r + 1)) (upd T (x3 + x) (nI (E x))) = some (nI y, T') ∧ y < 600 ∧ (y ≤ lim ↔ ∀ x, x < n → 0 < c x → E x ≤ lim) ∧ (∀ x, x < n → 0 < c x → T' (x3 + x) = nI (E x)) ∧ ∀ j, (∀ x, x < n → 0 < c x → j ≠ x3 + x) → T' j = T j := by
      intro z hz g1 g2 g3
      obtain ⟨y, T', a1, a2, a3, a4, a5⟩ := s_join_223 (N := N) (lim := lim) hN hm hn hx hn2 hY hE d k (r + 1) z (upd T (x3 + x) (nI (E x))) (by omega) (by omega) hz (by
        constructor
        · intro g u u1 u2 u3
          by_cases eu : rk c u = r
          · rw [huniq u u1 u2 eu]; omega
          · exact h1.mp (by omega) u u1 u2 (by omega)
        · intro g
          have s1 := g x y1 y2 (by omega)
          have s2 := h1.mpr (fun u u1 u2 u3 => g u u1 u2 (by omega))
          rcases g1 with s | s <;> omega) (by
        intro u u1 u2 u3
        by_cases eu : u = x
        · rw [eu, upd_same]
        · rw [upd_ne (by omega)]
          refine h2 u u1 u2 ?_
          by_cases er : rk c u = r
          · exact absurd (huniq u u1 u2 er) eu
          · omega)
      exact ⟨y, T', a1, a2, a3, a4, fun j hj => by rw [a5 j hj, upd_ne (hj x y1 y2)]⟩
    rw [fMo_join_223, if_neg (show ¬ nI m ≤ nI r from nI_ge (by omega) (by omega)), e1, Option.bind_some, if_pos (nI_in (show r < 640 by omega) (by omega)), nI_clamp (show r < 2 ^ 31 by omega), hYx, nI_add, if_pos (nI_in (show x3 + x < n2 by omega) (by omega)), hval, nI_1, nI_clamp (show x3 + x < 2 ^ 31 by omega)]
    by_cases cz : E x ≤ x11
    · rw [if_pos (nI_le cz (by omega))]
      exact key x11 hx11 (Or.inl rfl) (Nat.le_refl _) cz
    · rw [if_neg (show ¬ nI (E x) ≤ nI x11 from nI_ge (by omega) (by omega))]
      exact key (E x) hE600 (Or.inr rfl) (by omega) (Nat.le_refl _)
/-- the length of a symbol's code, by the depth of its leaf -/
noncomputable def lenE (m : Nat) (c σ D : Nat → Nat) (x : Nat) : Nat :=
  haveI := Classical.propDecidable (0 < c x)
  if 0 < c x then (if m = 1 then 1 else D (Classical.epsilon (fun i => i < m ∧ σ i = x))) else 0
theorem lenE_0 {m : Nat} {c σ D : Nat → Nat} {x : Nat} (h : ¬ 0 < c x) : lenE m c σ D x = 0 := by
  rw [lenE, if_neg h]
theorem lenE_σ {n m : Nat} {c σ D : Nat → Nat} (hσ : srt c n m σ) {i : Nat} (hi : i < m) : lenE m c σ D (σ i) = if m = 1 then 1 else D i := by
  have hs : (fun j => j < m ∧ σ j = σ i) (Classical.epsilon (fun j => j < m ∧ σ j = σ i)) := Classical.epsilon_spec (p := fun j => j < m ∧ σ j = σ i) ⟨i, hi, rfl⟩
  rw [lenE, if_pos (hσ.2.1 i hi).2]
  have e : Classical.epsilon (fun j => j < m ∧ σ j = σ i) = i := srt_inj hσ hs.1 hi (by rw [hs.2])
  rw [e]
