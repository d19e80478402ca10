/-! Joining: two queues against the least of all, step by step. -/
def sumL (w : Nat → Nat) : Nat → Nat → Nat
  | _, 0 => 0
  | lo, k + 1 => w lo + sumL w (lo + 1) k
theorem sumL_end (w : Nat → Nat) : ∀ (k lo : Nat), sumL w lo (k + 1) = sumL w lo k + w (lo + k)
  | 0, lo => by rw [sumL, sumL, sumL, Nat.add_zero, Nat.zero_add, Nat.add_zero]
  | k + 1, lo => by
    rw [sumL, sumL_end w k (lo + 1), sumL, show lo + 1 + k = lo + (k + 1) by omega]
    omega
theorem sumL_ge (w : Nat → Nat) : ∀ (k lo x : Nat), lo ≤ x → x < lo + k → w x ≤ sumL w lo k
  | 0, lo, x, h1, h2 => by omega
  | k + 1, lo, x, h1, h2 => by
    rw [sumL]
    by_cases e : x = lo
    · rw [e]; omega
    · have := sumL_ge w k (lo + 1) x (by omega) (by omega)
      omega
theorem sumL_congr {w v : Nat → Nat} : ∀ (k lo : Nat), (∀ x, lo ≤ x → x < lo + k → w x = v x) → sumL w lo k = sumL v lo k
  | 0, _, _ => rfl
  | k + 1, lo, h => by
    rw [sumL, sumL, h lo (Nat.le_refl _) (by omega), sumL_congr k (lo + 1) (fun x a b => h x (by omega) (by omega))]
/-- still open: leaves from a on, joined ones from b on -/
def opn (m j a b x : Nat) : Prop := (a ≤ x ∧ x < m) ∨ (m + b ≤ x ∧ x < m + j)
/-- the next one by the two queues -/
def nxt (m j a b : Nat) (w : Nat → Nat) : Nat × Nat × Nat := if m ≤ a then (m + b, a, b + 1) else if j ≤ b then (a, a + 1, b) else if w (m + b) < w a then (m + b, a, b + 1) else (a, a + 1, b)
theorem nxt_ok {m j a b : Nat} {w ρ : Nat → Nat} (ha : a ≤ m) (hb : b ≤ j) (hne : a < m ∨ b < j) (hρ1 : ∀ x, x < m → ρ x < m) (hρ2 : ∀ x, m ≤ x → ρ x = x) (h1 : ∀ x y, x < y → y < m → w x < w y ∨ (w x = w y ∧ ρ x < ρ y)) (h2 : ∀ x y, m ≤ x → x ≤ y → y < m + j → w x ≤ w y) :
    opn m j a b (nxt m j a b w).1 ∧ (nxt m j a b w).2.1 ≤ m ∧ (nxt m j a b w).2.2 ≤ j ∧ (nxt m j a b w).2.1 + (nxt m j a b w).2.2 = a + b + 1 ∧ (∀ y, opn m j (nxt m j a b w).2.1 (nxt m j a b w).2.2 y ↔ opn m j a b y ∧ y ≠ (nxt m j a b w).1) ∧ (∀ y, opn m j a b y → y ≠ (nxt m j a b w).1 → w (nxt m j a b w).1 < w y ∨ (w (nxt m j a b w).1 = w y ∧ ρ (nxt m j a b w).1 < ρ y)) ∧ sumL w (nxt m j a b w).2.1 (m - (nxt m j a b w).2.1) + sumL w (m + (nxt m j a b w).2.2) (j - (nxt m j a b w).2.2) + w (nxt m j a b w).1 = sumL w a (m - a) + sumL w (m + b) (j - b) := by
  have leaf : a < m → (b < j → w a ≤ w (m + b)) → opn m j a b a ∧ a + 1 ≤ m ∧ b ≤ j ∧ a + 1 + b = a + b + 1 ∧ (∀ y, opn m j (a + 1) b y ↔ opn m j a b y ∧ y ≠ a) ∧ (∀ y, opn m j a b y → y ≠ a → w a < w y ∨ (w a = w y ∧ ρ a < ρ y)) ∧ sumL w (a + 1) (m - (a + 1)) + sumL w (m + b) (j - b) + w a = sumL w a (m - a) + sumL w (m + b) (j - b) := by
    intro hl hw
    refine ⟨Or.inl ⟨Nat.le_refl _, hl⟩, by omega, hb, by omega, fun y => ?_, fun y hy hne => ?_, ?_⟩
    · constructor
      · rintro (h | h)
        · exact ⟨Or.inl ⟨by omega, h.2⟩, by omega⟩
        · exact ⟨Or.inr h, by omega⟩
      · rintro ⟨h | h, hn⟩
        · exact Or.inl ⟨by omega, h.2⟩
        · exact Or.inr h
    · rcases hy with h | h
      · exact h1 a y (by omega) h.2
      · have q1 := hw (by omega)
        have q2 := h2 (m + b) y (by omega) h.1 h.2
        have q3 := hρ1 a hl
        have q4 := hρ2 y (by omega)
        omega
    · rw [show m - a = (m - (a + 1)) + 1 by omega, sumL]
      omega
  have joined : b < j → (a < m → w (m + b) < w a) → opn m j a b (m + b) ∧ a ≤ m ∧ b + 1 ≤ j ∧ a + (b + 1) = a + b + 1 ∧ (∀ y, opn m j a (b + 1) y ↔ opn m j a b y ∧ y ≠ m + b) ∧ (∀ y, opn m j a b y → y ≠ m + b → w (m + b) < w y ∨ (w (m + b) = w y ∧ ρ (m + b) < ρ y)) ∧ sumL w a (m - a) + sumL w (m + (b + 1)) (j - (b + 1)) + w (m + b) = sumL w a (m - a) + sumL w (m + b) (j - b) := by
    intro hl hw
    refine ⟨Or.inr ⟨Nat.le_refl _, by omega⟩, ha, by omega, by omega, fun y => ?_, fun y hy hne => ?_, ?_⟩
    · constructor
      · rintro (h | h)
        · exact ⟨Or.inl h, by omega⟩
        · exact ⟨Or.inr ⟨by omega, h.2⟩, by omega⟩
      · rintro ⟨h | h, hn⟩
        · exact Or.inl h
        · exact Or.inr ⟨by omega, h.2⟩
    · rcases hy with h | h
      · have q1 := hw (by omega)
        by_cases e : y = a
        · rw [e]; exact Or.inl q1
        · rcases h1 a y (by omega) h.2 with q | q <;> exact Or.inl (by omega)
      · have q2 := h2 (m + b) y (by omega) h.1 h.2
        have q3 := hρ2 y (by omega)
        have q4 := hρ2 (m + b) (by omega)
        omega
    · rw [show j - b = (j - (b + 1)) + 1 by omega, sumL, show m + (b + 1) = m + b + 1 from rfl]
      omega
  rw [nxt]
  by_cases c1 : m ≤ a
  · rw [if_pos c1]
    exact joined (by omega) (fun h => by omega)
  · rw [if_neg c1]
    by_cases c2 : j ≤ b
    · rw [if_pos c2]
      exact leaf (by omega) (fun h => by omega)
    · rw [if_neg c2]
      by_cases c3 : w (m + b) < w a
      · rw [if_pos c3]
        exact joined (by omega) (fun _ => c3)
      · rw [if_neg c3]
        exact leaf (by omega) (fun _ => by omega)
theorem s_takeLeast {N m j a b : Nat} {w : Nat → Nat} {W : Nat → Int32} (hm : m ≤ 286) (hj : j ≤ 286) (ha : a ≤ m) (hb : b ≤ j) (hne : a < m ∨ b < j) (hW : ∀ x, x < m + j → W x = nI (w x) ∧ w x < 2 ^ 30) : fTrees_takeLeast N (nI m) (nI (m + j)) (nI a) (nI (m + b)) W = some (nI (nxt m j a b w).1, nI (nxt m j a b w).2.1, nI (m + (nxt m j a b w).2.2)) := by
  rw [fTrees_takeLeast, nxt]
  by_cases c1 : m ≤ a
  · rw [if_pos c1, if_pos (nI_le c1 (by omega)), nI_1]
    rfl
  · rw [if_neg c1, if_neg (show ¬ nI m ≤ nI a from nI_ge (by omega) (by omega))]
    by_cases c2 : j ≤ b
    · rw [if_pos c2, if_pos (nI_le (show m + j ≤ m + b by omega) (by omega)), nI_1]
    · rw [if_neg c2, if_neg (show ¬ nI (m + j) ≤ nI (m + b) from nI_ge (by omega) (by omega)), if_pos (nI_in (show a < 572 by omega) (by omega)), if_pos (nI_in (show m + b < 572 by omega) (by omega)), nI_clamp (show a < 2 ^ 31 by omega), nI_clamp (show m + b < 2 ^ 31 by omega), (hW a (by omega)).1, (hW (m + b) (by omega)).1]
      have q1 := (hW a (by omega)).2
      have q2 := (hW (m + b) (by omega)).2
      by_cases c3 : w (m + b) < w a
      · have e : (if nI (w (m + b)) < nI (w a) then (0 : Int32) else (1 : Int32)) = 0 := if_pos (nI_lt c3 (by omega))
        rw [if_pos c3, e, if_pos rfl, if_pos rfl, nI_1]
        rfl
      · have e : (if nI (w (m + b)) < nI (w a) then (0 : Int32) else (1 : Int32)) = 1 := if_neg (nI_nlt (by omega) (by omega))
        rw [if_neg c3, e, if_neg (by decide), if_neg (by decide), nI_1]
