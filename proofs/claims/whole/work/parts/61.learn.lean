/-! Counting lengths, canonical codes, and the tables to read with. -/
def cnt (L : Nat → Nat) : Nat → Nat → Nat
  | 0, _ => 0
  | n + 1, l => cnt L n l + (if L n = l then 1 else 0)
theorem cnt_le (L : Nat → Nat) (l : Nat) : ∀ n, cnt L n l ≤ n
  | 0 => Nat.le_refl _
  | n + 1 => by
    have := cnt_le L l n
    rw [cnt]
    split <;> omega
theorem cnt_mono (L : Nat → Nat) (l : Nat) {m n : Nat} (h : m ≤ n) : cnt L m l ≤ cnt L n l := by
  induction h with
  | refl => exact Nat.le_refl _
  | step h ih => rw [cnt]; omega
theorem cnt_lt {L : Nat → Nat} {s n l : Nat} (h : s < n) (hl : L s = l) : cnt L s l < cnt L n l := by
  have := cnt_mono L l (show s + 1 ≤ n from h)
  rw [cnt, if_pos hl] at this
  omega
def updN (f : Nat → Nat) (k x : Nat) : Nat → Nat := fun j => if j = k then x else f j
theorem updN_same (f : Nat → Nat) (k x : Nat) : updN f k x k = x := if_pos rfl
theorem updN_ne {f : Nat → Nat} {j k x : Nat} (h : j ≠ k) : updN f k x j = f j := if_neg h
/-- two rows hold the same numbers below n -/
def same (n : Nat) (f : Nat → Int32) (F : Nat → Nat) : Prop := ∀ j, j < n → f j = nI (F j)
theorem same_upd {n : Nat} {f : Nat → Int32} {F : Nat → Nat} (h : same n f F) (k x : Nat) : same n (upd f k (nI x)) (updN F k x) := by
  intro j hj
  by_cases e : j = k
  · rw [e, upd_same, updN_same]
  · rw [upd_ne e, updN_ne e]
    exact h j hj
theorem s_learn_11 {N : Nat} {x2 x3 : Nat} {n_p1 : Nat} {f : Nat → Int32} {L : Nat → Nat} (hn : n_p1 < 2 ^ 20) (hx : x2 + x3 ≤ n_p1) (hf : ∀ j, j < x3 → f (x2 + j) = nI (L j)) (hL : ∀ j, j < x3 → L j < 16) :
    ∀ (m k i : Nat) (g : Nat → Int32), i + m = x3 → m < k → (∀ l, l < 16 → g l = nI (cnt L i l)) → ∃ g', fDecoder_learn_11 N (nI x2) (nI x3) n_p1 f k (nI i) g = some g' ∧ ∀ l, l < 16 → g' l = nI (cnt L x3 l)
  | 0, k + 1, i, g, hi, hk, hg => by
    rw [fDecoder_learn_11]
    have e : i = x3 := by omega
    subst e
    refine ⟨g, ?_, hg⟩
    simp (disch := omega) only [nlit, nI_add, nI_mul, nI_sub, nI_leI, nI_ltI, nI_eq, nI_inI', nI_inI, nI_lt0', nI_lt0, nI_clamp, nI_div, nI_rem, nI_shl, nI_shr, upd_same, nI_eqm, nI_m1le, nI_m2le, nI_m1lt, nI_m2lt, nI_m2m1, eq_self, not_false_eq_true, not_true_eq_false, if_pos, if_neg, if_true, if_false, Option.bind_some]
  | m + 1, k + 1, i, g, hi, hk, hg => by
    rw [fDecoder_learn_11]
    have h1 := hf i (by omega)
    have h2 := hL i (by omega)
    have h3 := cnt_le L (L i) i
    simp (disch := omega) only [nlit, nI_add, nI_mul, nI_sub, nI_leI, nI_ltI, nI_eq, nI_inI', nI_inI, nI_lt0', nI_lt0, nI_clamp, nI_div, nI_rem, nI_shl, nI_shr, upd_same, nI_eqm, nI_m1le, nI_m2le, nI_m1lt, nI_m2lt, nI_m2m1, eq_self, not_false_eq_true, not_true_eq_false, if_pos, if_neg, if_true, if_false, Option.bind_some, h1, hg _ h2]
    refine s_learn_11 hn hx hf hL m k (i + 1) _ (by omega) (by omega) ?_
    intro l hl
    by_cases e : l = L i
    · rw [e, upd_same, cnt, if_pos rfl]
    · rw [upd_ne e, cnt, if_neg (Ne.symm e)]
      exact hg l hl
/-- how many of the lengths 1 .. k - 1 -/
def acc (c : Nat → Nat) : Nat → Nat
  | 0 => 0
  | k + 1 => acc c k + (if k = 0 then 0 else c k)
theorem acc_s (c : Nat → Nat) {k : Nat} (h : 0 < k) : acc c (k + 1) = acc c k + c k := by
  rw [acc, if_neg (by omega)]
theorem acc_1 (c : Nat → Nat) : acc c 1 = 0 := rfl
theorem acc_mono (c : Nat → Nat) {j k : Nat} (h : j ≤ k) : acc c j ≤ acc c k := by
  induction h with
  | refl => exact Nat.le_refl _
  | step h ih => rw [acc]; omega
theorem acc_cnt (L : Nat → Nat) (n : Nat) : ∀ k, acc (cnt L (n + 1)) k = acc (cnt L n) k + (if 1 ≤ L n ∧ L n < k then 1 else 0)
  | 0 => by rw [acc, acc, if_neg (by omega)]
  | k + 1 => by
    rw [acc, acc, acc_cnt L n k, cnt]
    by_cases h0 : k = 0
    · subst h0
      rw [if_pos rfl, if_pos rfl, if_neg (by omega), if_neg (by omega)]
    · rw [if_neg h0, if_neg h0]
      by_cases h1 : L n = k
      · rw [if_pos h1, if_neg (by omega), if_pos (by omega)]
        omega
      · rw [if_neg h1]
        by_cases h2 : 1 ≤ L n ∧ L n < k
        · rw [if_pos h2, if_pos (by omega)]
          omega
        · rw [if_neg h2, if_neg (by omega)]
          omega
theorem acc_le (L : Nat → Nat) (k : Nat) : ∀ n, acc (cnt L n) k ≤ n
  | 0 => by
    induction k with
    | zero => exact Nat.le_refl _
    | succ k ih =>
      rw [acc]
      split
      · omega
      · rw [cnt]; omega
  | n + 1 => by
    have := acc_le L k n
    rw [acc_cnt]
    split <;> omega
theorem acc_all {L : Nat → Nat} : ∀ n, (∀ j, j < n → L j < 16) → acc (cnt L n) 16 + cnt L n 0 = n
  | 0, _ => by
    have := acc_le L 16 0
    rw [cnt]; omega
  | n + 1, h => by
    have ih := acc_all n (fun j hj => h j (by omega))
    have h1 := h n (by omega)
    rw [acc_cnt, cnt]
    by_cases h0 : L n = 0
    · rw [if_neg (by omega), if_pos h0]
      omega
    · rw [if_pos (by omega), if_neg h0]
      omega
/-- the place of a symbol among those that have codes, by their codes -/
def posn (L : Nat → Nat) (n s : Nat) : Nat := acc (cnt L n) (L s) + cnt L s (L s)
theorem posn_lt {L : Nat → Nat} {n s : Nat} (hs : s < n) (h1 : 1 ≤ L s) : posn L n s < acc (cnt L n) (L s + 1) := by
  rw [acc_s _ h1, posn]
  have := cnt_lt (L := L) hs rfl
  omega
theorem posn_n {L : Nat → Nat} {n s : Nat} (hs : s < n) (h1 : 1 ≤ L s) : posn L n s < n :=
  Nat.lt_of_lt_of_le (posn_lt hs h1) (acc_le L _ n)
theorem posn_ne {L : Nat → Nat} {n s i : Nat} (hs : s < i) (hi : i < n) (h1 : 1 ≤ L s) (h2 : 1 ≤ L i) : posn L n s ≠ posn L n i := by
  rcases Nat.lt_trichotomy (L s) (L i) with h | h | h
  · have a := posn_lt (n := n) (show s < n by omega) h1
    have b := acc_mono (cnt L n) (show L s + 1 ≤ L i from h)
    have c : acc (cnt L n) (L i) ≤ posn L n i := by rw [posn]; omega
    omega
  · have := cnt_lt (L := L) hs h
    rw [posn, posn, h]
    omega
  · have a := posn_lt (n := n) hi h2
    have b := acc_mono (cnt L n) (show L i + 1 ≤ L s from h)
    have c : acc (cnt L n) (L s) ≤ posn L n s := by rw [posn]; omega
    omega
theorem cnt_ex (L : Nat → Nat) (l r : Nat) : ∀ n, r < cnt L n l → ∃ s, s < n ∧ L s = l ∧ cnt L s l = r
  | 0, h => by rw [cnt] at h; omega
  | n + 1, h => by
    by_cases h1 : r < cnt L n l
    · obtain ⟨s, a, b, c⟩ := cnt_ex L l r n h1
      exact ⟨s, by omega, b, c⟩
    · rw [cnt] at h
      by_cases h2 : L n = l
      · rw [if_pos h2] at h
        exact ⟨n, by omega, h2, by omega⟩
      · rw [if_neg h2] at h
        omega
theorem acc_ex (c : Nat → Nat) (i : Nat) : ∀ k, i < acc c k → ∃ l, 1 ≤ l ∧ l < k ∧ acc c l ≤ i ∧ i < acc c l + c l
  | 0, h => by rw [acc] at h; omega
  | k + 1, h => by
    by_cases h1 : i < acc c k
    · obtain ⟨l, a, b, d⟩ := acc_ex c i k h1
      exact ⟨l, a, by omega, d⟩
    · rw [acc] at h
      by_cases h0 : k = 0
      · rw [if_pos h0] at h
        omega
      · rw [if_neg h0] at h
        exact ⟨k, by omega, by omega, by omega, h⟩
theorem posn_ex {L : Nat → Nat} {n i : Nat} (h : i < acc (cnt L n) 16) : ∃ s, s < n ∧ 1 ≤ L s ∧ L s < 16 ∧ posn L n s = i := by
  obtain ⟨l, h1, h2, h3, h4⟩ := acc_ex _ i 16 h
  obtain ⟨s, a, b, d⟩ := cnt_ex L l (i - acc (cnt L n) l) n (by omega)
  refine ⟨s, a, by omega, by omega, ?_⟩
  rw [posn, b, d]
  omega
/-- 2^(15 - length) for all codes of the lengths below k -/
def kra (c : Nat → Nat) : Nat → Nat
  | 0 => 0
  | k + 1 => kra c k + (if k = 0 then 0 else c k * 2 ^ (15 - k))
theorem kra_s (c : Nat → Nat) {k : Nat} (h : 0 < k) : kra c (k + 1) = kra c k + c k * 2 ^ (15 - k) := by
  rw [kra, if_neg (by omega)]
theorem s_learn_66 {N : Nat} {P : Nat → Int32} {c : Nat → Nat} (hP : ∀ l, l < 16 → P l = nI (c l)) (hc : ∀ l, l < 16 → c l < 2 ^ 16) (ha : ∀ l, l ≤ 16 → acc c l < 2 ^ 20) :
    ∀ (m k i : Nat) (x : Int32) (g : Nat → Int32), i + m = 16 → 1 ≤ i → m < k → (∀ l, 1 ≤ l → l ≤ i → g l = nI (acc c l)) →
      ∃ g', fDecoder_learn_66 N P k (nI i) (x - nI (kra c i)) g = some (x - nI (kra c 16), g') ∧ ∀ l, 1 ≤ l → l ≤ 16 → g' l = nI (acc c l)
  | 0, k + 1, i, x, g, hi, h1, hk, hg => by
    rw [fDecoder_learn_66]
    have e : i = 16 := by omega
    subst e
    refine ⟨g, ?_, hg⟩
    simp (disch := omega) only [nlit, nI_add, nI_mul, nI_sub, nI_leI, nI_ltI, nI_eq, nI_inI', nI_inI, nI_lt0', nI_lt0, nI_clamp, nI_div, nI_rem, nI_shl, nI_shr, upd_same, nI_eqm, nI_m1le, nI_m2le, nI_m1lt, nI_m2lt, nI_m2m1, eq_self, not_false_eq_true, not_true_eq_false, if_pos, if_neg, if_true, if_false, Option.bind_some]
  | m + 1, k + 1, i, x, g, hi, h1, hk, hg => by
    rw [fDecoder_learn_66]
    have h2 := hP i (by omega)
    have h3 := hg i h1 (Nat.le_refl _)
    have h4 := hc i (by omega)
    have h5 := ha i (by omega)
    simp (disch := omega) only [nlit, nI_add, nI_mul, nI_sub, nI_leI, nI_ltI, nI_eq, nI_inI', nI_inI, nI_lt0', nI_lt0, nI_clamp, nI_div, nI_rem, nI_shl, nI_shr, upd_same, nI_eqm, nI_m1le, nI_m2le, nI_m1lt, nI_m2lt, nI_m2m1, eq_self, not_false_eq_true, not_true_eq_false, if_pos, if_neg, if_true, if_false, Option.bind_some, h2, h3, nI_subsub]
    rw [← kra_s c (show 0 < i by omega), ← acc_s c (show 0 < i by omega)]
    refine s_learn_66 hP hc ha m k (i + 1) x _ (by omega) (by omega) (by omega) ?_
    intro l hl hl2
    by_cases e : l = i + 1
    · rw [e, upd_same]
    · rw [upd_ne e]
      exact hg l hl (by omega)
theorem s_learn_128 {N : Nat} {x2 n : Nat} {n_p1 : Nat} {f : Nat → Int32} {L : Nat → Nat} (hn1 : n_p1 < 2 ^ 20) (hn : n ≤ 288) (hx : x2 + n ≤ n_p1) (hf : ∀ j, j < n → f (x2 + j) = nI (L j)) (hL : ∀ j, j < n → L j < 16) :
    ∀ (m k i : Nat) (st S : Nat → Int32), i + m = n → m < k → (∀ l, 1 ≤ l → l ≤ 15 → st l = nI (acc (cnt L n) l + cnt L i l)) → (∀ s, s < i → 1 ≤ L s → S (posn L n s) = nI s) →
      ∃ st' S', fDecoder_learn_128 N (nI x2) (nI n) n_p1 f k (nI i) st S = some (st', S') ∧ ∀ s, s < n → 1 ≤ L s → S' (posn L n s) = nI s
  | 0, k + 1, i, st, S, hi, hk, hst, hS => by
    rw [fDecoder_learn_128]
    have e : i = n := by omega
    subst e
    refine ⟨st, S, ?_, hS⟩
    simp (disch := omega) only [nlit, nI_add, nI_mul, nI_sub, nI_leI, nI_ltI, nI_eq, nI_inI', nI_inI, nI_lt0', nI_lt0, nI_clamp, nI_div, nI_rem, nI_shl, nI_shr, upd_same, nI_eqm, nI_m1le, nI_m2le, nI_m1lt, nI_m2lt, nI_m2m1, eq_self, not_false_eq_true, not_true_eq_false, if_pos, if_neg, if_true, if_false, Option.bind_some]
  | m + 1, k + 1, i, st, S, hi, hk, hst, hS => by
    rw [fDecoder_learn_128]
    have h1 := hf i (by omega)
    have h2 := hL i (by omega)
    by_cases h0 : L i = 0
    · simp (disch := omega) only [nlit, nI_add, nI_mul, nI_sub, nI_leI, nI_ltI, nI_eq, nI_inI', nI_inI, nI_lt0', nI_lt0, nI_clamp, nI_div, nI_rem, nI_shl, nI_shr, upd_same, nI_eqm, nI_m1le, nI_m2le, nI_m1lt, nI_m2lt, nI_m2m1, eq_self, not_false_eq_true, not_true_eq_false, if_pos, if_neg, if_true, if_false, Option.bind_some, h1]
      refine s_learn_128 hn1 hn hx hf hL m k (i + 1) st S (by omega) (by omega) ?_ ?_
      · intro l hl hl2
        rw [hst l hl hl2, cnt, if_neg (by omega), Nat.add_zero]
      · intro s hs hs1
        by_cases e : s = i
        · subst e; omega
        · exact hS s (by omega) hs1
    · have h3 := hst (L i) (by omega) (by omega)
      have h4 := posn_n (L := L) (show i < n by omega) (show 1 ≤ L i by omega)
      rw [posn] at h4
      simp (disch := omega) only [nlit, nI_add, nI_mul, nI_sub, nI_leI, nI_ltI, nI_eq, nI_inI', nI_inI, nI_lt0', nI_lt0, nI_clamp, nI_div, nI_rem, nI_shl, nI_shr, upd_same, nI_eqm, nI_m1le, nI_m2le, nI_m1lt, nI_m2lt, nI_m2m1, eq_self, not_false_eq_true, not_true_eq_false, if_pos, if_neg, if_true, if_false, Option.bind_some, h1, h3]
      refine s_learn_128 hn1 hn hx hf hL m k (i + 1) _ _ (by omega) (by omega) ?_ ?_
      · intro l hl hl2
        by_cases e : l = L i
        · rw [e, upd_same, cnt, if_pos rfl, Nat.add_assoc]
        · rw [upd_ne e, hst l hl hl2, cnt, if_neg (Ne.symm e), Nat.add_zero]
      · intro s hs hs1
        by_cases e : s = i
        · subst e
          exact upd_same _ _ _
        · have hne := posn_ne (L := L) (n := n) (show s < i by omega) (by omega) hs1 (show 1 ≤ L i by omega)
          rw [upd_ne (show posn L n s ≠ acc (cnt L n) (L i) + cnt L i (L i) from hne)]
          exact hS s (by omega) hs1
theorem s_fill_5 {N : Nat} {x1 : Int32} {n : Nat} (hn : n < 2 ^ 20) : ∀ (m k i : Nat) (g : Nat → Int32), i + m = n → m < k → (∀ j, j < i → g j = x1) → ∃ g', fJA_fill_5 N n x1 (nI n) k (nI i) g = some g' ∧ ∀ j, j < n → g' j = x1
  | 0, k + 1, i, g, hi, hk, hg => by
    rw [fJA_fill_5]
    have e : i = n := by omega
    subst e
    refine ⟨g, ?_, hg⟩
    simp (disch := omega) only [nlit, nI_add, nI_mul, nI_sub, nI_leI, nI_ltI, nI_eq, nI_inI', nI_inI, nI_lt0', nI_lt0, nI_clamp, nI_div, nI_rem, nI_shl, nI_shr, upd_same, nI_eqm, nI_m1le, nI_m2le, nI_m1lt, nI_m2lt, nI_m2m1, eq_self, not_false_eq_true, not_true_eq_false, if_pos, if_neg, if_true, if_false, Option.bind_some]
  | m + 1, k + 1, i, g, hi, hk, hg => by
    rw [fJA_fill_5]
    simp (disch := omega) only [nlit, nI_add, nI_mul, nI_sub, nI_leI, nI_ltI, nI_eq, nI_inI', nI_inI, nI_lt0', nI_lt0, nI_clamp, nI_div, nI_rem, nI_shl, nI_shr, upd_same, nI_eqm, nI_m1le, nI_m2le, nI_m1lt, nI_m2lt, nI_m2m1, eq_self, not_false_eq_true, not_true_eq_false, if_pos, if_neg, if_true, if_false, Option.bind_some]
    refine s_fill_5 hn m k (i + 1) _ (by omega) (by omega) ?_
    intro j hj
    by_cases e : j = i
    · rw [e, upd_same]
    · rw [upd_ne e]
      exact hg j (by omega)
theorem s_fill {N : Nat} {x1 : Int32} {n : Nat} (hn : n < 2 ^ 20) (hN : n < N) (g : Nat → Int32) : ∃ g', fJA_fill N x1 n g = some g' ∧ ∀ j, j < n → g' j = x1 := by
  obtain ⟨g', h1, h2⟩ := s_fill_5 (N := N) (x1 := x1) hn n N 0 g (by omega) hN (fun j hj => by omega)
  refine ⟨g', ?_, h2⟩
  rw [fJA_fill]
  simp (disch := omega) only [nlit, nI_add, nI_mul, nI_sub, nI_leI, nI_ltI, nI_eq, nI_inI', nI_inI, nI_lt0', nI_lt0, nI_clamp, nI_div, nI_rem, nI_shl, nI_shr, upd_same, nI_eqm, nI_m1le, nI_m2le, nI_m1lt, nI_m2lt, nI_m2m1, eq_self, not_false_eq_true, not_true_eq_false]
  rw [h1]
  rfl
theorem s_learn {N : Nat} (hN : 300 ≤ N) {x2 n : Nat} {n_p1 : Nat} {f : Nat → Int32} {L : Nat → Nat} (hn1 : n_p1 < 2 ^ 20) (hn : n ≤ 288) (hx : x2 + n ≤ n_p1) (hf : ∀ j, j < n → f (x2 + j) = nI (L j)) (hL : ∀ j, j < n → L j < 16) (P0 st0 S0 : Nat → Int32) :
    ∃ P st S, fDecoder_learn N (nI x2) (nI n) P0 n_p1 f st0 S0 = some (nI (acc (cnt L n) 16), nI 32768 - nI (kra (cnt L n) 16), P, st, S) ∧ (∀ l, l < 16 → P l = nI (cnt L n l)) ∧ ∀ s, s < n → 1 ≤ L s → S (posn L n s) = nI s := by
  obtain ⟨g0, e0, h0⟩ := s_fill (N := N) (x1 := 0) (n := 16) (by omega) (by omega) P0
  obtain ⟨P, e1, h1⟩ := s_learn_11 (N := N) hn1 hx hf hL n N 0 g0 (by omega) (by omega) (fun l hl => h0 l hl)
  obtain ⟨st, e2, h2⟩ := s_learn_66 (N := N) h1 (fun l _ => by have := cnt_le L l n; omega) (fun l _ => by have := acc_le L l n; omega) 15 N 1 (nI 32768) (upd st0 1 (nI 0)) (by omega) (by omega) (by omega) (by
    intro l a b
    have e : l = 1 := by omega
    subst e
    rw [upd_same]
    rfl)
  obtain ⟨st', S, e3, h3⟩ := s_learn_128 (N := N) hn1 hn hx hf hL n N 0 st S0 (by omega) (by omega) (fun l a b => by rw [h2 l a (by omega), cnt, Nat.add_zero]) (fun s a _ => by omega)
  refine ⟨P, st', S, ?_, h1, h3⟩
  have hall := acc_all n hL
  have h9 := h1 0 (by omega)
  have e2' : fDecoder_learn_66 N P N (nI 1) (nI 32768) (upd st0 1 (nI 0)) = some (nI 32768 - nI (kra (cnt L n) 16), st) := by
    rw [← e2, show kra (cnt L n) 1 = 0 from rfl, nI_sub (Nat.zero_le _)]
  rw [fDecoder_learn, e0]
  show (fDecoder_learn_11 N (nI x2) (nI n) n_p1 f N (nI 0) g0).bind _ = _
  rw [e1]
  show _ = _
  simp (disch := omega) only [nlit, nI_add, nI_mul, nI_sub, nI_leI, nI_ltI, nI_eq, nI_inI', nI_inI, nI_lt0', nI_lt0, nI_clamp, nI_div, nI_rem, nI_shl, nI_shr, upd_same, nI_eqm, nI_m1le, nI_m2le, nI_m1lt, nI_m2lt, nI_m2m1, eq_self, not_false_eq_true, not_true_eq_false, if_pos, if_neg, if_true, if_false, Option.bind_some, h9, Option.bind_some, e2', e3]
  rw [show n - cnt L n 0 = acc (cnt L n) 16 by omega]
/-- where a table's symbols begin in the reference's row -/
def at0 (t : Nat) : Nat := if t = 0 then 0 else if t = 1 then 288 else 320
theorem s_Mo_sort_3 {N t : Nat} (ht : t ≤ 2) : ∀ (m k i : Nat) (g : Nat → Int32), i + m = 16 → m < k → (∀ l, l < i → g (16 * t + l) = nI 0) →
    ∃ g', fMo_sort_3 N (nI t) k (nI i) g = some g' ∧ (∀ l, l < 16 → g' (16 * t + l) = nI 0) ∧ ∀ j, (j < 16 * t ∨ 16 * t + 16 ≤ j) → g' j = g j
  | 0, k + 1, i, g, hi, hk, hg => by
    rw [fMo_sort_3]
    have e : i = 16 := by omega
    subst e
    refine ⟨g, ?_, hg, fun _ _ => rfl⟩
    simp (disch := omega) only [nlit, nI_add, nI_mul, nI_sub, nI_leI, nI_ltI, nI_eq, nI_inI', nI_inI, nI_lt0', nI_lt0, nI_clamp, nI_div, nI_rem, nI_shl, nI_shr, upd_same, nI_eqm, nI_m1le, nI_m2le, nI_m1lt, nI_m2lt, nI_m2m1, eq_self, not_false_eq_true, not_true_eq_false, if_pos, if_neg, if_true, if_false, Option.bind_some]
  | m + 1, k + 1, i, g, hi, hk, hg => by
    rw [fMo_sort_3]
    simp (disch := omega) only [nlit, nI_add, nI_mul, nI_sub, nI_leI, nI_ltI, nI_eq, nI_inI', nI_inI, nI_lt0', nI_lt0, nI_clamp, nI_div, nI_rem, nI_shl, nI_shr, upd_same, nI_eqm, nI_m1le, nI_m2le, nI_m1lt, nI_m2lt, nI_m2m1, eq_self, not_false_eq_true, not_true_eq_false, if_pos, if_neg, if_true, if_false, Option.bind_some]
    obtain ⟨g', a, b, c⟩ := s_Mo_sort_3 (N := N) ht m k (i + 1) (upd g (16 * t + i) (nI 0)) (by omega) (by omega) (by
      intro j hj
      by_cases e : j = i
      · rw [e, upd_same]
      · rw [upd_ne (by omega)]
        exact hg j (by omega))
    refine ⟨g', a, b, fun j hj => ?_⟩
    rw [c j hj, upd_ne (by omega)]
theorem s_Mo_sort_69 {N x2 n t l : Nat} {n_p1 : Nat} {f : Nat → Int32} {L : Nat → Nat} (ht : t ≤ 2) (hl1 : 1 ≤ l) (hl : l < 16) (hn1 : n_p1 < 2 ^ 20) (hx : x2 + n ≤ n_p1) (hf : ∀ j, j < n → f (x2 + j) = nI (L j)) (hL : ∀ j, j < n → L j < 16) (hb : at0 t + n ≤ 340) :
    ∀ (m k i : Nat) (M S : Nat → Int32), i + m = n → m < k → M (16 * t + l) = nI (cnt L i l) → (∀ s, s < n → 1 ≤ L s → (L s < l ∨ L s = l ∧ s < i) → S (at0 t + posn L n s) = nI s) →
      ∃ M' S', fMo_sort_69 N (nI x2) (nI n) (nI t) (nI l) n_p1 f k (nI (at0 t + (acc (cnt L n) l + cnt L i l))) (nI i) M S = some (nI (at0 t + acc (cnt L n) (l + 1)), M', S') ∧ M' (16 * t + l) = nI (cnt L n l) ∧ (∀ j, j ≠ 16 * t + l → M' j = M j) ∧ (∀ s, s < n → 1 ≤ L s → L s < l + 1 → S' (at0 t + posn L n s) = nI s) ∧ ∀ j, (j < at0 t ∨ at0 t + n ≤ j) → S' j = S j
  | 0, k + 1, i, M, S, hi, hk, hM, hS => by
    rw [fMo_sort_69]
    have e : i = n := by omega
    subst e
    have h0 : at0 t ≤ 320 := by
      unfold at0
      split
      · omega
      · split <;> omega
    have hc := cnt_le L l i
    have ha := acc_le L l i
    have hs := acc_s (cnt L i) (show 0 < l by omega)
    refine ⟨M, S, ?_, hM, fun _ _ => rfl, fun s a b c => hS s a b (by omega), fun _ _ => rfl⟩
    simp (disch := omega) only [nlit, nI_add, nI_mul, nI_sub, nI_leI, nI_ltI, nI_eq, nI_inI', nI_inI, nI_lt0', nI_lt0, nI_clamp, nI_div, nI_rem, nI_shl, nI_shr, upd_same, nI_eqm, nI_m1le, nI_m2le, nI_m1lt, nI_m2lt, nI_m2m1, eq_self, not_false_eq_true, not_true_eq_false, if_pos, if_neg, if_true, if_false, Option.bind_some, hs]
  | m + 1, k + 1, i, M, S, hi, hk, hM, hS => by
    rw [fMo_sort_69]
    have h1 := hf i (by omega)
    have h2 := hL i (by omega)
    have hc := cnt_le L l i
    have hcn := cnt_le L l n
    have ha := acc_le L l n
    by_cases h0 : L i = l
    · have h4 := posn_n (L := L) (show i < n by omega) (show 1 ≤ L i by omega)
      rw [posn, h0] at h4
      simp (disch := omega) only [nlit, nI_add, nI_mul, nI_sub, nI_leI, nI_ltI, nI_eq, nI_inI', nI_inI, nI_lt0', nI_lt0, nI_clamp, nI_div, nI_rem, nI_shl, nI_shr, upd_same, nI_eqm, nI_m1le, nI_m2le, nI_m1lt, nI_m2lt, nI_m2m1, eq_self, not_false_eq_true, not_true_eq_false, if_pos, if_neg, if_true, if_false, Option.bind_some, h1, hM]
      obtain ⟨M', S', e, a, b, c, d⟩ := s_Mo_sort_69 (N := N) ht hl1 hl hn1 hx hf hL hb m k (i + 1) (upd M (16 * t + l) (nI (cnt L i l + 1))) (upd S (at0 t + (acc (cnt L n) l + cnt L i l)) (nI i)) (by omega) (by omega) (by rw [upd_same, cnt, if_pos h0]) (by
        intro s hs hs1 hs2
        by_cases es : s = i
        · subst es
          rw [show posn L n s = acc (cnt L n) l + cnt L s l by rw [posn, h0], upd_same]
        · have hne : posn L n s ≠ acc (cnt L n) l + cnt L i l := by
            have hp : posn L n i = acc (cnt L n) l + cnt L i l := by rw [posn, h0]
            rw [← hp]
            rcases Nat.lt_or_gt_of_ne es with q | q
            · exact posn_ne q (by omega) hs1 (by omega)
            · exact (posn_ne q hs (by omega) hs1).symm
          rw [upd_ne (by omega)]
          exact hS s hs hs1 (by omega))
      rw [cnt, if_pos h0] at e
      exact ⟨M', S', e, a, fun j hj => by rw [b j hj, upd_ne hj], c, fun j hj => by rw [d j hj, upd_ne (by omega)]⟩
    · simp (disch := omega) only [nlit, nI_add, nI_mul, nI_sub, nI_leI, nI_ltI, nI_eq, nI_inI', nI_inI, nI_lt0', nI_lt0, nI_clamp, nI_div, nI_rem, nI_shl, nI_shr, upd_same, nI_eqm, nI_m1le, nI_m2le, nI_m1lt, nI_m2lt, nI_m2m1, eq_self, not_false_eq_true, not_true_eq_false, if_pos, if_neg, if_true, if_false, Option.bind_some, h1]
      obtain ⟨M', S', e, a, b, c, d⟩ := s_Mo_sort_69 (N := N) ht hl1 hl hn1 hx hf hL hb m k (i + 1) M S (by omega) (by omega) (by rw [cnt, if_neg h0, Nat.add_zero, hM]) (by
        intro s hs hs1 hs2
        refine hS s hs hs1 ?_
        rcases hs2 with q | ⟨q, r⟩
        · exact Or.inl q
        · refine Or.inr ⟨q, ?_⟩
          by_cases es : s = i
          · subst es; omega
          · omega)
      rw [cnt, if_neg h0, Nat.add_zero] at e
      exact ⟨M', S', e, a, b, c, d⟩

theorem s_Mo_sort_59 {N x2 n t : Nat} {n_p1 : Nat} {f : Nat → Int32} {L : Nat → Nat} (hN : 300 ≤ N) (hn : n ≤ 288) (ht : t ≤ 2) (hn1 : n_p1 < 2 ^ 20) (hx : x2 + n ≤ n_p1) (hf : ∀ j, j < n → f (x2 + j) = nI (L j)) (hL : ∀ j, j < n → L j < 16) (hb : at0 t + n ≤ 340) :
    ∀ (m k l : Nat) (M S : Nat → Int32), l + m = 16 → 1 ≤ l → m < k → (∀ j, 1 ≤ j → j < l → M (16 * t + j) = nI (cnt L n j)) → (∀ j, l ≤ j → j < 16 → M (16 * t + j) = nI 0) → (∀ s, s < n → 1 ≤ L s → L s < l → S (at0 t + posn L n s) = nI s) →
      ∃ M' S', fMo_sort_59 N (nI x2) (nI n) (nI t) n_p1 f k (nI (at0 t + acc (cnt L n) l)) (nI l) M S = some (M', S') ∧ (∀ j, 1 ≤ j → j < 16 → M' (16 * t + j) = nI (cnt L n j)) ∧ (∀ j, (j < 16 * t ∨ 16 * t + 16 ≤ j) → M' j = M j) ∧ (∀ s, s < n → 1 ≤ L s → S' (at0 t + posn L n s) = nI s) ∧ ∀ j, (j < at0 t ∨ at0 t + n ≤ j) → S' j = S j
  | 0, k + 1, l, M, S, hi, h1, hk, hM, hM0, hS => by
    rw [fMo_sort_59]
    have e : l = 16 := by omega
    subst e
    refine ⟨M, S, ?_, hM, fun _ _ => rfl, fun s a b => hS s a b (hL s a), fun _ _ => rfl⟩
    simp (disch := omega) only [nlit, nI_add, nI_mul, nI_sub, nI_leI, nI_ltI, nI_eq, nI_inI', nI_inI, nI_lt0', nI_lt0, nI_clamp, nI_div, nI_rem, nI_shl, nI_shr, upd_same, nI_eqm, nI_m1le, nI_m2le, nI_m1lt, nI_m2lt, nI_m2m1, eq_self, not_false_eq_true, not_true_eq_false, if_pos, if_neg, if_true, if_false, Option.bind_some]
  | m + 1, k + 1, l, M, S, hi, h1, hk, hM, hM0, hS => by
    rw [fMo_sort_59]
    obtain ⟨M1, S1, e1, a1, b1, c1, d1⟩ := s_Mo_sort_69 (N := N) ht h1 (show l < 16 by omega) hn1 hx hf hL hb n N 0 M S (by omega) (by omega) (hM0 l (Nat.le_refl _) (by omega)) (fun s p q r => hS s p q (by omega))
    obtain ⟨M', S', e, a, b, c, d⟩ := s_Mo_sort_59 (N := N) hN hn ht hn1 hx hf hL hb m k (l + 1) M1 S1 (by omega) (by omega) (by omega) (by
        intro j p q
        by_cases ej : j = l
        · rw [ej]; exact a1
        · rw [b1 _ (by omega)]
          exact hM j p (by omega)) (fun j p q => by rw [b1 _ (by omega)]; exact hM0 j (by omega) q) c1
    refine ⟨M', S', ?_, a, fun j hj => by rw [b j hj, b1 j (by omega)], c, fun j hj => by rw [d j hj, d1 j hj]⟩
    simp (disch := omega) only [nlit, nI_add, nI_mul, nI_sub, nI_leI, nI_ltI, nI_eq, nI_inI', nI_inI, nI_lt0', nI_lt0, nI_clamp, nI_div, nI_rem, nI_shl, nI_shr, upd_same, nI_eqm, nI_m1le, nI_m2le, nI_m1lt, nI_m2lt, nI_m2m1, eq_self, not_false_eq_true, not_true_eq_false, if_pos, if_neg, if_true, if_false, Option.bind_some]
    rw [show acc (cnt L n) l = acc (cnt L n) l + cnt L 0 l from rfl, e1]
    exact e
theorem s_Mo_sort {N x2 n t : Nat} {n_p1 : Nat} {f : Nat → Int32} {L : Nat → Nat} (hN : 300 ≤ N) (hn : n ≤ 288) (ht : t ≤ 2) (hn1 : n_p1 < 2 ^ 20) (hx : x2 + n ≤ n_p1) (hf : ∀ j, j < n → f (x2 + j) = nI (L j)) (hL : ∀ j, j < n → L j < 16) (hb : at0 t + n ≤ 340) (M S : Nat → Int32) :
      ∃ M' S', fMo_sort N (nI x2) (nI n) (nI t) M n_p1 f S = some (M', S') ∧ (∀ j, 1 ≤ j → j < 16 → M' (16 * t + j) = nI (cnt L n j)) ∧ (∀ j, (j < 16 * t ∨ 16 * t + 16 ≤ j) → M' j = M j) ∧ (∀ s, s < n → 1 ≤ L s → S' (at0 t + posn L n s) = nI s) ∧ ∀ j, (j < at0 t ∨ at0 t + n ≤ j) → S' j = S j := by
  obtain ⟨M0, e0, a0, b0⟩ := s_Mo_sort_3 (N := N) ht 16 N 0 M (by omega) (by omega) (fun l hl => by omega)
  obtain ⟨M', S', e, a, b, c, d⟩ := s_Mo_sort_59 (N := N) hN hn ht hn1 hx hf hL hb 15 N 1 M0 S (by omega) (by omega) (by omega) (fun j p q => by omega) (fun j p q => a0 j q) (fun s p q r => by omega)
  refine ⟨M', S', ?_, a, fun j hj => by rw [b j hj, b0 j hj], c, d⟩
  rw [fMo_sort]
  rw [show (0 : Int32) = nI 0 from rfl, e0]
  show Option.bind (fMo_sort_59 N (nI x2) (nI n) (nI t) n_p1 f N (if nI t = nI 0 then nI 0 else if nI t = nI 1 then nI 288 else nI 320) (nI 1) M0 S) _ = _
  rw [show (if nI t = nI 0 then nI 0 else if nI t = nI 1 then nI 288 else nI 320) = nI (at0 t + acc (cnt L n) 1) by
    rw [acc_1, at0]
    simp (disch := omega) only [nlit, nI_add, nI_mul, nI_sub, nI_leI, nI_ltI, nI_eq, nI_inI', nI_inI, nI_lt0', nI_lt0, nI_clamp, nI_div, nI_rem, nI_shl, nI_shr, upd_same, nI_eqm, nI_m1le, nI_m2le, nI_m1lt, nI_m2lt, nI_m2m1, eq_self, not_false_eq_true, not_true_eq_false]
    split
    · rfl
    · split <;> rfl]
  rw [e]
  rfl
