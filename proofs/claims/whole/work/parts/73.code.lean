/-! Canonical codes, to write with. -/
def fc (c : Nat → Nat) : Nat → Nat
  | 0 => 0
  | l + 1 => if l = 0 then 0 else 2 * (fc c l + c l)
theorem fc_s (c : Nat → Nat) {l : Nat} (h : 0 < l) : fc c (l + 1) = 2 * (fc c l + c l) := by
  rw [fc, if_neg (by omega)]
theorem fc_1 (c : Nat → Nat) : fc c 1 = 0 := rfl
theorem fc_le (c : Nat → Nat) : ∀ l, fc c l ≤ acc c l * 2 ^ l
  | 0 => Nat.zero_le _
  | l + 1 => by
    have ih := fc_le c l
    by_cases h : l = 0
    · subst h
      exact Nat.zero_le _
    · rw [fc_s c (by omega), acc_s c (by omega), Nat.pow_succ, Nat.add_mul]
      have h1 : 1 ≤ 2 ^ l := Nat.one_le_two_pow
      have h2 : c l * 2 ≤ c l * (2 ^ l * 2) := Nat.mul_le_mul_left _ (by omega)
      have h3 : acc c l * (2 ^ l * 2) = 2 * (acc c l * 2 ^ l) := by
        rw [← Nat.mul_assoc, Nat.mul_comm]
      omega
/-- a symbol's code -/
def codeV (L : Nat → Nat) (n s : Nat) : Nat := fc (cnt L n) (L s) + cnt L s (L s)
/-- the first k bits of v, the lowest first, as a number that has the first highest -/
def rvv (v : Nat) : Nat → Nat
  | 0 => 0
  | k + 1 => 2 * rvv v k + v / 2 ^ k % 2
theorem rvv_lt (v : Nat) : ∀ k, rvv v k < 2 ^ k
  | 0 => Nat.zero_lt_one
  | k + 1 => by
    have := rvv_lt v k
    rw [rvv, Nat.pow_succ]
    omega
theorem and1N {a : Nat} (h : a < 2 ^ 31) : nI a &&& nI 1 = nI (a % 2) := pk_andN (by omega) 1 (by decide)
theorem s_turn_4 {N v n : Nat} (hv : v < 2 ^ 31) (hn : n ≤ 16) : ∀ (m k i : Nat), i + m = n → m < k → fCode_turnRound_4 N (nI v) (nI n) k (nI (rvv v i)) (nI i) = some (nI (rvv v n))
  | 0, k + 1, i, hi, hk => by
    rw [fCode_turnRound_4]
    have e : i = n := by omega
    subst e
    simp (disch := omega) only [nlit, nI_add, nI_mul, nI_sub, nI_leI, nI_ltI, nI_eq, nI_inI', nI_inI, nI_lt0', nI_lt0, nI_clamp, nI_div, nI_rem, nI_shl, nI_shr, upd_same, nI_eqm, nI_m1le, nI_m2le, nI_m1lt, nI_m2lt, nI_m2m1, eq_self, not_false_eq_true, not_true_eq_false, if_pos, if_neg, if_true, if_false, Option.bind_some]
  | m + 1, k + 1, i, hi, hk => by
    rw [fCode_turnRound_4]
    have hd : v / 2 ^ i ≤ v := Nat.div_le_self _ _
    have hb : v / 2 ^ i % 2 ≤ 1 := by omega
    simp (disch := omega) only [nlit, nI_add, nI_mul, nI_sub, nI_leI, nI_ltI, nI_eq, nI_inI', nI_inI, nI_lt0', nI_lt0, nI_clamp, nI_div, nI_rem, nI_shl, nI_shr, upd_same, nI_eqm, nI_m1le, nI_m2le, nI_m1lt, nI_m2lt, nI_m2m1, eq_self, not_false_eq_true, not_true_eq_false, if_pos, if_neg, if_true, if_false, Option.bind_some, and1N, or1]
    exact s_turn_4 hv hn m k (i + 1) (by omega) (by omega)
theorem s_turn {N v n : Nat} (hN : 20 ≤ N) (hv : v < 2 ^ 31) (hn : n ≤ 16) : fCode_turnRound N (nI v) (nI n) = some (nI (rvv v n)) := by
  rw [fCode_turnRound, show fCode_turnRound_4 N (nI v) (nI n) N (0 : Int32) (0 : Int32) = some (nI (rvv v n)) from s_turn_4 hv hn n N 0 (by omega) (by omega)]
  rfl
theorem s_number_10 {N n : Nat} {f : Nat → Int32} {L : Nat → Nat} (hn : n ≤ 288) (hf : ∀ j, j < n → f j = nI (L j)) (hL : ∀ j, j < n → L j < 16) :
    ∀ (m k i : Nat) (g : Nat → Int32), i + m = n → m < k → g 1 = nI 0 → (∀ l, 1 ≤ l → l < 16 → g (l + 1) = nI (cnt L i l)) → ∃ g', fCode_number_10 N n f k (nI i) g = some g' ∧ g' 1 = nI 0 ∧ ∀ l, 1 ≤ l → l < 16 → g' (l + 1) = nI (cnt L n l)
  | 0, k + 1, i, g, hi, hk, h0, hg => by
    rw [fCode_number_10]
    have e : i = n := by omega
    subst e
    refine ⟨g, ?_, h0, hg⟩
    simp (disch := omega) only [nlit, nI_add, nI_mul, nI_sub, nI_leI, nI_ltI, nI_eq, nI_inI', nI_inI, nI_lt0', nI_lt0, nI_clamp, nI_div, nI_rem, nI_shl, nI_shr, upd_same, nI_eqm, nI_m1le, nI_m2le, nI_m1lt, nI_m2lt, nI_m2m1, eq_self, not_false_eq_true, not_true_eq_false, if_pos, if_neg, if_true, if_false, Option.bind_some]
  | m + 1, k + 1, i, g, hi, hk, h0, hg => by
    rw [fCode_number_10]
    have h1 := hf i (by omega)
    have h2 := hL i (by omega)
    by_cases hz : L i = 0
    · simp (disch := omega) only [nlit, nI_add, nI_mul, nI_sub, nI_leI, nI_ltI, nI_eq, nI_inI', nI_inI, nI_lt0', nI_lt0, nI_clamp, nI_div, nI_rem, nI_shl, nI_shr, upd_same, nI_eqm, nI_m1le, nI_m2le, nI_m1lt, nI_m2lt, nI_m2m1, eq_self, not_false_eq_true, not_true_eq_false, if_pos, if_neg, if_true, if_false, Option.bind_some, h1]
      refine s_number_10 hn hf hL m k (i + 1) g (by omega) (by omega) h0 ?_
      intro l a b
      rw [hg l a b, cnt, if_neg (by omega), Nat.add_zero]
    · have h3 := hg (L i) (by omega) h2
      have h4 := cnt_le L (L i) i
      simp (disch := omega) only [nlit, nI_add, nI_mul, nI_sub, nI_leI, nI_ltI, nI_eq, nI_inI', nI_inI, nI_lt0', nI_lt0, nI_clamp, nI_div, nI_rem, nI_shl, nI_shr, upd_same, nI_eqm, nI_m1le, nI_m2le, nI_m1lt, nI_m2lt, nI_m2m1, eq_self, not_false_eq_true, not_true_eq_false, if_pos, if_neg, if_true, if_false, Option.bind_some, h1, h3]
      refine s_number_10 hn hf hL m k (i + 1) _ (by omega) (by omega) (by rw [upd_ne (by omega)]; exact h0) ?_
      intro l a b
      by_cases e : l = L i
      · rw [e, upd_same, cnt, if_pos rfl]
      · rw [upd_ne (by omega), hg l a b, cnt, if_neg (Ne.symm e), Nat.add_zero]
theorem s_number_53 {N : Nat} {c : Nat → Nat} (hc : acc c 16 ≤ 288) : ∀ (m k i : Nat) (g : Nat → Int32), i + m = 17 → 2 ≤ i → m < k → (∀ l, 1 ≤ l → l < i → g l = nI (fc c l)) → (∀ l, i ≤ l → l < 17 → g l = nI (c (l - 1))) → ∃ g', fCode_number_53 N k (nI i) g = some g' ∧ ∀ l, 1 ≤ l → l < 17 → g' l = nI (fc c l)
  | 0, k + 1, i, g, hi, h2, hk, hg, hh => by
    rw [fCode_number_53]
    have e : i = 17 := by omega
    subst e
    refine ⟨g, ?_, hg⟩
    simp (disch := omega) only [nlit, nI_add, nI_mul, nI_sub, nI_leI, nI_ltI, nI_eq, nI_inI', nI_inI, nI_lt0', nI_lt0, nI_clamp, nI_div, nI_rem, nI_shl, nI_shr, upd_same, nI_eqm, nI_m1le, nI_m2le, nI_m1lt, nI_m2lt, nI_m2m1, eq_self, not_false_eq_true, not_true_eq_false, if_pos, if_neg, if_true, if_false, Option.bind_some]
  | m + 1, k + 1, i, g, hi, h2, hk, hg, hh => by
    rw [fCode_number_53]
    have h3 := hg (i - 1) (by omega) (by omega)
    have h4 := hh i (by omega) (by omega)
    have h5 := fc_s c (show 0 < i - 1 by omega)
    rw [show i - 1 + 1 = i by omega] at h5
    simp (disch := omega) only [nlit, nI_add, nI_mul, nI_sub, nI_leI, nI_ltI, nI_eq, nI_inI', nI_inI, nI_lt0', nI_lt0, nI_clamp, nI_div, nI_rem, nI_shl, nI_shr, upd_same, nI_eqm, nI_m1le, nI_m2le, nI_m1lt, nI_m2lt, nI_m2m1, eq_self, not_false_eq_true, not_true_eq_false, if_pos, if_neg, if_true, if_false, Option.bind_some, h3, h4]
    rw [show (fc c (i - 1) + c (i - 1)) * 2 = fc c i by omega]
    refine s_number_53 hc m k (i + 1) _ (by omega) (by omega) (by omega) ?_ ?_
    · intro l a b
      by_cases e : l = i
      · rw [e, upd_same]
      · rw [upd_ne e]
        exact hg l a (by omega)
    · intro l a b
      rw [upd_ne (by omega)]
      exact hh l (by omega) b
theorem codeV_lt {L : Nat → Nat} {n s : Nat} (hn : n ≤ 288) (hs : s < n) (hL : L s < 16) : codeV L n s < 2 ^ 26 := by
  have h1 := fc_le (cnt L n) (L s)
  have h2 := cnt_le L (L s) s
  have h3 := acc_le L (L s) n
  have h4 : 2 ^ L s ≤ 2 ^ 16 := Nat.pow_le_pow_right (by decide) (by omega)
  have h5 : acc (cnt L n) (L s) * 2 ^ L s ≤ 288 * 2 ^ 16 := Nat.mul_le_mul (by omega) h4
  rw [codeV]
  omega
theorem s_number_93 {N n : Nat} {f : Nat → Int32} {L : Nat → Nat} (hN : 300 ≤ N) (hn : n ≤ 288) (hf : ∀ j, j < n → f j = nI (L j)) (hL : ∀ j, j < n → L j < 16) :
    ∀ (m k i : Nat) (g b : Nat → Int32), i + m = n → m < k → (∀ l, 1 ≤ l → l < 16 → g l = nI (fc (cnt L n) l + cnt L i l)) → (∀ s, s < i → 1 ≤ L s → b s = nI (rvv (codeV L n s) (L s))) → ∃ g' b', fCode_number_93 N n f n k (nI i) g b = some (g', b') ∧ ∀ s, s < n → 1 ≤ L s → b' s = nI (rvv (codeV L n s) (L s))
  | 0, k + 1, i, g, b, hi, hk, hg, hb => by
    rw [fCode_number_93]
    have e : i = n := by omega
    subst e
    refine ⟨g, b, ?_, hb⟩
    simp (disch := omega) only [nlit, nI_add, nI_mul, nI_sub, nI_leI, nI_ltI, nI_eq, nI_inI', nI_inI, nI_lt0', nI_lt0, nI_clamp, nI_div, nI_rem, nI_shl, nI_shr, upd_same, nI_eqm, nI_m1le, nI_m2le, nI_m1lt, nI_m2lt, nI_m2m1, eq_self, not_false_eq_true, not_true_eq_false, if_pos, if_neg, if_true, if_false, Option.bind_some]
  | m + 1, k + 1, i, g, b, hi, hk, hg, hb => by
    rw [fCode_number_93]
    have h1 := hf i (by omega)
    have h2 := hL i (by omega)
    by_cases hz : L i = 0
    · simp (disch := omega) only [nlit, nI_add, nI_mul, nI_sub, nI_leI, nI_ltI, nI_eq, nI_inI', nI_inI, nI_lt0', nI_lt0, nI_clamp, nI_div, nI_rem, nI_shl, nI_shr, upd_same, nI_eqm, nI_m1le, nI_m2le, nI_m1lt, nI_m2lt, nI_m2m1, eq_self, not_false_eq_true, not_true_eq_false, if_pos, if_neg, if_true, if_false, Option.bind_some, h1]
      refine s_number_93 hN hn hf hL m k (i + 1) g b (by omega) (by omega) ?_ ?_
      · intro l p q
        rw [hg l p q, cnt, if_neg (by omega), Nat.add_zero]
      · intro s p q
        by_cases e : s = i
        · subst e; omega
        · exact hb s (by omega) q
    · have h3 := hg (L i) (by omega) h2
      have h4 := codeV_lt (L := L) hn (show i < n by omega) h2
      rw [show fc (cnt L n) (L i) + cnt L i (L i) = codeV L n i from rfl] at h3
      have ht := s_turn (N := N) (v := codeV L n i) (n := L i) (by omega) (by omega) (by omega)
      simp (disch := omega) only [nlit, nI_add, nI_mul, nI_sub, nI_leI, nI_ltI, nI_eq, nI_inI', nI_inI, nI_lt0', nI_lt0, nI_clamp, nI_div, nI_rem, nI_shl, nI_shr, upd_same, nI_eqm, nI_m1le, nI_m2le, nI_m1lt, nI_m2lt, nI_m2m1, eq_self, not_false_eq_true, not_true_eq_false, if_pos, if_neg, if_true, if_false, Option.bind_some, h1, h3, ht]
      refine s_number_93 hN hn hf hL m k (i + 1) _ _ (by omega) (by omega) ?_ ?_
      · intro l p q
        by_cases e : l = L i
        · rw [e, upd_same, cnt, if_pos rfl, codeV, Nat.add_assoc]
        · rw [upd_ne (by omega), hg l p q, cnt, if_neg (Ne.symm e), Nat.add_zero]
      · intro s p q
        by_cases e : s = i
        · rw [e, upd_same]
        · rw [upd_ne e]
          exact hb s (by omega) q
/-- the bits of a class's code -/
def codeT (n : Nat) (L : Nat → Nat) (b : Nat → Int32) : Prop := ∀ s, s < n → 1 ≤ L s → b s = nI (rvv (codeV L n s) (L s))
theorem s_number {N n : Nat} {f : Nat → Int32} {L : Nat → Nat} (hN : 300 ≤ N) (hn : n ≤ 288) (hf : ∀ j, j < n → f j = nI (L j)) (hL : ∀ j, j < n → L j < 16) (g b : Nat → Int32) : ∃ g' b', fCode_number N g n f n b = some (g', b') ∧ codeT n L b' := by
  obtain ⟨g0, a1, a2⟩ := s_fill (N := N) (x1 := 0) (n := 17) (by omega) (by omega) g
  obtain ⟨g1, b1, b2, b3⟩ := s_number_10 (N := N) hn hf hL n N 0 g0 (by omega) (by omega) (a2 1 (by omega)) (fun l p q => a2 (l + 1) (by omega))
  obtain ⟨g2, c1, c2⟩ := s_number_53 (N := N) (c := cnt L n) (Nat.le_trans (acc_le L 16 n) hn) 15 N 2 g1 (by omega) (by omega) (by omega) (fun l p q => by
    have e : l = 1 := by omega
    subst e
    exact b2) (fun l p q => by
    have := b3 (l - 1) (by omega) (by omega)
    rw [show l - 1 + 1 = l by omega] at this
    exact this)
  obtain ⟨g3, b', d1, d2⟩ := s_number_93 (N := N) hN hn hf hL n N 0 g2 b (by omega) (by omega) (fun l p q => by rw [c2 l p (by omega), cnt, Nat.add_zero]) (fun s p q => by omega)
  refine ⟨g3, b', ?_, d2⟩
  rw [fCode_number, a1, Option.bind_some]
  rw [show fCode_number_10 N n f N (0 : Int32) g0 = some g1 from b1, Option.bind_some]
  rw [show fCode_number_53 N N (2 : Int32) g1 = some g2 from c1, Option.bind_some]
  rw [show fCode_number_93 N n f n N (0 : Int32) g2 b = some (g3, b') from d1]
  rfl
theorem s_Mo_number_3 {N : Nat} : ∀ (m k i : Nat) (g : Nat → Int32), i + m = 17 → m < k → ∃ g', fMo_number_3 N k (nI i) g = some g'
  | 0, k + 1, i, g, hi, hk => by
    rw [fMo_number_3]
    have e : i = 17 := by omega
    subst e
    refine ⟨g, ?_⟩
    simp (disch := omega) only [nlit, nI_add, nI_mul, nI_sub, nI_leI, nI_ltI, nI_eq, nI_inI', nI_inI, nI_lt0', nI_lt0, nI_clamp, nI_div, nI_rem, nI_shl, nI_shr, upd_same, nI_eqm, nI_m1le, nI_m2le, nI_m1lt, nI_m2lt, nI_m2m1, eq_self, not_false_eq_true, not_true_eq_false, if_pos, if_neg, if_true, if_false, Option.bind_some]
  | m + 1, k + 1, i, g, hi, hk => by
    rw [fMo_number_3]
    simp (disch := omega) only [nlit, nI_add, nI_mul, nI_sub, nI_leI, nI_ltI, nI_eq, nI_inI', nI_inI, nI_lt0', nI_lt0, nI_clamp, nI_div, nI_rem, nI_shl, nI_shr, upd_same, nI_eqm, nI_m1le, nI_m2le, nI_m1lt, nI_m2lt, nI_m2m1, eq_self, not_false_eq_true, not_true_eq_false, if_pos, if_neg, if_true, if_false, Option.bind_some]
    exact s_Mo_number_3 m k (i + 1) _ (by omega) (by omega)
theorem s_Mo_number_46 {N x3 n l n1 n2 B : Nat} {f : Nat → Int32} {L : Nat → Nat} (hn1 : n1 < 2 ^ 20) (hx : x3 + n ≤ n1) (hn2 : n1 ≤ n2) (hn3 : n2 < 2 ^ 20) (hf : ∀ j, j < n → f (x3 + j) = nI (L j)) (hl : l < 16) (hL : ∀ j, j < n → L j < 16) (hB : B < 2 ^ 30) :
    ∀ (m k i : Nat) (b : Nat → Int32), i + m = n → m < k → (∀ s, s < i → L s = l → b (x3 + s) = nI (B + cnt L s l)) → ∃ b', fMo_number_46 N (nI x3) (nI n) (nI l) n1 f n2 k (nI (B + cnt L i l)) (nI i) b = some (nI (B + cnt L n l), b') ∧ (∀ s, s < n → L s = l → b' (x3 + s) = nI (B + cnt L s l)) ∧ ∀ j, (∀ s, s < n → L s = l → j ≠ x3 + s) → b' j = b j
  | 0, k + 1, i, b, hi, hk, hb => by
    rw [fMo_number_46]
    have e : i = n := by omega
    subst e
    refine ⟨b, ?_, hb, fun _ _ => rfl⟩
    simp (disch := omega) only [nlit, nI_add, nI_mul, nI_sub, nI_leI, nI_ltI, nI_eq, nI_inI', nI_inI, nI_lt0', nI_lt0, nI_clamp, nI_div, nI_rem, nI_shl, nI_shr, upd_same, nI_eqm, nI_m1le, nI_m2le, nI_m1lt, nI_m2lt, nI_m2m1, eq_self, not_false_eq_true, not_true_eq_false, if_pos, if_neg, if_true, if_false, Option.bind_some]
  | m + 1, k + 1, i, b, hi, hk, hb => by
    rw [fMo_number_46]
    have h1 := hf i (by omega)
    have h2 := hL i (by omega)
    have h3 := cnt_le L l i
    by_cases hz : L i = l
    · obtain ⟨b', p, q, r⟩ := s_Mo_number_46 (N := N) hn1 hx hn2 hn3 hf hl hL hB m k (i + 1) (upd b (x3 + i) (nI (B + cnt L i l))) (by omega) (by omega) (by
        intro s u v
        by_cases e : s = i
        · rw [e, upd_same]
        · rw [upd_ne (by omega)]
          exact hb s (by omega) v)
      refine ⟨b', ?_, q, fun j hj => by rw [r j hj, upd_ne (hj i (by omega) hz)]⟩
      rw [cnt, if_pos hz, ← Nat.add_assoc] at p
      simp (disch := omega) only [nlit, nI_add, nI_mul, nI_sub, nI_leI, nI_ltI, nI_eq, nI_inI', nI_inI, nI_lt0', nI_lt0, nI_clamp, nI_div, nI_rem, nI_shl, nI_shr, upd_same, nI_eqm, nI_m1le, nI_m2le, nI_m1lt, nI_m2lt, nI_m2m1, eq_self, not_false_eq_true, not_true_eq_false, if_pos, if_neg, if_true, if_false, Option.bind_some, h1]
      exact p
    · obtain ⟨b', p, q, r⟩ := s_Mo_number_46 (N := N) hn1 hx hn2 hn3 hf hl hL hB m k (i + 1) b (by omega) (by omega) (by
        intro s u v
        by_cases e : s = i
        · subst e; exact absurd v hz
        · exact hb s (by omega) v)
      refine ⟨b', ?_, q, r⟩
      rw [cnt, if_neg hz, Nat.add_zero] at p
      simp (disch := omega) only [nlit, nI_add, nI_mul, nI_sub, nI_leI, nI_ltI, nI_eq, nI_inI', nI_inI, nI_lt0', nI_lt0, nI_clamp, nI_div, nI_rem, nI_shl, nI_shr, upd_same, nI_eqm, nI_m1le, nI_m2le, nI_m1lt, nI_m2lt, nI_m2m1, eq_self, not_false_eq_true, not_true_eq_false, if_pos, if_neg, if_true, if_false, Option.bind_some, h1]
      exact p
theorem s_Mo_number_30 {N x3 n n1 n2 : Nat} {f : Nat → Int32} {L : Nat → Nat} (hN : 300 ≤ N) (hn : n ≤ 288) (hn1 : n1 < 2 ^ 20) (hx : x3 + n ≤ n1) (hn2 : n1 ≤ n2) (hn3 : n2 < 2 ^ 20) (hf : ∀ j, j < n → f (x3 + j) = nI (L j)) (hL : ∀ j, j < n → L j < 16) :
    ∀ (m k l : Nat) (nx : Nat) (b : Nat → Int32), l + m = 16 → 1 ≤ l → m < k → 2 * nx = fc (cnt L n) l → (∀ s, s < n → 1 ≤ L s → L s < l → b (x3 + s) = nI (codeV L n s)) → ∃ b', fMo_number_30 N (nI x3) (nI n) n1 f n2 k (nI nx) (nI l) b = some b' ∧ (∀ s, s < n → 1 ≤ L s → b' (x3 + s) = nI (codeV L n s)) ∧ ∀ j, (∀ s, s < n → 1 ≤ L s → j ≠ x3 + s) → b' j = b j
  | 0, k + 1, l, nx, b, hi, h1, hk, hnx, hb => by
    rw [fMo_number_30]
    have e : l = 16 := by omega
    subst e
    refine ⟨b, ?_, fun s p q => hb s p q (hL s p), fun _ _ => rfl⟩
    simp (disch := omega) only [nlit, nI_add, nI_mul, nI_sub, nI_leI, nI_ltI, nI_eq, nI_inI', nI_inI, nI_lt0', nI_lt0, nI_clamp, nI_div, nI_rem, nI_shl, nI_shr, upd_same, nI_eqm, nI_m1le, nI_m2le, nI_m1lt, nI_m2lt, nI_m2m1, eq_self, not_false_eq_true, not_true_eq_false, if_pos, if_neg, if_true, if_false, Option.bind_some]
  | m + 1, k + 1, l, nx, b, hi, h1, hk, hnx, hb => by
    rw [fMo_number_30]
    have hfl := fc_le (cnt L n) l
    have ha := acc_le L l n
    have hpw : 2 ^ l ≤ 2 ^ 16 := Nat.pow_le_pow_right (by decide) (by omega)
    have hml : acc (cnt L n) l * 2 ^ l ≤ 288 * 2 ^ 16 := Nat.mul_le_mul (by omega) hpw
    obtain ⟨b1, p1, q1, r1⟩ := s_Mo_number_46 (N := N) (B := 2 * nx) (l := l) hn1 hx hn2 hn3 hf (by omega) hL (by omega) n N 0 b (by omega) (by omega) (fun s u v => by omega)
    obtain ⟨b', p, q, r⟩ := s_Mo_number_30 (N := N) hN hn hn1 hx hn2 hn3 hf hL m k (l + 1) (2 * nx + cnt L n l) b1 (by omega) (by omega) (by omega) (by rw [fc_s _ (by omega), hnx]) (by
      intro s u v w
      by_cases e : L s = l
      · rw [q1 s u e, codeV, e, hnx]
      · rw [r1 (x3 + s) (fun t ht1 ht2 => by intro h; have : s = t := by omega
                                             subst this; exact e ht2)]
        exact hb s u v (by omega))
    refine ⟨b', ?_, q, fun j hj => by rw [r j hj, r1 j (fun s u v => hj s u (by omega))]⟩
    have p1' : fMo_number_46 N (nI x3) (nI n) (nI l) n1 f n2 N (nI (2 * nx)) (nI 0) b = some (nI (2 * nx + cnt L n l), b1) := p1
    simp (disch := omega) only [nlit, nI_add, nI_mul, nI_sub, nI_leI, nI_ltI, nI_eq, nI_inI', nI_inI, nI_lt0', nI_lt0, nI_clamp, nI_div, nI_rem, nI_shl, nI_shr, upd_same, nI_eqm, nI_m1le, nI_m2le, nI_m1lt, nI_m2lt, nI_m2m1, eq_self, not_false_eq_true, not_true_eq_false, if_pos, if_neg, if_true, if_false, Option.bind_some, p1']
    exact p
theorem s_Mo_number {N x3 n n1 n2 : Nat} {f : Nat → Int32} {L : Nat → Nat} (hN : 300 ≤ N) (hn : n ≤ 288) (hn1 : n1 < 2 ^ 20) (hx : x3 + n ≤ n1) (hn2 : n1 ≤ n2) (hn3 : n2 < 2 ^ 20) (hf : ∀ j, j < n → f (x3 + j) = nI (L j)) (hL : ∀ j, j < n → L j < 16) (fi b : Nat → Int32) : ∃ fi' b', fMo_number N (nI x3) (nI n) fi n1 f n2 b = some (fi', b') ∧ (∀ s, s < n → 1 ≤ L s → b' (x3 + s) = nI (codeV L n s)) ∧ ∀ j, (j < x3 ∨ x3 + n ≤ j) → b' j = b j := by
  obtain ⟨fi', a⟩ := s_Mo_number_3 (N := N) 17 N 0 fi (by omega) (by omega)
  obtain ⟨b', p, q, r⟩ := s_Mo_number_30 (N := N) hN hn hn1 hx hn2 hn3 hf hL 15 N 1 0 b (by omega) (by omega) (by omega) rfl (fun s u v w => by omega)
  refine ⟨fi', b', ?_, q, fun j hj => r j (fun s u v => by omega)⟩
  rw [fMo_number, show fMo_number_3 N N (0 : Int32) fi = some fi' from a, Option.bind_some]
  rw [show fMo_number_30 N (nI x3) (nI n) n1 f n2 N (0 : Int32) (1 : Int32) b = some b' from p]
  rfl
