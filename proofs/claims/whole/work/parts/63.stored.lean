/-! Reading: stored blocks. -/
theorem tk_s (f : Nat → Int32) (p m : Nat) : tk f p (m + 1) = tk f p m + rb f (p + m) * 2 ^ m := rfl
theorem tk_bit (f : Nat → Int32) (p : Nat) : ∀ (m i : Nat), (tk f p m).testBit i = (decide (i < m) && decide (rb f (p + i) = 1))
  | 0, i => by simp [tk]
  | m + 1, i => by
    have h1 := tk_lt f p m
    have h2 := rb_le f (p + m)
    rw [tk_s, ← or_add h1, Nat.testBit_or, tk_bit f p m i]
    rw [show rb f (p + m) * 2 ^ m = rb f (p + m) <<< m from (Nat.shiftLeft_eq _ _).symm, Nat.testBit_shiftLeft]
    rcases Nat.lt_trichotomy i m with h | h | h
    · simp [h, Nat.not_le.mpr h, show i < m + 1 by omega]
    · subst h
      rcases (show rb f (p + i) = 0 ∨ rb f (p + i) = 1 by omega) with e | e <;> simp [e]
    · have e : (rb f (p + m)).testBit (i - m) = false := Nat.testBit_lt_two_pow (Nat.lt_of_le_of_lt h2 (by
        have : 2 ^ 1 ≤ 2 ^ (i - m) := Nat.pow_le_pow_right (by decide) (by omega)
        omega))
      simp [e, Nat.not_lt.mpr (Nat.le_of_lt h), show ¬ i < m + 1 by omega]
theorem tk_byte (f : Nat → Int32) (q : Nat) : (nI (tk f (8 * q) 8)).toInt8 = (f q).toInt8 := by
  apply bt8
  intro i hi
  rw [bt_nI _ _ (by omega), tk_bit, decide_eq_true hi, Bool.true_and, rb, show (8 * q + i) / 8 = q by omega, show (8 * q + i) % 8 = i by omega]
  cases bt (f q) i <;> rfl
theorem xor_turn {a b : Nat} (ha : a < 2 ^ 16) (hb : b < 2 ^ 16) : a ^^^ b = 65535 ↔ a + b = 65535 := by
  have key : ∀ x, x < 2 ^ 16 → 65535 ^^^ x = 65535 - x := by
    intro x hx
    apply Nat.eq_of_testBit_eq
    intro i
    rw [show 65535 - x = 2 ^ 16 - (x + 1) by omega, Nat.testBit_two_pow_sub_succ hx, Nat.testBit_xor, show (65535 : Nat) = 2 ^ 16 - 1 from rfl, Nat.testBit_two_pow_sub_one]
    by_cases h : i < 16
    · simp [h]
    · have : x.testBit i = false := Nat.testBit_lt_two_pow (Nat.lt_of_lt_of_le hx (Nat.pow_le_pow_right (by decide) (by omega)))
      simp [h, this]
  constructor
  · intro h
    have h2 : b = 65535 ^^^ a := by
      rw [← h, Nat.xor_comm (a ^^^ b) a, ← Nat.xor_assoc, Nat.xor_self, Nat.zero_xor]
    rw [key a ha] at h2
    omega
  · intro h
    have h2 : b = 65535 ^^^ a := by
      rw [key a ha]; omega
    rw [h2, Nat.xor_comm 65535 a, ← Nat.xor_assoc, Nat.xor_self, Nat.zero_xor]
/-- the next whole byte's first bit -/
def up8 (p : Nat) : Nat := 8 * ((p + 7) / 8)
theorem b_m8 : ∀ i, i < 32 → bt (-8) i = decide (3 ≤ i) := by decide +kernel
theorem and_m8 (x : Nat) : nI x &&& (-8 : Int32) = nI (8 * (x / 8)) := by
  apply b_ext
  intro i hi
  rw [b_and, bt_nI _ _ hi, bt_nI _ _ hi, b_m8 i hi, show 8 * (x / 8) = (x >>> 3) <<< 3 by rw [Nat.shiftLeft_eq, Nat.shiftRight_eq_div_pow, Nat.mul_comm], Nat.testBit_shiftLeft, Nat.testBit_shiftRight]
  by_cases h : 3 ≤ i
  · simp [h, show 3 + (i - 3) = i by omega]
  · simp [h]
theorem s_whole {N p : Nat} : fBitSource_toWholeByte N (nI p) = some (nI (up8 p)) := by
  rw [fBitSource_toWholeByte, show nI p + (7 : Int32) = nI (p + 7) from nI_add p 7, and_m8, up8]
theorem up8_le {p n : Nat} (h : p ≤ 8 * n) : up8 p ≤ 8 * n := by
  rw [up8]; omega
theorem up8_ge (p : Nat) : p ≤ up8 p := by
  rw [up8]; omega
theorem s_Mo_whole {N : Nat} : ∀ (m k p : Nat), m < 8 → up8 p = p + m → m < k → p ≤ 8 * 65536 → fMo_readStored_0 N k (nI p) = some (nI (up8 p))
  | 0, k + 1, p, hm, he, hk, hp => by
    rw [fMo_readStored_0]
    have h8 : p % 8 = 0 := by rw [up8] at he; omega
    simp (disch := omega) only [nlit, nI_add, nI_mul, nI_sub, nI_leI, nI_ltI, nI_eq, nI_inI', nI_inI, nI_lt0', nI_lt0, nI_clamp, nI_div, nI_rem, nI_shl, nI_shr, upd_same, nI_eqm, nI_m1le, nI_m2le, nI_m1lt, nI_m2lt, nI_m2m1, eq_self, not_false_eq_true, not_true_eq_false, if_pos, if_neg, if_true, if_false, Option.bind_some, h8]
    rw [he]
    rfl
  | m + 1, k + 1, p, hm, he, hk, hp => by
    rw [fMo_readStored_0]
    have h8 : p % 8 ≠ 0 := by rw [up8] at he; omega
    have e2 : up8 (p + 1) = up8 p := by rw [up8, up8] at *; omega
    simp (disch := omega) only [nlit, nI_add, nI_mul, nI_sub, nI_leI, nI_ltI, nI_eq, nI_inI', nI_inI, nI_lt0', nI_lt0, nI_clamp, nI_div, nI_rem, nI_shl, nI_shr, upd_same, nI_eqm, nI_m1le, nI_m2le, nI_m1lt, nI_m2lt, nI_m2m1, eq_self, not_false_eq_true, not_true_eq_false, if_pos, if_neg, if_true, if_false, Option.bind_some]
    rw [s_Mo_whole m k (p + 1) (by omega) (by omega) (by omega) (by rw [up8] at he; omega), e2]
theorem s_bitsLeft {N p n : Nat} (h : p ≤ 8 * n) : fBitSource_bitsLeft N (nI p) (nI n) = some (nI (8 * n - p)) := by
  rw [fBitSource_bitsLeft]
  simp (disch := omega) only [nlit, nI_add, nI_mul, nI_sub, nI_leI, nI_ltI, nI_eq, nI_inI', nI_inI, nI_lt0', nI_lt0, nI_clamp, nI_div, nI_rem, nI_shl, nI_shr, upd_same, nI_eqm, nI_m1le, nI_m2le, nI_m1lt, nI_m2lt, nI_m2m1, eq_self, not_false_eq_true, not_true_eq_false]
  rw [Nat.mul_comm n 8]
theorem s_addFrom {N a m c n : Nat} {f g : Nat → Int32} (hn : n ≤ 65546) (h1 : a + m ≤ n) (h2 : c + m ≤ 65546) : fRow_addFrom N (nI a) (nI m) (nI c) (nI n) f g = some (nI (c + m), va_cpy g f a c m) := by
  rw [fRow_addFrom]
  simp (disch := omega) only [nlit, nI_add, nI_mul, nI_sub, nI_leI, nI_ltI, nI_eq, nI_inI', nI_inI, nI_lt0', nI_lt0, nI_clamp, nI_div, nI_rem, nI_shl, nI_shr, upd_same, nI_eqm, nI_m1le, nI_m2le, nI_m1lt, nI_m2lt, nI_m2m1, eq_self, not_false_eq_true, not_true_eq_false, if_pos, if_neg, if_true, if_false, Option.bind_some]
/-- a wrong place told, on the class's side -/
def repW (r : Nat → Int32) (fault place : Int32) : Prop := r 0 = fault ∧ r 1 = place ∧ r 2 = 0
theorem s_wrong {N : Nat} (a b : Int32) (r : Nat → Int32) : ∃ r', fUnpacker_wrong N a b r = some (false, r') ∧ repW r' a b := by
  refine ⟨_, rfl, ?_, ?_, ?_⟩ <;> rfl
theorem s_Mo_wrong {N : Nat} (a b : Int32) : fMo_wrong N a b = some (true, a, b) := rfl

/-- what a reading step leaves, on both sides: go on alike, or wrong alike -/
def stepR (n lim pos : Nat) (f0 p0 : Int32) (x : Bool × Int32 × Int32 × (Nat → Int32) × (Nat → Int32)) (y : Bool × Int32 × Int32 × Int32 × Int32 × (Nat → Int32)) : Prop :=
  (x.1 = true ∧ y.1 = false ∧ ∃ p m, pos ≤ p ∧ p ≤ 8 * n ∧ m ≤ lim ∧ x.2.1 = nI p ∧ y.2.1 = nI p ∧ x.2.2.1 = nI m ∧ y.2.2.2.2.1 = nI m ∧ rowEq m x.2.2.2.1 y.2.2.2.2.2 ∧ y.2.2.1 = f0 ∧ y.2.2.2.1 = p0) ∨ (x.1 = false ∧ y.1 = true ∧ repW x.2.2.2.2 y.2.2.1 y.2.2.2.1)
theorem s_Mo_stored_81 {N n lim L q made : Nat} {g : Nat → Int32} (hN : 300 ≤ N) (hn : n ≤ 65536) (hlim : lim ≤ 65536) :
    ∀ (m k i : Nat) (fr : Nat → Int32), i + m = L → m < k → i ≤ L → L < 2 ^ 16 → q + i ≤ n → made + i ≤ lim → (∀ j, j < i → (fr (made + j)).toInt8 = (g (q + j)).toInt8) →
      (L ≤ n - q ∧ L ≤ lim - made → ∃ fr', fMo_readStored_81 N (nI (8 * n)) (nI lim) g (nI L) k (nI i) (nI (8 * (q + i))) (nI (made + i)) fr = some (.inl (nI (8 * (q + L)), nI (made + L), fr')) ∧ (∀ j, j < made → fr' j = fr j) ∧ ∀ j, j < L → (fr' (made + j)).toInt8 = (g (q + j)).toInt8) ∧
      (¬ (L ≤ n - q ∧ L ≤ lim - made) → ∃ a b c, fMo_readStored_81 N (nI (8 * n)) (nI lim) g (nI L) k (nI i) (nI (8 * (q + i))) (nI (made + i)) fr = some (.inr (true, a, (if n - q ≤ lim - made then (1 : Int32) else (9 : Int32)), nI (8 * (q + (if n - q ≤ lim - made then n - q else lim - made))), b, c)))
  | 0, k + 1, i, fr, hi, hk, hiL, hL, hq, hm, hfr => by
    have e : i = L := by omega
    subst e
    refine ⟨fun h => ⟨fr, ?_, fun _ _ => rfl, hfr⟩, fun h => by omega⟩
    rw [fMo_readStored_81]
    simp (disch := omega) only [nlit, nI_add, nI_mul, nI_sub, nI_leI, nI_ltI, nI_eq, nI_inI', nI_inI, nI_lt0', nI_lt0, nI_clamp, nI_div, nI_rem, nI_shl, nI_shr, upd_same, nI_eqm, nI_m1le, nI_m2le, nI_m1lt, nI_m2lt, nI_m2m1, eq_self, not_false_eq_true, not_true_eq_false, if_pos, if_neg, if_true, if_false, Option.bind_some]
  | m + 1, k + 1, i, fr, hi, hk, hiL, hL, hq, hm, hfr => by
    rw [fMo_readStored_81]
    have htk := s_Mo_take (N := N) (by omega) g (p := 8 * (q + i)) (bits := 8) (by omega)
    by_cases h1 : q + i < n
    · by_cases h2 : made + i < lim
      · have htk2 := htk (by omega)
        have ih := s_Mo_stored_81 (N := N) (L := L) (q := q) (made := made) (g := g) hN hn hlim m k (i + 1) (upd fr (made + i) (nI (tk g (8 * (q + i)) 8)).toInt8.toInt32) (by omega) (by omega) (by omega) hL (by omega) (by omega) (by
          intro j hj
          by_cases ej : j = i
          · rw [ej, upd_same, by8_id, tk_byte]
          · rw [upd_ne (by omega)]
            exact hfr j (by omega))
        have e8 : 8 * (q + i) + 8 = 8 * (q + (i + 1)) := by omega
        simp (disch := omega) only [nlit, nI_add, nI_mul, nI_sub, nI_leI, nI_ltI, nI_eq, nI_inI', nI_inI, nI_lt0', nI_lt0, nI_clamp, nI_div, nI_rem, nI_shl, nI_shr, upd_same, nI_eqm, nI_m1le, nI_m2le, nI_m1lt, nI_m2lt, nI_m2m1, eq_self, not_false_eq_true, not_true_eq_false, if_pos, if_neg, if_true, if_false, Option.bind_some, htk2, e8]
        refine ⟨fun h => ?_, ih.2⟩
        obtain ⟨fr', a, b, c⟩ := ih.1 h
        exact ⟨fr', a, fun j hj => by rw [b j hj, upd_ne (by omega)], c⟩
      · refine ⟨fun h => by omega, fun h => ⟨nI (8 * (q + i)), nI (made + i), fr, ?_⟩⟩
        have e1 : lim - made = i := by omega
        simp (disch := omega) only [nlit, nI_add, nI_mul, nI_sub, nI_leI, nI_ltI, nI_eq, nI_inI', nI_inI, nI_lt0', nI_lt0, nI_clamp, nI_div, nI_rem, nI_shl, nI_shr, upd_same, nI_eqm, nI_m1le, nI_m2le, nI_m1lt, nI_m2lt, nI_m2m1, eq_self, not_false_eq_true, not_true_eq_false, if_pos, if_neg, if_true, if_false, Option.bind_some, s_Mo_wrong, e1]
    · refine ⟨fun h => by omega, fun h => ⟨nI (8 * (q + i)), nI (made + i), fr, ?_⟩⟩
      have e1 : n - q = i := by omega
      simp (disch := omega) only [nlit, nI_add, nI_mul, nI_sub, nI_leI, nI_ltI, nI_eq, nI_inI', nI_inI, nI_lt0', nI_lt0, nI_clamp, nI_div, nI_rem, nI_shl, nI_shr, upd_same, nI_eqm, nI_m1le, nI_m2le, nI_m1lt, nI_m2lt, nI_m2m1, eq_self, not_false_eq_true, not_true_eq_false, if_pos, if_neg, if_true, if_false, Option.bind_some, s_Mo_wrong, e1]
theorem itemin {a b : Nat} : (if b < a then nI b else nI a) = nI (min b a) := by
  split
  · rw [Nat.min_eq_left (by omega)]
  · rw [Nat.min_eq_right (by omega)]
theorem u_stored {N n lim made p : Nat} {f g to fr rp : Nat → Int32} {f0 p0 : Int32} (hN : 70000 ≤ N) (hn : n ≤ 65536) (hlim : lim ≤ 65536) (hp : p ≤ 8 * n) (hm : made ≤ lim) (hfg : rowEq n f g) (hto : rowEq made to fr) :
    ∃ x y, fUnpacker_readStored N (nI lim) (nI p) (nI n) f (nI made) to rp = some x ∧ fMo_readStored N (nI p) (nI (8 * n)) f0 p0 (nI made) (nI lim) g fr = some y ∧ stepR n lim p f0 p0 x y := by
  have hu1 := up8_le hp
  have hu2 := up8_ge p
  have hq : up8 p = 8 * ((p + 7) / 8) := rfl
  have hu3 : up8 p - p < 8 := by rw [up8]; omega
  generalize (p + 7) / 8 = q at hq
  rw [fUnpacker_readStored, fMo_readStored, s_whole, s_Mo_whole (up8 p - p) N p hu3 (by omega) (by omega) (by omega), Option.bind_some, Option.bind_some, s_bitsLeft hu1, hq, Option.bind_some]
  rw [hq] at hu1 hu2
  by_cases h32 : 8 * q + 32 ≤ 8 * n
  · have a1 := s_take (N := N) (by omega) f (p := 8 * q) (bits := 16) (n := n) (by omega) hn (by omega)
    have a2 := s_take (N := N) (by omega) f (p := 8 * q + 16) (bits := 16) (n := n) (by omega) hn (by omega)
    have b1 := s_Mo_take (N := N) (by omega) g (p := 8 * q) (bits := 16) (by omega) (by omega)
    have b2 := s_Mo_take (N := N) (by omega) g (p := 8 * q + 16) (bits := 16) (by omega) (by omega)
    rw [← tk_eq hfg _ _ (by omega)] at b1 b2
    have l1 := tk_lt f (8 * q) 16
    have l2 := tk_lt f (8 * q + 16) 16
    generalize tk f (8 * q) 16 = L at *
    generalize tk f (8 * q + 16) 16 = L2 at *
    have hx := xor_turn l1 l2
    have hxl : L ^^^ L2 < 2 ^ 16 := Nat.xor_lt_two_pow l1 l2
    by_cases hturn : L + L2 = 65535
    · have e9 : 8 * q + 16 + 16 = 8 * (q + 4) := by omega
      have hbl := s_bitsLeft (N := N) (p := 8 * (q + 4)) (n := n) (by omega)
      have e10 : (8 * n - 8 * (q + 4)) / 2 ^ 3 = n - (q + 4) := by omega
      have e11 : 8 * (q + 4) / 2 ^ 3 = q + 4 := by omega
      have hst := s_Mo_stored_81 (N := N) (L := L) (q := q + 4) (made := made) (g := g) (by omega) hn hlim L N 0 fr (by omega) (by omega) (by omega) l1 (by omega) (by omega) (fun j hj => by omega)
      simp (disch := omega) only [nlit, nI_add, nI_mul, nI_sub, nI_leI, nI_ltI, nI_eq, nI_inI', nI_inI, nI_lt0', nI_lt0, nI_clamp, nI_div, nI_rem, nI_shl, nI_shr, upd_same, nI_eqm, nI_m1le, nI_m2le, nI_m1lt, nI_m2lt, nI_m2m1, eq_self, not_false_eq_true, not_true_eq_false, a1, a2, b1, b2, nx_xor, hx, e9, hbl, e10, e11, itemin, Option.bind_some]
      have hG : min (min (lim - made) (n - (q + 4))) L ≤ L ∧ min (min (lim - made) (n - (q + 4))) L ≤ lim - made ∧ min (min (lim - made) (n - (q + 4))) L ≤ n - (q + 4) := by omega
      have c1 : 32 ≤ 8 * n - 8 * q := by omega
      have c2 : 8 * (q + 4) ≤ 8 * n := by omega
      rw [if_pos c1, if_pos hturn, if_pos c2, if_pos hturn, s_addFrom (by omega) (by omega) (by omega), Option.bind_some]
      by_cases hok : L ≤ n - (q + 4) ∧ L ≤ lim - made
      · obtain ⟨fr', e1, e2, e3⟩ := hst.1 hok
        have hmin : min (min (lim - made) (n - (q + 4))) L = L := by omega
        rw [hmin, if_pos rfl, show nI 0 = nI 0 from rfl, show nI (8 * (q + 4)) = nI (8 * (q + 4 + 0)) from rfl, show nI made = nI (made + 0) from rfl, e1]
        refine ⟨_, _, rfl, rfl, ?_⟩
        refine Or.inl ⟨rfl, rfl, 8 * (q + 4 + L), made + L, by omega, by omega, by omega, ?_, rfl, rfl, rfl, ?_, rfl, rfl⟩
        · show nI (8 * (q + 4 + 0) + 8 * L) = _
          rw [show 8 * (q + 4 + 0) + 8 * L = 8 * (q + 4 + L) by omega]
        · show rowEq (made + L) (va_cpy f to (q + 4) made L) fr'
          intro j hj
          by_cases hj2 : j < made
          · rw [pk_cpy_out (Or.inl hj2), e2 j hj2]
            exact hto j hj2
          · rw [pk_cpy_in (by omega) (by omega), show j = made + (j - made) by omega, e3 _ (by omega), show made + (j - made) - made = j - made by omega]
            exact hfg _ (by omega)
      · obtain ⟨a, b, c, e1⟩ := hst.2 hok
        have hmin : min (min (lim - made) (n - (q + 4))) L ≠ L := by omega
        have hmin2 : min (min (lim - made) (n - (q + 4))) L = (if n - (q + 4) ≤ lim - made then n - (q + 4) else lim - made) := by
          split <;> omega
        have hmin3 : (if min (min (lim - made) (n - (q + 4))) L = n - (q + 4) then nI 1 else nI 9) = (if n - (q + 4) ≤ lim - made then (1 : Int32) else (9 : Int32)) := by
          by_cases h : n - (q + 4) ≤ lim - made
          · rw [if_pos (by omega), if_pos h]
            rfl
          · rw [if_neg (by omega), if_neg h]
            rfl
        obtain ⟨r', w1, w2⟩ := s_wrong (N := N) (if n - (q + 4) ≤ lim - made then (1 : Int32) else (9 : Int32)) (nI (8 * (q + 4 + (if n - (q + 4) ≤ lim - made then n - (q + 4) else lim - made)))) rp
        rw [if_neg hmin, hmin3, hmin2, ← Nat.mul_add, w1, show nI (8 * (q + 4)) = nI (8 * (q + 4 + 0)) from rfl, show nI made = nI (made + 0) from rfl, e1]
        refine ⟨_, _, rfl, rfl, ?_⟩
        exact Or.inr ⟨rfl, rfl, w2⟩
    · obtain ⟨r', e1, e2⟩ := s_wrong (N := N) 3 (nI (8 * q)) rp
      simp (disch := omega) only [nlit, nI_add, nI_mul, nI_sub, nI_leI, nI_ltI, nI_eq, nI_inI', nI_inI, nI_lt0', nI_lt0, nI_clamp, nI_div, nI_rem, nI_shl, nI_shr, upd_same, nI_eqm, nI_m1le, nI_m2le, nI_m1lt, nI_m2lt, nI_m2m1, eq_self, not_false_eq_true, not_true_eq_false, a1, a2, b1, b2, nx_xor, hx, s_Mo_wrong, Option.bind_some]
      have c1 : 32 ≤ 8 * n - 8 * q := by omega
      have c2 : 8 * q + 32 ≤ 8 * n := by omega
      rw [if_pos c1, if_neg hturn, if_pos c2, if_neg hturn, show nI 3 = (3 : Int32) from rfl, e1]
      refine ⟨_, _, rfl, rfl, ?_⟩
      exact Or.inr ⟨rfl, rfl, e2⟩
  · obtain ⟨r', e1, e2⟩ := s_wrong (N := N) 1 (nI (8 * q)) rp
    have c1 : ¬ nI 32 ≤ nI (8 * n - 8 * q) := by rw [nI_leI (by omega) (by omega)]; omega
    have c2 : ¬ nI (8 * q + 32) ≤ nI (8 * n) := by rw [nI_leI (by omega) (by omega)]; omega
    rw [show (32 : Int32) = nI 32 from rfl, nI_add, if_neg c1, if_neg c2, e1]
    refine ⟨_, _, rfl, rfl, ?_⟩
    exact Or.inr ⟨rfl, rfl, e2⟩
