/-! Decoding, on both sides the same. -/
theorem s_used_4 {N t : Nat} {M : Nat → Int32} {c : Nat → Nat} (ht : t ≤ 2) (hM : ∀ j, 1 ≤ j → j < 16 → M (16 * t + j) = nI (c j)) : ∀ (m k l : Nat), l + m = 16 → 1 ≤ l → m < k → fMo_used_4 N (nI t) M k (nI (kra c l)) (nI l) = some (nI (kra c 16))
  | 0, k + 1, l, hi, h1, hk => by
    rw [fMo_used_4]
    have e : l = 16 := by omega
    subst e
    simp (disch := omega) only [nlit, nI_add, nI_mul, nI_sub, nI_leI, nI_ltI, nI_eq, nI_inI', nI_inI, nI_lt0', nI_lt0, nI_clamp, nI_div, nI_rem, nI_shl, nI_shr, upd_same, nI_eqm, nI_m1le, nI_m2le, nI_m1lt, nI_m2lt, nI_m2m1, eq_self, not_false_eq_true, not_true_eq_false, if_pos, if_neg, if_true, if_false, Option.bind_some]
  | m + 1, k + 1, l, hi, h1, hk => by
    rw [fMo_used_4]
    have h2 := hM l h1 (by omega)
    simp (disch := omega) only [nlit, nI_add, nI_mul, nI_sub, nI_leI, nI_ltI, nI_eq, nI_inI', nI_inI, nI_lt0', nI_lt0, nI_clamp, nI_div, nI_rem, nI_shl, nI_shr, upd_same, nI_eqm, nI_m1le, nI_m2le, nI_m1lt, nI_m2lt, nI_m2m1, eq_self, not_false_eq_true, not_true_eq_false, if_pos, if_neg, if_true, if_false, Option.bind_some, h2]
    rw [← kra_s c (show 0 < l by omega)]
    exact s_used_4 ht hM m k (l + 1) (by omega) (by omega) (by omega)
theorem s_used {N t : Nat} {M : Nat → Int32} {c : Nat → Nat} (hN : 300 ≤ N) (ht : t ≤ 2) (hM : ∀ j, 1 ≤ j → j < 16 → M (16 * t + j) = nI (c j)) : fMo_used N (nI t) M = some (nI (kra c 16)) := by
  rw [fMo_used]
  rw [show fMo_used_4 N (nI t) M N (0 : Int32) (1 : Int32) = some (nI (kra c 16)) from s_used_4 ht hM 15 N 1 (by omega) (by omega) (by omega)]
  rfl
theorem s_codesIn_4 {N t : Nat} {M : Nat → Int32} {c : Nat → Nat} (ht : t ≤ 2) (hM : ∀ j, 1 ≤ j → j < 16 → M (16 * t + j) = nI (c j)) : ∀ (m k l : Nat), l + m = 16 → 1 ≤ l → m < k → fMo_codesIn_4 N (nI t) M k (nI (acc c l)) (nI l) = some (nI (acc c 16))
  | 0, k + 1, l, hi, h1, hk => by
    rw [fMo_codesIn_4]
    have e : l = 16 := by omega
    subst e
    simp (disch := omega) only [nlit, nI_add, nI_mul, nI_sub, nI_leI, nI_ltI, nI_eq, nI_inI', nI_inI, nI_lt0', nI_lt0, nI_clamp, nI_div, nI_rem, nI_shl, nI_shr, upd_same, nI_eqm, nI_m1le, nI_m2le, nI_m1lt, nI_m2lt, nI_m2m1, eq_self, not_false_eq_true, not_true_eq_false, if_pos, if_neg, if_true, if_false, Option.bind_some]
  | m + 1, k + 1, l, hi, h1, hk => by
    rw [fMo_codesIn_4]
    have h2 := hM l h1 (by omega)
    simp (disch := omega) only [nlit, nI_add, nI_mul, nI_sub, nI_leI, nI_ltI, nI_eq, nI_inI', nI_inI, nI_lt0', nI_lt0, nI_clamp, nI_div, nI_rem, nI_shl, nI_shr, upd_same, nI_eqm, nI_m1le, nI_m2le, nI_m1lt, nI_m2lt, nI_m2m1, eq_self, not_false_eq_true, not_true_eq_false, if_pos, if_neg, if_true, if_false, Option.bind_some, h2]
    rw [← acc_s c (show 0 < l by omega)]
    exact s_codesIn_4 ht hM m k (l + 1) (by omega) (by omega) (by omega)
theorem s_codesIn {N t : Nat} {M : Nat → Int32} {c : Nat → Nat} (hN : 300 ≤ N) (ht : t ≤ 2) (hM : ∀ j, 1 ≤ j → j < 16 → M (16 * t + j) = nI (c j)) : fMo_codesIn N (nI t) M = some (nI (acc c 16)) := by
  rw [fMo_codesIn]
  rw [show fMo_codesIn_4 N (nI t) M N (0 : Int32) (1 : Int32) = some (nI (acc c 16)) from s_codesIn_4 ht hM 15 N 1 (by omega) (by omega) (by omega)]
  rfl
/-- the next symbol: none where the bits end, some none where they mean nothing -/
def dsp (f : Nat → Int32) (c T : Nat → Nat) (stop : Nat) : Nat → Nat → Nat → Nat → Nat → Nat → Option (Option (Nat × Nat))
  | 0, _, _, _, _, _ => some none
  | j + 1, l, pos, v, first, idx => if stop ≤ pos then none else if 2 * v + rb f pos - first < c l then some (some (T (idx + (2 * v + rb f pos - first)), pos + 1)) else dsp f c T stop j (l + 1) (pos + 1) (2 * v + rb f pos) (2 * (first + c l)) (idx + c l)
theorem ld_bitC (f : Nat → Int32) (i : Nat) (hi : i < 2 ^ 31) : (((f (i / 2 ^ 3)).toInt8.toInt32) >>> ((nI i &&& nI 7) &&& nI 31)) &&& nI 1 = nI (rb f i) := by
  rw [show nI i &&& nI 7 = nI (i % 8) from pk_andN (by omega) 3 (by decide)]
  exact ld_bit f i
theorem or1 {v b : Nat} (h : b ≤ 1) : nI (v * 2 ^ 1) ||| nI b = nI (2 * v + b) := by
  rw [nx_or, show v * 2 ^ 1 = v * 2 from rfl, or_bit v b h]
theorem dbl (v : Nat) : v * 2 ^ 1 = 2 * v := by omega
theorem s_decode_64 {N place stop : Nat} {f P S : Nat → Int32} {c T : Nat → Nat} (hstop : stop ≤ 8 * 65536) (hP : ∀ l, 1 ≤ l → l < 16 → P l = nI (c l)) (hc : acc c 16 ≤ 288) (hS : ∀ i, i < acc c 16 → S i = nI (T i)) :
    ∀ (j k l pos v first : Nat), l + j ≤ 16 → 1 ≤ l → j < k → pos ≤ stop → v < 2 ^ (l - 1) → first ≤ 2 * v →
      fDecoder_decode_64 N (nI place) (nI stop) (nI (l + j - 1)) f P S k (nI pos) (nI v) (nI first) (nI (acc c l)) (nI l) =
        some (match dsp f c T stop j l pos v first (acc c l) with
          | none => .inr (-1, nI place)
          | some none => .inl ()
          | some (some (s, p)) => .inr (nI s, nI p))
  | 0, k + 1, l, pos, v, first, hl, h1, hk, hpos, hv, hf => by
    rw [fDecoder_decode_64, dsp]
    simp (disch := omega) only [nlit, nI_add, nI_mul, nI_sub, nI_leI, nI_ltI, nI_eq, nI_inI', nI_inI, nI_lt0', nI_lt0, nI_clamp, nI_div, nI_rem, nI_shl, nI_shr, upd_same, nI_eqm, nI_m1le, nI_m2le, nI_m1lt, nI_m2lt, nI_m2m1, eq_self, not_false_eq_true, not_true_eq_false, if_pos, if_neg, if_true, if_false, Option.bind_some]
  | j + 1, k + 1, l, pos, v, first, hl, h1, hk, hpos, hv, hf => by
    rw [fDecoder_decode_64, dsp]
    have hb := rb_le f pos
    have hp := hP l h1 (by omega)
    have hpow : 2 ^ (l - 1) ≤ 2 ^ 15 := Nat.pow_le_pow_right (by decide) (by omega)
    have hpow2 : 2 ^ l = 2 * 2 ^ (l - 1) := by
      obtain ⟨q, rfl⟩ : ∃ q, l = q + 1 := ⟨l - 1, by omega⟩
      rw [Nat.pow_succ, Nat.add_sub_cancel]; omega
    have hacc := acc_s c (show 0 < l by omega)
    have hmono := acc_mono c (show l + 1 ≤ 16 by omega)
    by_cases hs : stop ≤ pos
    · rw [if_pos hs]
      simp (disch := omega) only [nlit, nI_add, nI_mul, nI_sub, nI_leI, nI_ltI, nI_eq, nI_inI', nI_inI, nI_lt0', nI_lt0, nI_clamp, nI_div, nI_rem, nI_shl, nI_shr, upd_same, nI_eqm, nI_m1le, nI_m2le, nI_m1lt, nI_m2lt, nI_m2m1, eq_self, not_false_eq_true, not_true_eq_false, if_pos, if_neg, if_true, if_false, Option.bind_some]
    · rw [if_neg hs]
      by_cases hd : 2 * v + rb f pos - first < c l
      · rw [if_pos hd]
        have ht := hS (acc c l + (2 * v + rb f pos - first)) (by omega)
        have e : acc c l + (2 * v + rb f pos) - first = acc c l + (2 * v + rb f pos - first) := by omega
        simp (disch := omega) only [nlit, nI_add, nI_mul, nI_sub, nI_leI, nI_ltI, nI_eq, nI_inI', nI_inI, nI_lt0', nI_lt0, nI_clamp, nI_div, nI_rem, nI_shl, nI_shr, upd_same, nI_eqm, nI_m1le, nI_m2le, nI_m1lt, nI_m2lt, nI_m2m1, eq_self, not_false_eq_true, not_true_eq_false, if_pos, if_neg, if_true, if_false, Option.bind_some, hp, ld_bitC, or1, ht, e]
      · rw [if_neg hd]
        have hp2 := acc_s c (show 0 < l by omega)
        simp (disch := omega) only [nlit, nI_add, nI_mul, nI_sub, nI_leI, nI_ltI, nI_eq, nI_inI', nI_inI, nI_lt0', nI_lt0, nI_clamp, nI_div, nI_rem, nI_shl, nI_shr, upd_same, nI_eqm, nI_m1le, nI_m2le, nI_m1lt, nI_m2lt, nI_m2m1, eq_self, not_false_eq_true, not_true_eq_false, if_pos, if_neg, if_true, if_false, Option.bind_some, hp, ld_bitC, or1]
        rw [dbl (first + c l), ← hacc, show l + (j + 1) - 1 = (l + 1) + j - 1 by omega]
        exact s_decode_64 hstop hP hc hS j k (l + 1) (pos + 1) (2 * v + rb f pos) (2 * (first + c l)) (by omega) (by omega) (by omega) (by omega) (by rw [Nat.add_sub_cancel]; omega) (by omega)
/-- how many bits a code may have -/
def jmax (c : Nat → Nat) : Nat := if acc c 16 = 0 then 0 else if acc c 16 = 1 then 1 else 15
def dec (f : Nat → Int32) (c T : Nat → Nat) (stop pos : Nat) : Option (Option (Nat × Nat)) := dsp f c T stop (jmax c) 1 pos 0 0 0
theorem dsp_eq {n : Nat} {f g : Nat → Int32} (h : rowEq n f g) (c T : Nat → Nat) {stop : Nat} (hs : stop ≤ 8 * n) : ∀ (j l pos v first idx : Nat), dsp f c T stop j l pos v first idx = dsp g c T stop j l pos v first idx
  | 0, _, _, _, _, _ => rfl
  | j + 1, l, pos, v, first, idx => by
    rw [dsp, dsp]
    by_cases hp : stop ≤ pos
    · rw [if_pos hp, if_pos hp]
    · rw [if_neg hp, if_neg hp, rb_eq h (show pos < 8 * n by omega), dsp_eq h c T hs j]
theorem dec_eq {n : Nat} {f g : Nat → Int32} (h : rowEq n f g) (c T : Nat → Nat) {stop : Nat} (hs : stop ≤ 8 * n) (pos : Nat) : dec f c T stop pos = dec g c T stop pos := dsp_eq h c T hs _ _ _ _ _ _
/-- a table that is read with: its counts, its symbols, both within bounds -/
def tabC (c T : Nat → Nat) (codes : Int32) (P S : Nat → Int32) : Prop := codes = nI (acc c 16) ∧ acc c 16 ≤ 288 ∧ (∀ l, 1 ≤ l → l < 16 → P l = nI (c l)) ∧ ∀ i, i < acc c 16 → S i = nI (T i)
def tabM (c T : Nat → Nat) (t : Nat) (M S : Nat → Int32) : Prop := (∀ l, 1 ≤ l → l < 16 → M (16 * t + l) = nI (c l)) ∧ ∀ i, i < acc c 16 → S (at0 t + i) = nI (T i)
theorem s_decode {N n place : Nat} {f P S : Nat → Int32} {c T : Nat → Nat} {codes : Int32} (hN : 300 ≤ N) (hn : n ≤ 65536) (hp : place ≤ 8 * n) (h : tabC c T codes P S) :
    fDecoder_decode N codes (nI place) (nI n) f P S = some (match dec f c T (8 * n) place with
          | none => (-1, nI place)
          | some none => (-2, nI place)
          | some (some (s, p)) => (nI s, nI p)) := by
  obtain ⟨rfl, hc, hP, hS⟩ := h
  rw [fDecoder_decode]
  have e : (if nI (acc c 16) = 0 then (0 : Int32) else (if nI (acc c 16) = (1 : Int32) then (1 : Int32) else (15 : Int32))) = nI (1 + jmax c - 1) := by
    rw [jmax]
    simp (disch := omega) only [nlit, nI_add, nI_mul, nI_sub, nI_leI, nI_ltI, nI_eq, nI_inI', nI_inI, nI_lt0', nI_lt0, nI_clamp, nI_div, nI_rem, nI_shl, nI_shr, upd_same, nI_eqm, nI_m1le, nI_m2le, nI_m1lt, nI_m2lt, nI_m2m1, eq_self, not_false_eq_true, not_true_eq_false]
    split
    · rfl
    · split <;> rfl
  have hj : jmax c ≤ 15 := by
    rw [jmax]
    split
    · omega
    · split <;> omega
  rw [e]
  have h1 := s_decode_64 (N := N) (place := place) (stop := 8 * n) (f := f) (by omega) hP hc hS (jmax c) N 1 place 0 0 (by omega) (by omega) (by omega) hp (by decide) (by omega)
  rw [show nI n * (8 : Int32) = nI (8 * n) by rw [Nat.mul_comm]; exact pk_mul n 8]
  rw [show fDecoder_decode_64 N (nI place) (nI (8 * n)) (nI (1 + jmax c - 1)) f P S N (nI place) (0 : Int32) (0 : Int32) (0 : Int32) (1 : Int32) = _ from h1]
  rw [dec, show acc c 1 = 0 from rfl]
  cases dsp f c T (8 * n) (jmax c) 1 place 0 0 0 with
  | none => rfl
  | some x =>
    cases x with
    | none => rfl
    | some y => rfl
theorem s_symbol_42 {N total t : Nat} {M S f : Nat → Int32} {c T : Nat → Nat} (hN : 300 ≤ N) (ht : t ≤ 2) (htot : total ≤ 8 * 65536) (hM : ∀ l, 1 ≤ l → l < 16 → M (16 * t + l) = nI (c l)) (hc : at0 t + acc c 16 ≤ 340) (hS : ∀ i, i < acc c 16 → S (at0 t + i) = nI (T i)) :
    ∀ (j k l pos v first : Nat), l + j = 16 → 1 ≤ l → (l = 1 → acc c 16 ≠ 1) → j < k → pos ≤ total → v < 2 ^ (l - 1) → first ≤ 2 * v →
      ∃ q, fMo_symbol_42 N (nI total) M (nI t) f S k (nI v) (nI first) (nI (at0 t + acc c l)) (nI l) (nI pos) =
        some (match dsp f c T total j l pos v first (acc c l) with
          | none => .inr (-1, q)
          | some none => .inl q
          | some (some (s, p)) => .inr (nI s, nI p))
  | 0, k + 1, l, pos, v, first, hl, h1, hq, hk, hpos, hv, hf => by
    rw [fMo_symbol_42, dsp]
    refine ⟨nI pos, ?_⟩
    simp (disch := omega) only [nlit, nI_add, nI_mul, nI_sub, nI_leI, nI_ltI, nI_eq, nI_inI', nI_inI, nI_lt0', nI_lt0, nI_clamp, nI_div, nI_rem, nI_shl, nI_shr, upd_same, nI_eqm, nI_m1le, nI_m2le, nI_m1lt, nI_m2lt, nI_m2m1, eq_self, not_false_eq_true, not_true_eq_false, if_pos, if_neg, if_true, if_false, Option.bind_some]
  | j + 1, k + 1, l, pos, v, first, hl, h1, hq, hk, hpos, hv, hf => by
    rw [fMo_symbol_42, dsp]
    have hb := rb_le f pos
    have hp := hM l h1 (by omega)
    have hpow : 2 ^ (l - 1) ≤ 2 ^ 15 := Nat.pow_le_pow_right (by decide) (by omega)
    have hpow2 : 2 ^ l = 2 * 2 ^ (l - 1) := by
      obtain ⟨q, rfl⟩ : ∃ q, l = q + 1 := ⟨l - 1, by omega⟩
      rw [Nat.pow_succ, Nat.add_sub_cancel]; omega
    have hacc := acc_s c (show 0 < l by omega)
    have hmono := acc_mono c (show l + 1 ≤ 16 by omega)
    by_cases hs : total ≤ pos
    · rw [if_pos hs]
      refine ⟨nI pos, ?_⟩
      simp (disch := omega) only [nlit, nI_add, nI_mul, nI_sub, nI_leI, nI_ltI, nI_eq, nI_inI', nI_inI, nI_lt0', nI_lt0, nI_clamp, nI_div, nI_rem, nI_shl, nI_shr, upd_same, nI_eqm, nI_m1le, nI_m2le, nI_m1lt, nI_m2lt, nI_m2m1, eq_self, not_false_eq_true, not_true_eq_false, if_pos, if_neg, if_true, if_false, Option.bind_some]
    · rw [if_neg hs]
      have hnx := s_Mo_next (N := N) f (show pos < 8 * 65536 by omega)
      by_cases hd : 2 * v + rb f pos - first < c l
      · rw [if_pos hd]
        have hts := hS (acc c l + (2 * v + rb f pos - first)) (by omega)
        have e : at0 t + acc c l + (2 * v + rb f pos) - first = at0 t + (acc c l + (2 * v + rb f pos - first)) := by omega
        refine ⟨0, ?_⟩
        simp (disch := omega) only [nlit, nI_add, nI_mul, nI_sub, nI_leI, nI_ltI, nI_eq, nI_inI', nI_inI, nI_lt0', nI_lt0, nI_clamp, nI_div, nI_rem, nI_shl, nI_shr, upd_same, nI_eqm, nI_m1le, nI_m2le, nI_m1lt, nI_m2lt, nI_m2m1, eq_self, not_false_eq_true, not_true_eq_false, if_pos, if_neg, if_true, if_false, Option.bind_some, hp, hnx, Option.bind_some, hts, e]
      · rw [if_neg hd]
        obtain ⟨q, ih⟩ := s_symbol_42 (N := N) (f := f) hN ht htot hM hc hS j k (l + 1) (pos + 1) (2 * v + rb f pos) (2 * (first + c l)) (by omega) (by omega) (by omega) (by omega) (by omega) (by rw [Nat.add_sub_cancel]; omega) (by omega)
        rw [hacc, ← Nat.add_assoc] at ih
        refine ⟨q, ?_⟩
        have hci := s_codesIn (N := N) (M := M) hN ht hM
        by_cases hl1 : l = 1
        · have hne := hq hl1
          by_cases hc1 : c l = 1
          · simp (disch := omega) only [nlit, nI_add, nI_mul, nI_sub, nI_leI, nI_ltI, nI_eq, nI_inI', nI_inI, nI_lt0', nI_lt0, nI_clamp, nI_div, nI_rem, nI_shl, nI_shr, upd_same, nI_eqm, nI_m1le, nI_m2le, nI_m1lt, nI_m2lt, nI_m2m1, eq_self, not_false_eq_true, not_true_eq_false, if_pos, if_neg, if_true, if_false, Option.bind_some, hp, hnx, Option.bind_some, hci, ih]
          · simp (disch := omega) only [nlit, nI_add, nI_mul, nI_sub, nI_leI, nI_ltI, nI_eq, nI_inI', nI_inI, nI_lt0', nI_lt0, nI_clamp, nI_div, nI_rem, nI_shl, nI_shr, upd_same, nI_eqm, nI_m1le, nI_m2le, nI_m1lt, nI_m2lt, nI_m2m1, eq_self, not_false_eq_true, not_true_eq_false, if_pos, if_neg, if_true, if_false, Option.bind_some, hp, hnx, Option.bind_some, ih]
        · simp (disch := omega) only [nlit, nI_add, nI_mul, nI_sub, nI_leI, nI_ltI, nI_eq, nI_inI', nI_inI, nI_lt0', nI_lt0, nI_clamp, nI_div, nI_rem, nI_shl, nI_shr, upd_same, nI_eqm, nI_m1le, nI_m2le, nI_m1lt, nI_m2lt, nI_m2m1, eq_self, not_false_eq_true, not_true_eq_false, if_pos, if_neg, if_true, if_false, Option.bind_some, hp, hnx, Option.bind_some, ih]
theorem s_symbol {N n pos t : Nat} {M S f : Nat → Int32} {c T : Nat → Nat} (hN : 300 ≤ N) (ht : t ≤ 2) (hn : n ≤ 65536) (hpos : pos ≤ 8 * n) (h : tabM c T t M S) (hc : at0 t + acc c 16 ≤ 340) (hone : acc c 16 = 1 → c 1 = 1) :
    ∃ q, fMo_symbol N (nI t) (nI pos) (nI (8 * n)) M f S = some (match dec f c T (8 * n) pos with
          | none => (-1, q)
          | some none => (-2, q)
          | some (some (s, p)) => (nI s, nI p)) := by
  obtain ⟨hM, hS⟩ := h
  have hci := s_codesIn (N := N) (M := M) hN ht hM
  have e0 : (if nI t = 0 then (0 : Int32) else (if nI t = (1 : Int32) then (288 : Int32) else (320 : Int32))) = nI (at0 t + acc c 1) := by
    rw [acc_1, at0]
    simp (disch := omega) only [nlit, nI_add, nI_mul, nI_sub, nI_leI, nI_ltI, nI_eq, nI_inI', nI_inI, nI_lt0', nI_lt0, nI_clamp, nI_div, nI_rem, nI_shl, nI_shr, upd_same, nI_eqm, nI_m1le, nI_m2le, nI_m1lt, nI_m2lt, nI_m2m1, eq_self, not_false_eq_true, not_true_eq_false]
    split
    · rfl
    · split <;> rfl
  rw [fMo_symbol, hci, dec, jmax]
  by_cases h0 : acc c 16 = 0
  · refine ⟨nI pos, ?_⟩
    simp (disch := omega) only [nlit, nI_add, nI_mul, nI_sub, nI_leI, nI_ltI, nI_eq, nI_inI', nI_inI, nI_lt0', nI_lt0, nI_clamp, nI_div, nI_rem, nI_shl, nI_shr, upd_same, nI_eqm, nI_m1le, nI_m2le, nI_m1lt, nI_m2lt, nI_m2m1, eq_self, not_false_eq_true, not_true_eq_false, if_pos, if_neg, if_true, if_false, Option.bind_some, Option.bind_some, dsp]
  · by_cases h1 : acc c 16 = 1
    · have hb := rb_le f pos
      have hp := hM 1 (by omega) (by omega)
      have hc1 := hone h1
      rw [hc1] at hp
      have hnx := fun (h : pos < 8 * n) => s_Mo_next (N := N) f (show pos < 8 * 65536 by omega)
      obtain ⟨N1, rfl⟩ : ∃ k, N = k + 1 := ⟨N - 1, by omega⟩
      rw [if_neg h0, if_pos h1, dsp, dsp, hc1, e0]
      have e9 : nI (acc c 16) ≠ 0 := by
        rw [h1]
        decide
      have key : ∃ q, fMo_symbol_42 (N1 + 1) (nI (8 * n)) M (nI t) f S (N1 + 1) (0 : Int32) (0 : Int32) (nI (at0 t + acc c 1)) (1 : Int32) (nI pos) = some (.inr (match (if 8 * n ≤ pos then none else if 2 * 0 + rb f pos - 0 < 1 then some (some (T (0 + (2 * 0 + rb f pos - 0)), pos + 1)) else some none) with
          | none => (-1, q)
          | some none => (-2, q)
          | some (some (s, p)) => (nI s, nI p))) := by
        rw [fMo_symbol_42]
        by_cases hs : 8 * n ≤ pos
        · rw [if_pos hs]
          refine ⟨nI pos, ?_⟩
          simp (disch := omega) only [nlit, nI_add, nI_mul, nI_sub, nI_leI, nI_ltI, nI_eq, nI_inI', nI_inI, nI_lt0', nI_lt0, nI_clamp, nI_div, nI_rem, nI_shl, nI_shr, upd_same, nI_eqm, nI_m1le, nI_m2le, nI_m1lt, nI_m2lt, nI_m2m1, eq_self, not_false_eq_true, not_true_eq_false, if_pos, if_neg, if_true, if_false, Option.bind_some]
        · rw [if_neg hs]
          have hn1 := hnx (by omega)
          refine ⟨nI (pos + 1), ?_⟩
          by_cases hd : 2 * 0 + rb f pos - 0 < 1
          · rw [if_pos hd]
            have h9 := hS 0 (by omega)
            have e8 : rb f pos = 0 := by omega
            rw [e8] at hn1
            simp (disch := omega) only [nlit, nI_add, nI_mul, nI_sub, nI_leI, nI_ltI, nI_eq, nI_inI', nI_inI, nI_lt0', nI_lt0, nI_clamp, nI_div, nI_rem, nI_shl, nI_shr, upd_same, nI_eqm, nI_m1le, nI_m2le, nI_m1lt, nI_m2lt, nI_m2m1, eq_self, not_false_eq_true, not_true_eq_false, if_pos, if_neg, if_true, if_false, Option.bind_some, hp, hn1, Option.bind_some, e8, acc_1]
            exact congrArg (fun x => some (Sum.inr (x, nI (pos + 1)))) h9
          · rw [if_neg hd]
            have e8 : rb f pos = 1 := by omega
            rw [e8] at hn1
            simp (disch := omega) only [nlit, nI_add, nI_mul, nI_sub, nI_leI, nI_ltI, nI_eq, nI_inI', nI_inI, nI_lt0', nI_lt0, nI_clamp, nI_div, nI_rem, nI_shl, nI_shr, upd_same, nI_eqm, nI_m1le, nI_m2le, nI_m1lt, nI_m2lt, nI_m2m1, eq_self, not_false_eq_true, not_true_eq_false, if_pos, if_neg, if_true, if_false, Option.bind_some, hp, hn1, Option.bind_some, hci, h1]
      obtain ⟨q, key⟩ := key
      refine ⟨q, ?_⟩
      show (if nI (acc c 16) = 0 then _ else _) = _
      rw [if_neg e9, key]
      rfl
    · rw [if_neg h0, if_neg h1, e0]
      have e9 : nI (acc c 16) ≠ 0 := by
        intro h
        exact h0 ((nI_eq (b := 0) (by omega) (by omega)).mp h)
      obtain ⟨q, key⟩ := s_symbol_42 (N := N) (f := f) hN ht (show 8 * n ≤ 8 * 65536 by omega) hM hc hS 15 N 1 pos 0 0 (by omega) (by omega) (fun _ => h1) (by omega) hpos (by decide) (by omega)
      refine ⟨q, ?_⟩
      show (if nI (acc c 16) = 0 then _ else _) = _
      rw [if_neg e9]
      rw [show fMo_symbol_42 N (nI (8 * n)) M (nI t) f S N (0 : Int32) (0 : Int32) (nI (at0 t + acc c 1)) (1 : Int32) (nI pos) = _ from key, acc_1]
      cases dsp f c T (8 * n) 15 1 pos 0 0 0 with
      | none => rfl
      | some x =>
        cases x with
        | none => rfl
        | some y => rfl
