/-! Tokens: the reference's chains, hashes, and the loop over a row. -/
def pk2 (R : Nat → Int8) (i : Nat) : Nat := u8 (R i) * 256 + u8 (R (i + 1))
theorem pk2_lt (R : Nat → Int8) (i : Nat) : pk2 R i < 65536 := by
  have h1 := u8_lt (R i)
  have h2 := u8_lt (R (i + 1))
  rw [pk2]
  omega
theorem s_pairAt {N i : Nat} {g : Nat → Int32} (h : i + 1 < 65536) : fMo_pairAt N (nI i) g = some (nI (pk2 (fun j => (g j).toInt8) i)) := by
  rw [fMo_pairAt]
  simp (disch := omega) only [nlit, nI_add, nI_mul, nI_sub, nI_leI, nI_ltI, nI_eq, nI_inI', nI_inI, nI_lt0', nI_lt0, nI_clamp, nI_div, nI_rem, nI_shl, nI_shr, upd_same, nI_eqm, nI_m1le, nI_m2le, nI_m1lt, nI_m2lt, nI_m2m1, eq_self, not_false_eq_true, not_true_eq_false, if_pos, if_neg, if_true, if_false, Option.bind_some, u8_int]
  rfl
def h3 (a b c : Int8) : Int32 := jus ((((a.toInt32 &&& (255 : Int32)) <<< ((16 : Int32) &&& 31)) ||| ((b.toInt32 &&& (255 : Int32)) <<< ((8 : Int32) &&& 31)) ||| (c.toInt32 &&& (255 : Int32))) * (-1640531535 : Int32)) (18 : Int32)
def hk3 (R : Nat → Int8) (i : Nat) : Nat := (h3 (R i) (R (i + 1)) (R (i + 2))).toBitVec.toNat
theorem hk3_eq {R : Nat → Int8} {q p : Nat} (h : m3 R q p) : hk3 R q = hk3 R p := by
  rw [hk3, hk3, h.1, h.2.1, h.2.2]
theorem hk3_lt (R : Nat → Int8) (i : Nat) : hk3 R i < 16384 := by
  rw [hk3, h3, jus, pk_ushr _ (18 : Int32) 18 (by decide)]
  have := (((((R i).toInt32 &&& (255 : Int32)) <<< ((16 : Int32) &&& 31)) ||| (((R (i + 1)).toInt32 &&& (255 : Int32)) <<< ((8 : Int32) &&& 31)) ||| ((R (i + 2)).toInt32 &&& (255 : Int32))) * (-1640531535 : Int32)).toBitVec.isLt
  omega
theorem nI_tn (x : Int32) : nI x.toBitVec.toNat = x := by
  apply Int32.toBitVec_inj.mp
  apply BitVec.eq_of_toNat_eq
  exact Nat.mod_eq_of_lt x.toBitVec.isLt
theorem s_hash {N i : Nat} {f : Nat → Int32} (h : i + 2 < 65546) : fMatcher_hash N (nI i) f = some (nI (hk3 (fun j => (f j).toInt8) i)) := by
  rw [hk3, nI_tn, fMatcher_hash, show nI i + (1 : Int32) = nI (i + 1) from nI_add i 1, show nI i + (2 : Int32) = nI (i + 2) from nI_add i 2, if_pos (nI_in (by omega) (by omega)), if_pos (nI_in (by omega) (by omega)), if_pos (nI_in (by omega) (by omega)), nI_clamp (show i < 2 ^ 31 by omega), nI_clamp (show i + 1 < 2 ^ 31 by omega), nI_clamp (show i + 2 < 2 ^ 31 by omega)]
  rfl
theorem s_sameFrom_2 {N q p n most : Nat} {g : Nat → Int32} (hn : n ≤ 65536) (hqp : q < p) (hpn : p < n) (hm : most = min 258 (n - p)) : ∀ (m k i : Nat), i + m = most → m < k → fMo_sameFrom_2 N (nI n) (nI q) (nI p) g k (nI i) = some (nI (msf (fun j => (g j).toInt8) q p most m i))
  | 0, k + 1, i, hi, hk => by
    rw [fMo_sameFrom_2, msf]
    by_cases h : 258 ≤ i
    · simp (disch := omega) only [nlit, nI_add, nI_mul, nI_sub, nI_leI, nI_ltI, nI_eq, nI_inI', nI_inI, nI_lt0', nI_lt0, nI_clamp, nI_div, nI_rem, nI_shl, nI_shr, upd_same, nI_eqm, nI_m1le, nI_m2le, nI_m1lt, nI_m2lt, nI_m2m1, eq_self, not_false_eq_true, not_true_eq_false, if_pos, if_neg, if_true, if_false, Option.bind_some]
    · simp (disch := omega) only [nlit, nI_add, nI_mul, nI_sub, nI_leI, nI_ltI, nI_eq, nI_inI', nI_inI, nI_lt0', nI_lt0, nI_clamp, nI_div, nI_rem, nI_shl, nI_shr, upd_same, nI_eqm, nI_m1le, nI_m2le, nI_m1lt, nI_m2lt, nI_m2m1, eq_self, not_false_eq_true, not_true_eq_false, if_pos, if_neg, if_true, if_false, Option.bind_some]
  | m + 1, k + 1, i, hi, hk => by
    rw [fMo_sameFrom_2, msf, if_neg (show ¬ most ≤ i by omega)]
    by_cases e : (g (q + i)).toInt8 = (g (p + i)).toInt8
    · rw [if_pos e]
      simp (disch := omega) only [nlit, nI_add, nI_mul, nI_sub, nI_leI, nI_ltI, nI_eq, nI_inI', nI_inI, nI_lt0', nI_lt0, nI_clamp, nI_div, nI_rem, nI_shl, nI_shr, upd_same, nI_eqm, nI_m1le, nI_m2le, nI_m1lt, nI_m2lt, nI_m2m1, eq_self, not_false_eq_true, not_true_eq_false, if_pos, if_neg, if_true, if_false, Option.bind_some, i8_eq, e]
      exact s_sameFrom_2 hn hqp hpn hm m k (i + 1) (by omega) (by omega)
    · rw [if_neg e]
      simp (disch := omega) only [nlit, nI_add, nI_mul, nI_sub, nI_leI, nI_ltI, nI_eq, nI_inI', nI_inI, nI_lt0', nI_lt0, nI_clamp, nI_div, nI_rem, nI_shl, nI_shr, upd_same, nI_eqm, nI_m1le, nI_m2le, nI_m1lt, nI_m2lt, nI_m2m1, eq_self, not_false_eq_true, not_true_eq_false, if_pos, if_neg, if_true, if_false, Option.bind_some, i8_eq, e]
theorem s_sameFrom {N q p n most : Nat} {g : Nat → Int32} (hN : 300 ≤ N) (hn : n ≤ 65536) (hqp : q < p) (hpn : p < n) (hm : most = min 258 (n - p)) : fMo_sameFrom N (nI q) (nI p) (nI n) g = some (nI (ms (fun j => (g j).toInt8) q p most)) := by
  rw [fMo_sameFrom, show fMo_sameFrom_2 N (nI n) (nI q) (nI p) g N (0 : Int32) = _ from s_sameFrom_2 hn hqp hpn hm most N 0 (by omega) (by omega)]
  rfl
theorem pk2_m3 {R : Nat → Int8} {q p : Nat} : m3 R q p ↔ pk2 R q = pk2 R p ∧ R (q + 2) = R (p + 2) := by
  have a1 := u8_lt (R q)
  have a2 := u8_lt (R (q + 1))
  have a3 := u8_lt (R p)
  have a4 := u8_lt (R (p + 1))
  constructor
  · rintro ⟨h1, h2, h3⟩
    refine ⟨?_, h3⟩
    rw [pk2, pk2, h1, h2]
  · rintro ⟨h1, h2⟩
    rw [pk2, pk2] at h1
    exact ⟨u8_inj (by omega), u8_inj (by omega), h2⟩
theorem s_find_89 {N p n most : Nat} {g before : Nat → Int32} (hN : 300 ≤ N) (hn : n ≤ 65536) (hp : p + 2 < n) (hm : most = min 258 (n - p)) (hbef : ∀ i, i < p → before i = enc (lastK (pk2 (fun j => (g j).toInt8)) (pk2 (fun j => (g j).toInt8) i) i)) :
    ∀ (m k i s b d : Nat), i ≤ m → m < k → i ≤ p → b ≤ 258 → d ≤ 32768 → s < 2 ^ 31 → fMo_findTokens_89 N (nI n) (nI p) g before k (nI b) (nI d) (nI s) (enc (lastK (pk2 (fun j => (g j).toInt8)) (pk2 (fun j => (g j).toInt8) p) i)) = some (nI (scan (fun j => (g j).toInt8) p most i s b d).1, nI (scan (fun j => (g j).toInt8) p most i s b d).2) := by
  intro m
  induction m using Nat.strongRecOn with
  | _ m ih =>
    intro k i s b d hi hk hip hb hd hs31
    obtain ⟨k, rfl⟩ : ∃ j, k = j + 1 := ⟨k - 1, by omega⟩
    rw [fMo_findTokens_89]
    cases hl : lastK (pk2 (fun j => (g j).toInt8)) (pk2 (fun j => (g j).toInt8) p) i with
    | none =>
      have hno := lastK_none hl
      rw [scan_skip (j := 0) (Nat.zero_le _) (fun q _ h2 h3 => hno q h2 (pk2_m3.mp h3).1), if_pos enc_neg]
      rfl
    | some j =>
      obtain ⟨l1, l2, l3⟩ := lastK_some hl
      rw [scan_skip (j := j + 1) (by omega) (fun q h1 h2 h3 => l3 q (by omega) h2 (pk2_m3.mp h3).1)]
      have e1 : enc (some j) = nI j := rfl
      rw [e1, if_neg (show ¬ nI j < 0 from nI_nlt (a := j) (b := 0) (by omega) (by omega)), nI_sub (show j ≤ p by omega)]
      by_cases c4 : p - j ≤ 32768
      · rw [if_neg (show ¬ (32768 : Int32) < nI (p - j) from nI_nlt (a := 32768) c4 (by omega))]
        by_cases c2 : 64 ≤ s
        · rw [scan_stop (Or.inr c2), if_pos (show (64 : Int32) ≤ nI s from nI_le (a := 64) c2 hs31)]
        · rw [if_neg (show ¬ (64 : Int32) ≤ nI s from nI_ge (b := 64) (by omega) (by omega))]
          have hst : ¬ (32768 < p - j ∨ 64 ≤ s) := by omega
          have hin : ¬ (nI j < 0 ∨ 65536 ≤ j) := by
            rw [nI_lt0 (by omega), false_or]
            omega
          have hsf := s_sameFrom (N := N) (g := g) hN hn (show j < p by omega) (show p < n by omega) hm
          have h2 : ms (fun j => (g j).toInt8) j p most ≤ most := ms_le
          by_cases h3 : (g (j + 2)).toInt8 = (g (p + 2)).toInt8
          · have hm3 : m3 (fun j => (g j).toInt8) j p := pk2_m3.mpr ⟨l2, h3⟩
            rw [scan_m3 hst hm3]
            by_cases c6 : ms (fun j => (g j).toInt8) j p most ≤ b
            · have h110 : fMo_findTokens_110 N (nI n) (nI p) g (nI b) (nI d) (nI s) (nI j) = some (nI b, nI d, nI (s + 1)) := by
                rw [fMo_findTokens_110]
                simp (disch := omega) only [nlit, nI_add, nI_mul, nI_sub, nI_leI, nI_ltI, nI_eq, nI_inI', nI_inI, nI_lt0', nI_lt0, nI_clamp, nI_div, nI_rem, nI_shl, nI_shr, upd_same, nI_eqm, nI_m1le, nI_m2le, nI_m1lt, nI_m2lt, nI_m2m1, eq_self, not_false_eq_true, not_true_eq_false, if_pos, if_neg, if_true, if_false, Option.bind_some, i8_eq, h3, hsf]
              rw [h110, Option.bind_some, if_pos c6, nI_clamp (show j < 2 ^ 31 by omega), if_pos hin, hbef j (by omega), l2]
              exact ih j (by omega) k j (s + 1) b d (Nat.le_refl _) (by omega) (by omega) hb hd (by omega)
            · have h110 : fMo_findTokens_110 N (nI n) (nI p) g (nI b) (nI d) (nI s) (nI j) = some (nI (ms (fun j => (g j).toInt8) j p most), nI (p - j), nI (s + 1)) := by
                rw [fMo_findTokens_110]
                simp (disch := omega) only [nlit, nI_add, nI_mul, nI_sub, nI_leI, nI_ltI, nI_eq, nI_inI', nI_inI, nI_lt0', nI_lt0, nI_clamp, nI_div, nI_rem, nI_shl, nI_shr, upd_same, nI_eqm, nI_m1le, nI_m2le, nI_m1lt, nI_m2lt, nI_m2m1, eq_self, not_false_eq_true, not_true_eq_false, if_pos, if_neg, if_true, if_false, Option.bind_some, i8_eq, h3, hsf]
              rw [h110, Option.bind_some, if_neg c6, nI_clamp (show j < 2 ^ 31 by omega), if_pos hin, hbef j (by omega), l2]
              exact ih j (by omega) k j (s + 1) _ _ (Nat.le_refl _) (by omega) (by omega) (by omega) (by omega) (by omega)
          · have hm3 : ¬ m3 (fun j => (g j).toInt8) j p := fun h => h3 h.2.2
            have h110 : fMo_findTokens_110 N (nI n) (nI p) g (nI b) (nI d) (nI s) (nI j) = some (nI b, nI d, nI s) := by
              rw [fMo_findTokens_110]
              simp (disch := omega) only [nlit, nI_add, nI_mul, nI_sub, nI_leI, nI_ltI, nI_eq, nI_inI', nI_inI, nI_lt0', nI_lt0, nI_clamp, nI_div, nI_rem, nI_shl, nI_shr, upd_same, nI_eqm, nI_m1le, nI_m2le, nI_m1lt, nI_m2lt, nI_m2m1, eq_self, not_false_eq_true, not_true_eq_false, if_pos, if_neg, if_true, if_false, Option.bind_some, i8_eq, h3]
            rw [scan_n3 hst hm3, h110, Option.bind_some, nI_clamp (show j < 2 ^ 31 by omega), if_pos hin, hbef j (by omega), l2]
            exact ih j (by omega) k j s b d (Nat.le_refl _) (by omega) (by omega) hb hd hs31
      · rw [if_pos (show (32768 : Int32) < nI (p - j) from nI_lt (a := 32768) (by omega) (by omega)), scan_stop (Or.inl (by omega))]
/-- remembering places -/
theorem s_remember_2 {N n to : Nat} {f : Nat → Int32} {key : Nat → Nat} (hn : n ≤ 65536) (hto : to + 2 ≤ n) (hkh : ∀ e, e + 2 < 65546 → fMatcher_hash N (nI e) f = some (nI (key e))) (hkl : ∀ e, key e < 16384) : ∀ (m k e : Nat) (heads before : Nat → Int32), e + m = to → m < k → chain key 16384 e heads before → ∃ heads' before', fMatcher_remember_2 N (nI to) f k (nI e) heads before = some (heads', before') ∧ chain key 16384 to heads' before'
  | 0, k + 1, e, heads, before, he, hk, hc => by
    have ee : e = to := by omega
    subst ee
    refine ⟨heads, before, ?_, hc⟩
    rw [fMatcher_remember_2]
    simp (disch := omega) only [nlit, nI_add, nI_mul, nI_sub, nI_leI, nI_ltI, nI_eq, nI_inI', nI_inI, nI_lt0', nI_lt0, nI_clamp, nI_div, nI_rem, nI_shl, nI_shr, upd_same, nI_eqm, nI_m1le, nI_m2le, nI_m1lt, nI_m2lt, nI_m2m1, eq_self, not_false_eq_true, not_true_eq_false, if_pos, if_neg, if_true, if_false, Option.bind_some]
  | m + 1, k + 1, e, heads, before, he, hk, hc => by
    have hh := hkh e (by omega)
    have hl := hkl e
    obtain ⟨h', b', a1, a2⟩ := s_remember_2 (N := N) hn hto hkh hkl m k (e + 1) _ _ (by omega) (by omega) (chain_s hc hl)
    refine ⟨h', b', ?_, a2⟩
    rw [fMatcher_remember_2]
    simp (disch := omega) only [nlit, nI_add, nI_mul, nI_sub, nI_leI, nI_ltI, nI_eq, nI_inI', nI_inI, nI_lt0', nI_lt0, nI_clamp, nI_div, nI_rem, nI_shl, nI_shr, upd_same, nI_eqm, nI_m1le, nI_m2le, nI_m1lt, nI_m2lt, nI_m2m1, eq_self, not_false_eq_true, not_true_eq_false, if_pos, if_neg, if_true, if_false, Option.bind_some, hh]
    exact a1
theorem s_enter_2 {N n p : Nat} {g : Nat → Int32} {key : Nat → Nat} (hn : n ≤ 65536) (hp : p < n) (hkh : ∀ e, e + 1 < 65536 → fMo_pairAt N (nI e) g = some (nI (key e))) (hkl : ∀ e, key e < 65536) : ∀ (m k e : Nat) (heads before : Nat → Int32), e + m = p → m < k → chain key 65536 e heads before → ∃ heads' before', fMo_enter_2 N (nI n) (nI p) g k (nI e) heads before = some (nI p, heads', before') ∧ chain key 65536 p heads' before'
  | 0, k + 1, e, heads, before, he, hk, hc => by
    have ee : e = p := by omega
    subst ee
    refine ⟨heads, before, ?_, hc⟩
    rw [fMo_enter_2]
    simp (disch := omega) only [nlit, nI_add, nI_mul, nI_sub, nI_leI, nI_ltI, nI_eq, nI_inI', nI_inI, nI_lt0', nI_lt0, nI_clamp, nI_div, nI_rem, nI_shl, nI_shr, upd_same, nI_eqm, nI_m1le, nI_m2le, nI_m1lt, nI_m2lt, nI_m2m1, eq_self, not_false_eq_true, not_true_eq_false, if_pos, if_neg, if_true, if_false, Option.bind_some]
  | m + 1, k + 1, e, heads, before, he, hk, hc => by
    have hh := hkh e (by omega)
    have hl := hkl e
    obtain ⟨h', b', a1, a2⟩ := s_enter_2 (N := N) hn hp hkh hkl m k (e + 1) _ _ (by omega) (by omega) (chain_s hc hl)
    refine ⟨h', b', ?_, a2⟩
    rw [fMo_enter_2]
    simp (disch := omega) only [nlit, nI_add, nI_mul, nI_sub, nI_leI, nI_ltI, nI_eq, nI_inI', nI_inI, nI_lt0', nI_lt0, nI_clamp, nI_div, nI_rem, nI_shl, nI_shr, upd_same, nI_eqm, nI_m1le, nI_m2le, nI_m1lt, nI_m2lt, nI_m2m1, eq_self, not_false_eq_true, not_true_eq_false, if_pos, if_neg, if_true, if_false, Option.bind_some, hh]
    exact a1
