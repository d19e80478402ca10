/-! Tokens: chains of places, and the best match, the same on both sides. -/
/-- the last place before i with the key k -/
def lastK (key : Nat → Nat) (k : Nat) : Nat → Option Nat
  | 0 => none
  | i + 1 => if key i = k then some i else lastK key k i
def enc : Option Nat → Int32
  | none => -1
  | some j => nI j
theorem lastK_some {key : Nat → Nat} {k : Nat} : ∀ {i j : Nat}, lastK key k i = some j → j < i ∧ key j = k ∧ ∀ q, j < q → q < i → key q ≠ k
  | 0, j, h => by cases h
  | i + 1, j, h => by
    rw [lastK] at h
    by_cases e : key i = k
    · rw [if_pos e] at h
      cases h
      exact ⟨by omega, e, fun q a b => by omega⟩
    · rw [if_neg e] at h
      obtain ⟨a, b, c⟩ := lastK_some h
      refine ⟨by omega, b, fun q p1 p2 => ?_⟩
      by_cases eq : q = i
      · rw [eq]; exact e
      · exact c q p1 (by omega)
theorem lastK_none {key : Nat → Nat} {k : Nat} : ∀ {i : Nat}, lastK key k i = none → ∀ q, q < i → key q ≠ k
  | 0, _, q, h => by omega
  | i + 1, h, q, hq => by
    rw [lastK] at h
    by_cases e : key i = k
    · rw [if_pos e] at h; cases h
    · rw [if_neg e] at h
      by_cases eq : q = i
      · rw [eq]; exact e
      · exact lastK_none h q (by omega)
/-- the chains, e places being entered -/
def chain (key : Nat → Nat) (sz e : Nat) (heads before : Nat → Int32) : Prop := (∀ h, h < sz → heads h = enc (lastK key h e)) ∧ ∀ i, i < e → before i = enc (lastK key (key i) i)
theorem chain_s {key : Nat → Nat} {sz e : Nat} {heads before : Nat → Int32} (h : chain key sz e heads before) (hk : key e < sz) : chain key sz (e + 1) (upd heads (key e) (nI e)) (upd before e (heads (key e))) := by
  obtain ⟨h1, h2⟩ := h
  refine ⟨fun q hq => ?_, fun i hi => ?_⟩
  · rw [lastK]
    by_cases eq : q = key e
    · rw [eq, upd_same, if_pos rfl]
      rfl
    · rw [upd_ne eq, if_neg (fun x => eq x.symm)]
      exact h1 q hq
  · by_cases ei : i = e
    · rw [ei, upd_same]
      exact h1 _ hk
    · rw [upd_ne ei]
      exact h2 i (by omega)
/-- how many bytes are the same from i on, up to most -/
def msf (R : Nat → Int8) (q p most : Nat) : Nat → Nat → Nat
  | 0, i => i
  | k + 1, i => if most ≤ i then i else if R (q + i) = R (p + i) then msf R q p most k (i + 1) else i
theorem msf_le {R : Nat → Int8} {q p most : Nat} : ∀ {k i : Nat}, i ≤ most → msf R q p most k i ≤ most
  | 0, i, h => h
  | k + 1, i, h => by
    rw [msf]
    split
    · exact h
    · split
      · exact msf_le (by omega)
      · exact h
theorem msf_ge {R : Nat → Int8} {q p most : Nat} : ∀ {k i : Nat}, i ≤ msf R q p most k i
  | 0, i => Nat.le_refl _
  | k + 1, i => by
    rw [msf]
    split
    · exact Nat.le_refl _
    · split
      · exact Nat.le_trans (Nat.le_succ _) msf_ge
      · exact Nat.le_refl _
theorem msf_ne {R : Nat → Int8} {q p most b : Nat} (hb : R (q + b) ≠ R (p + b)) : ∀ {k i : Nat}, i ≤ b → msf R q p most k i ≤ b
  | 0, i, h => h
  | k + 1, i, h => by
    rw [msf]
    split
    · exact h
    · split
      · rename_i _ he
        by_cases e : i = b
        · subst e; exact absurd he hb
        · exact msf_ne hb (by omega)
      · exact h
theorem msf_fuel {R : Nat → Int8} {q p most : Nat} : ∀ {k k' i : Nat}, most ≤ i + k → most ≤ i + k' → msf R q p most k i = msf R q p most k' i
  | 0, 0, i, _, _ => rfl
  | 0, k' + 1, i, h, _ => by
    rw [msf, msf, if_pos (by omega)]
  | k + 1, 0, i, _, h => by
    rw [msf, msf, if_pos (by omega)]
  | k + 1, k' + 1, i, h, h' => by
    rw [msf, msf, msf_fuel (k := k) (k' := k') (by omega) (by omega)]
def m3 (R : Nat → Int8) (q p : Nat) : Prop := R q = R p ∧ R (q + 1) = R (p + 1) ∧ R (q + 2) = R (p + 2)
def ms (R : Nat → Int8) (q p most : Nat) : Nat := msf R q p most most 0
theorem ms_3 {R : Nat → Int8} {q p most : Nat} (h : m3 R q p) (hm : 3 ≤ most) : ms R q p most = msf R q p most most 3 := by
  obtain ⟨k, rfl⟩ : ∃ k, most = k + 3 := ⟨most - 3, by omega⟩
  rw [ms, msf, if_neg (by omega), if_pos (show R (q + 0) = R (p + 0) from h.1), msf, if_neg (by omega), if_pos (show R (q + (0 + 1)) = R (p + (0 + 1)) from h.2.1), msf, if_neg (by omega), if_pos (show R (q + (0 + 1 + 1)) = R (p + (0 + 1 + 1)) from h.2.2)]
  exact msf_fuel (by omega) (by omega)
theorem ms_ge3 {R : Nat → Int8} {q p most : Nat} (h : m3 R q p) (hm : 3 ≤ most) : 3 ≤ ms R q p most := by
  rw [ms_3 h hm]
  exact msf_ge
theorem ms_le {R : Nat → Int8} {q p most : Nat} : ms R q p most ≤ most := msf_le (Nat.zero_le _)
/-- the places before i, the nearest first: seen so far, the best so far and how far back -/
noncomputable def scan (R : Nat → Int8) (p most : Nat) : Nat → Nat → Nat → Nat → Nat × Nat
  | 0, _, b, d => (b, d)
  | i + 1, s, b, d => if 32768 < p - i ∨ 64 ≤ s then (b, d) else
    haveI := Classical.propDecidable (m3 R i p)
    if m3 R i p then (if ms R i p most ≤ b then scan R p most i (s + 1) b d else scan R p most i (s + 1) (ms R i p most) (p - i)) else scan R p most i s b d
theorem scan_m3 {R : Nat → Int8} {p most i s b d : Nat} (h1 : ¬ (32768 < p - i ∨ 64 ≤ s)) (h2 : m3 R i p) : scan R p most (i + 1) s b d = if ms R i p most ≤ b then scan R p most i (s + 1) b d else scan R p most i (s + 1) (ms R i p most) (p - i) := by
  rw [scan, if_neg h1, if_pos h2]
theorem scan_n3 {R : Nat → Int8} {p most i s b d : Nat} (h1 : ¬ (32768 < p - i ∨ 64 ≤ s)) (h2 : ¬ m3 R i p) : scan R p most (i + 1) s b d = scan R p most i s b d := by
  rw [scan, if_neg h1, if_neg h2]
theorem scan_stop {R : Nat → Int8} {p most s b d : Nat} : ∀ {i : Nat}, (32768 < p - (i - 1) ∨ 64 ≤ s) → scan R p most i s b d = (b, d)
  | 0, _ => rfl
  | i + 1, h => by
    rw [Nat.add_sub_cancel] at h
    rw [scan, if_pos h]
theorem scan_skip {R : Nat → Int8} {p most s b d j : Nat} : ∀ {i : Nat}, j ≤ i → (∀ q, j ≤ q → q < i → ¬ m3 R q p) → scan R p most i s b d = scan R p most j s b d
  | 0, h, _ => by
    have e : j = 0 := by omega
    rw [e]
  | i + 1, h, hq => by
    by_cases e : j = i + 1
    · rw [e]
    · by_cases hs : 32768 < p - i ∨ 64 ≤ s
      · rw [scan, if_pos hs, scan_stop (i := j) (by rcases hs with a | a <;> omega)]
      · rw [scan_n3 hs (hq i (by omega) (by omega))]
        exact scan_skip (by omega) (fun q a c => hq q a (by omega))
theorem scan_best {R : Nat → Int8} {p most b d : Nat} (hb : most ≤ b) : ∀ {i s : Nat}, scan R p most i s b d = (b, d)
  | 0, _ => rfl
  | i + 1, s => by
    by_cases hs : 32768 < p - i ∨ 64 ≤ s
    · rw [scan, if_pos hs]
    · by_cases h3 : m3 R i p
      · rw [scan_m3 hs h3, if_pos (Nat.le_trans ms_le hb)]
        exact scan_best hb
      · rw [scan_n3 hs h3]
        exact scan_best hb
/-- what a scan finds -/
theorem scan_ok {R : Nat → Int8} {p most : Nat} (hm : 3 ≤ most) : ∀ {i s b d : Nat}, i ≤ p → (b = 0 ∧ d = 0 ∨ 3 ≤ b ∧ b ≤ most ∧ 1 ≤ d ∧ d ≤ 32768 ∧ d ≤ p) → ((scan R p most i s b d).1 = 0 ∧ (scan R p most i s b d).2 = 0 ∨ 3 ≤ (scan R p most i s b d).1 ∧ (scan R p most i s b d).1 ≤ most ∧ 1 ≤ (scan R p most i s b d).2 ∧ (scan R p most i s b d).2 ≤ 32768 ∧ (scan R p most i s b d).2 ≤ p)
  | 0, s, b, d, _, h => h
  | i + 1, s, b, d, hi, h => by
    by_cases hs : 32768 < p - i ∨ 64 ≤ s
    · rw [scan_stop (i := i + 1) hs]
      exact h
    · by_cases h3 : m3 R i p
      · rw [scan_m3 hs h3]
        split
        · exact scan_ok hm (by omega) h
        · refine scan_ok hm (by omega) (Or.inr ⟨ms_ge3 h3 hm, ms_le, by omega, by omega, by omega⟩)
      · rw [scan_n3 hs h3]
        exact scan_ok hm (by omega) h

theorem i8_eq (x y : Int32) : (x.toInt8.toInt32 = y.toInt8.toInt32) = (x.toInt8 = y.toInt8) := propext ⟨fun h => by rw [← by8_id x, h, by8_id], fun h => by rw [h]⟩
/-- a byte as a number -/
def u8 (x : Int8) : Nat := x.toBitVec.toNat
theorem u8_lt (x : Int8) : u8 x < 256 := x.toBitVec.isLt
theorem u8_inj {x y : Int8} (h : u8 x = u8 y) : x = y := Int8.toBitVec_inj.mp (BitVec.eq_of_toNat_eq h)
theorem u8_int (x : Int32) : x.toInt8.toInt32 &&& nI 255 = nI (u8 x.toInt8) := by
  rw [pk_and (x.toInt8.toInt32) (m := nI 255) 8 (by decide)]
  congr 1
  have : ∀ y : Int8, y.toInt32.toBitVec.toNat % 2 ^ 8 = y.toBitVec.toNat := by
    intro y
    rw [Int8.toBitVec_toInt32, BitVec.toNat_signExtend]
    have hlt := y.toBitVec.isLt
    split <;> simp [BitVec.toNat_setWidth] <;> omega
  exact this _
theorem s_compare_12 {N q p most : Nat} {f : Nat → Int32} (hq : q < 65536) (hp : p + most ≤ 65546) (hm : most ≤ 258) (hq2 : q + most ≤ 65546) : ∀ (m k i : Nat), i + m = most → m < k → fMatcher_compare_12 N (nI q) (nI p) (nI most) f k (nI i) = some (nI (msf (fun j => (f j).toInt8) q p most m i))
  | 0, k + 1, i, hi, hk => by
    rw [fMatcher_compare_12, msf]
    simp (disch := omega) only [nlit, nI_add, nI_mul, nI_sub, nI_leI, nI_ltI, nI_eq, nI_inI', nI_inI, nI_lt0', nI_lt0, nI_clamp, nI_div, nI_rem, nI_shl, nI_shr, upd_same, nI_eqm, nI_m1le, nI_m2le, nI_m1lt, nI_m2lt, nI_m2m1, eq_self, not_false_eq_true, not_true_eq_false, if_pos, if_neg, if_true, if_false, Option.bind_some]
  | m + 1, k + 1, i, hi, hk => by
    rw [fMatcher_compare_12, msf, if_neg (show ¬ most ≤ i by omega)]
    by_cases e : (f (q + i)).toInt8 = (f (p + i)).toInt8
    · rw [if_pos e]
      simp (disch := omega) only [nlit, nI_add, nI_mul, nI_sub, nI_leI, nI_ltI, nI_eq, nI_inI', nI_inI, nI_lt0', nI_lt0, nI_clamp, nI_div, nI_rem, nI_shl, nI_shr, upd_same, nI_eqm, nI_m1le, nI_m2le, nI_m1lt, nI_m2lt, nI_m2m1, eq_self, not_false_eq_true, not_true_eq_false, if_pos, if_neg, if_true, if_false, Option.bind_some, i8_eq, e]
      exact s_compare_12 hq hp hm hq2 m k (i + 1) (by omega) (by omega)
    · rw [if_neg e]
      simp (disch := omega) only [nlit, nI_add, nI_mul, nI_sub, nI_leI, nI_ltI, nI_eq, nI_inI', nI_inI, nI_lt0', nI_lt0, nI_clamp, nI_div, nI_rem, nI_shl, nI_shr, upd_same, nI_eqm, nI_m1le, nI_m2le, nI_m1lt, nI_m2lt, nI_m2m1, eq_self, not_false_eq_true, not_true_eq_false, if_pos, if_neg, if_true, if_false, Option.bind_some, i8_eq, e]
theorem s_compare {N q p most b : Nat} {d : Int32} {f : Nat → Int32} (hN : 300 ≤ N) (hqp : q < p) (hp : p + most ≤ 65536) (hm : most ≤ 258) (hm3 : 3 ≤ most) (hb : b ≤ 258) (h3 : m3 (fun j => (f j).toInt8) q p) : fMatcher_compare N (nI q) (nI p) (nI most) (nI b) d f = some (if ms (fun j => (f j).toInt8) q p most ≤ b then (nI b, d) else (nI (ms (fun j => (f j).toInt8) q p most), nI (p - q))) := by
  have h1 := s_compare_12 (N := N) (q := q) (p := p) (most := most) (f := f) (by omega) (by omega) hm (by omega) (most - 3) N 3 (by omega) (by omega)
  rw [msf_fuel (k' := most) (by omega) (by omega), ← ms_3 h3 hm3] at h1
  have h2 : ms (fun j => (f j).toInt8) q p most ≤ most := ms_le
  rw [fMatcher_compare, show fMatcher_compare_12 N (nI q) (nI p) (nI most) f N (3 : Int32) = _ from h1, Option.bind_some]
  by_cases e : ms (fun j => (f j).toInt8) q p most ≤ b
  · rw [if_pos e, if_pos (nI_le e (by omega))]
  · rw [if_neg e, if_neg (by rw [nI_leI (by omega) (by omega)]; exact e), nI_sub (by omega)]
theorem s_sameThree {N q p : Nat} {f : Nat → Int32} (hqp : q < p) (hp : p + 2 < 65536) : ∃ z : Bool, fMatcher_sameThree N (nI q) (nI p) f = some z ∧ (z = true ↔ m3 (fun j => (f j).toInt8) q p) := by
  rw [fMatcher_sameThree]
  by_cases h1 : (f q).toInt8 = (f p).toInt8
  · by_cases h2 : (f (q + 1)).toInt8 = (f (p + 1)).toInt8
    · by_cases h3 : (f (q + 2)).toInt8 = (f (p + 2)).toInt8
      · refine ⟨true, ?_, by simp [m3, h1, h2, h3]⟩
        simp (disch := omega) only [nlit, nI_add, nI_mul, nI_sub, nI_leI, nI_ltI, nI_eq, nI_inI', nI_inI, nI_lt0', nI_lt0, nI_clamp, nI_div, nI_rem, nI_shl, nI_shr, upd_same, nI_eqm, nI_m1le, nI_m2le, nI_m1lt, nI_m2lt, nI_m2m1, eq_self, not_false_eq_true, not_true_eq_false, if_pos, if_neg, if_true, if_false, Option.bind_some, i8_eq, h1, h2, h3]
      · refine ⟨false, ?_, by simp [m3, h3]⟩
        simp (disch := omega) only [nlit, nI_add, nI_mul, nI_sub, nI_leI, nI_ltI, nI_eq, nI_inI', nI_inI, nI_lt0', nI_lt0, nI_clamp, nI_div, nI_rem, nI_shl, nI_shr, upd_same, nI_eqm, nI_m1le, nI_m2le, nI_m1lt, nI_m2lt, nI_m2m1, eq_self, not_false_eq_true, not_true_eq_false, if_pos, if_neg, if_true, if_false, Option.bind_some, i8_eq, h1, h2, h3]
    · refine ⟨false, ?_, by simp [m3, h2]⟩
      simp (disch := omega) only [nlit, nI_add, nI_mul, nI_sub, nI_leI, nI_ltI, nI_eq, nI_inI', nI_inI, nI_lt0', nI_lt0, nI_clamp, nI_div, nI_rem, nI_shl, nI_shr, upd_same, nI_eqm, nI_m1le, nI_m2le, nI_m1lt, nI_m2lt, nI_m2m1, eq_self, not_false_eq_true, not_true_eq_false, if_pos, if_neg, if_true, if_false, Option.bind_some, i8_eq, h1, h2]
  · refine ⟨false, ?_, by simp [m3, h1]⟩
    simp (disch := omega) only [nlit, nI_add, nI_mul, nI_sub, nI_leI, nI_ltI, nI_eq, nI_inI', nI_inI, nI_lt0', nI_lt0, nI_clamp, nI_div, nI_rem, nI_shl, nI_shr, upd_same, nI_eqm, nI_m1le, nI_m2le, nI_m1lt, nI_m2lt, nI_m2m1, eq_self, not_false_eq_true, not_true_eq_false, if_pos, if_neg, if_true, if_false, Option.bind_some, i8_eq, h1]
theorem enc_neg : enc none < 0 := by decide
/-- the class's walk along a chain is the scan -/
theorem s_find_53 {N p most : Nat} {key : Nat → Nat} {f before : Nat → Int32} (hN : 300 ≤ N) (hm3 : 3 ≤ most) (hm : most ≤ 258) (hp : p + most ≤ 65536) (hkey : ∀ q, q < p → m3 (fun j => (f j).toInt8) q p → key q = key p) (hbef : ∀ i, i < p → before i = enc (lastK key (key i) i)) :
    ∀ (m k i s kk b : Nat) (d : Nat), i ≤ m → m < k → i ≤ p → kk ≤ p - i → b ≤ 258 → s < 2 ^ 31 → ∃ r, fMatcher_findMatch_53 N f (nI p) (nI most) before k (enc (lastK key (key p) i)) (nI s) (nI kk) (nI b) (nI d) = some r ∧ (r = .inl (nI (scan (fun j => (f j).toInt8) p most i s b d).1, nI (scan (fun j => (f j).toInt8) p most i s b d).2) ∨ r = .inr (nI (scan (fun j => (f j).toInt8) p most i s b d).1, nI (scan (fun j => (f j).toInt8) p most i s b d).2)) := by
  intro m
  induction m using Nat.strongRecOn with
  | _ m ih =>
    intro k i s kk b d hi hk hip hkk hb hs31
    obtain ⟨k, rfl⟩ : ∃ j, k = j + 1 := ⟨k - 1, by omega⟩
    rw [fMatcher_findMatch_53]
    by_cases c1 : 32768 ≤ kk
    · have hsc : scan (fun j => (f j).toInt8) p most i s b d = (b, d) := by
        by_cases h0 : i = 0
        · rw [h0]; rfl
        · exact scan_stop (Or.inl (by omega))
      rw [hsc, if_pos (show (32768 : Int32) ≤ nI kk from nI_le (a := 32768) c1 (by omega))]
      exact ⟨_, rfl, Or.inl rfl⟩
    · rw [if_neg (show ¬ (32768 : Int32) ≤ nI kk from nI_ge (b := 32768) (by omega) (by omega))]
      by_cases c2 : 64 ≤ s
      · rw [scan_stop (Or.inr c2), if_pos (show (64 : Int32) ≤ nI s from nI_le (a := 64) c2 hs31)]
        exact ⟨_, rfl, Or.inl rfl⟩
      · rw [if_neg (show ¬ (64 : Int32) ≤ nI s from nI_ge (b := 64) (by omega) (by omega))]
        by_cases c3 : most ≤ b
        · rw [scan_best c3, if_pos (nI_le c3 (by omega))]
          exact ⟨_, rfl, Or.inl rfl⟩
        · rw [if_neg (show ¬ nI most ≤ nI b from nI_ge (by omega) (by omega))]
          cases hl : lastK key (key p) i with
          | none =>
            have hn := lastK_none hl
            rw [scan_skip (j := 0) (Nat.zero_le _) (fun q _ h2 h3 => hn q h2 (hkey q (by omega) h3)), if_pos enc_neg]
            exact ⟨_, rfl, Or.inr rfl⟩
          | some j =>
            obtain ⟨l1, l2, l3⟩ := lastK_some hl
            rw [scan_skip (j := j + 1) (by omega) (fun q h1 h2 h3 => l3 q (by omega) h2 (hkey q (by omega) h3))]
            have e1 : enc (some j) = nI j := rfl
            rw [e1, if_neg (show ¬ nI j < 0 from nI_nlt (a := j) (b := 0) (by omega) (by omega)), nI_sub (show j ≤ p by omega)]
            by_cases c4 : p - j ≤ 32768
            · rw [if_pos (show nI (p - j) ≤ (32768 : Int32) from nI_le (b := 32768) c4 (by omega))]
              have hst : ¬ (32768 < p - j ∨ 64 ≤ s) := by omega
              obtain ⟨z, z1, z2⟩ := s_sameThree (N := N) (f := f) (show j < p by omega) (show p + 2 < 65536 by omega)
              rw [z1, Option.bind_some, nI_clamp (show j < 2 ^ 31 by omega), hbef j (by omega), l2]
              have hin : ¬ (nI j < 0 ∨ 65536 ≤ j) := by
                rw [nI_lt0 (by omega), false_or]
                omega
              by_cases h3 : m3 (fun j => (f j).toInt8) j p
              · rw [z2.mpr h3, if_neg (by decide), nI_add, nI_add, nI_clamp (show j + b < 2 ^ 31 by omega), nI_clamp (show p + b < 2 ^ 31 by omega)]
                have hin2 : ¬ (nI (j + b) < 0 ∨ 65546 ≤ j + b) := by
                  rw [nI_lt0 (by omega), false_or]
                  omega
                have hin3 : ¬ (nI (p + b) < 0 ∨ 65546 ≤ p + b) := by
                  rw [nI_lt0 (by omega), false_or]
                  omega
                rw [if_pos hin2, if_pos hin3, scan_m3 hst h3]
                by_cases c5 : (f (j + b)).toInt8 = (f (p + b)).toInt8
                · rw [if_pos (show (f (j + b)).toInt8.toInt32 = (f (p + b)).toInt8.toInt32 by rw [c5]), s_compare hN (by omega) hp hm hm3 (by omega) h3, Option.bind_some]
                  by_cases c6 : ms (fun j => (f j).toInt8) j p most ≤ b
                  · rw [if_pos c6, if_pos c6, if_pos hin, nI_1, nI_1]
                    exact ih j (by omega) k j (s + 1) (kk + 1) b d (Nat.le_refl _) (by omega) (by omega) (by omega) hb (by omega)
                  · rw [if_neg c6, if_neg c6, if_pos hin, nI_1, nI_1]
                    have h2 : ms (fun j => (f j).toInt8) j p most ≤ most := ms_le
                    exact ih j (by omega) k j (s + 1) (kk + 1) _ _ (Nat.le_refl _) (by omega) (by omega) (by omega) (by omega) (by omega)
                · have c6 : ms (fun j => (f j).toInt8) j p most ≤ b := msf_ne (R := fun j => (f j).toInt8) c5 (Nat.zero_le _)
                  rw [if_neg (show ¬ (f (j + b)).toInt8.toInt32 = (f (p + b)).toInt8.toInt32 by rw [i8_eq]; exact c5), if_pos c6, if_pos hin, nI_1, nI_1]
                  exact ih j (by omega) k j (s + 1) (kk + 1) b d (Nat.le_refl _) (by omega) (by omega) (by omega) hb (by omega)
              · have hz : z = false := by
                  cases z with
                  | false => rfl
                  | true => exact absurd (z2.mp rfl) h3
                rw [hz, if_pos (show bI false = 0 from rfl), if_pos hin, scan_n3 hst h3, nI_1]
                exact ih j (by omega) k j s (kk + 1) b d (Nat.le_refl _) (by omega) (by omega) (by omega) hb hs31
            · rw [if_neg (show ¬ nI (p - j) ≤ (32768 : Int32) from nI_ge (a := 32768) (by omega) (by omega)), scan_stop (Or.inl (by omega))]
              exact ⟨_, rfl, Or.inr rfl⟩
