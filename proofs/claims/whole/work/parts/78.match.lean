/-! Tokens: the loop over a row. -/
theorem nI_m32 {m : Nat} : nI (m + 2) - (3 : Int32) + (1 : Int32) = nI m := by
  rw [← nI_add, Int32.sub_eq_add_neg, Int32.add_assoc, Int32.add_assoc, show nI 2 + (-3 + (1 : Int32)) = 0 from by decide, Int32.add_zero]
theorem s_remember {N n p st : Nat} {f heads before : Nat → Int32} {key : Nat → Nat} (hN : 70000 ≤ N) (hn : n ≤ 65536) (hp : p < n) (hst : 1 ≤ st) (hps : p + st ≤ n) (hkh : ∀ e, e + 2 < 65546 → fMatcher_hash N (nI e) f = some (nI (key e))) (hkl : ∀ e, key e < 16384) (hc : chain key 16384 (min p (n - 2)) heads before) :
    ∃ heads' before', fMatcher_remember N (nI p) (if (nI n - (3 : Int32) + (1 : Int32)) < nI (p + st) then (nI n - (3 : Int32) + (1 : Int32)) else nI (p + st)) f heads before = some (heads', before') ∧ chain key 16384 (min (p + st) (n - 2)) heads' before' := by
  rw [fMatcher_remember]
  obtain ⟨N, rfl⟩ : ∃ k, N = k + 1 := ⟨N - 1, by omega⟩
  by_cases h1 : n = 1
  · subst h1
    have hp0 : p = 0 := by omega
    have hs1 : st = 1 := by omega
    subst hp0
    subst hs1
    refine ⟨heads, before, ?_, hc⟩
    rw [fMatcher_remember_2]
    rfl
  · obtain ⟨m, rfl⟩ : ∃ m, n = m + 2 := ⟨n - 2, by omega⟩
    have e1 : (if (nI (m + 2) - (3 : Int32) + (1 : Int32)) < nI (p + st) then (nI (m + 2) - (3 : Int32) + (1 : Int32)) else nI (p + st)) = nI (min (p + st) m) := by
      rw [nI_m32]
      by_cases q : m < p + st
      · rw [if_pos (nI_lt q (by omega)), Nat.min_eq_right (by omega)]
      · rw [if_neg (nI_nlt (by omega) (by omega)), Nat.min_eq_left (by omega)]
    rw [e1]
    rw [Nat.add_sub_cancel] at hc ⊢
    by_cases hpm : p ≤ m
    · rw [Nat.min_eq_left hpm] at hc
      obtain ⟨h', b', a1, a2⟩ := s_remember_2 (N := N + 1) (n := m + 2) (to := min (p + st) m) (f := f) (key := key) hn (by omega) hkh hkl (min (p + st) m - p) (N + 1) p heads before (by omega) (by omega) hc
      refine ⟨h', b', ?_, a2⟩
      rw [a1]
      rfl
    · refine ⟨heads, before, ?_, ?_⟩
      · rw [fMatcher_remember_2, if_pos (nI_le (by omega) (by omega))]
        rfl
      · rw [show min (p + st) m = min p m by omega]
        exact hc
/-- the best match at a place -/
noncomputable def bestM (R : Nat → Int8) (n p : Nat) : Nat × Nat := if p + 2 < n then scan R p (min 258 (n - p)) p 0 0 0 else (0, 0)
theorem bestM_ok {R : Nat → Int8} {n p : Nat} (hp : p < n) : ((bestM R n p).1 = 0 ∧ (bestM R n p).2 = 0) ∨ (3 ≤ (bestM R n p).1 ∧ (bestM R n p).1 ≤ 258 ∧ p + (bestM R n p).1 ≤ n ∧ 1 ≤ (bestM R n p).2 ∧ (bestM R n p).2 ≤ 32768) := by
  rw [bestM]
  by_cases h : p + 2 < n
  · rw [if_pos h]
    rcases scan_ok (R := R) (p := p) (most := min 258 (n - p)) (by omega) (i := p) (s := 0) (b := 0) (d := 0) (Nat.le_refl _) (Or.inl ⟨rfl, rfl⟩) with a | a
    · exact Or.inl a
    · exact Or.inr (by omega)
  · rw [if_neg h]
    exact Or.inl ⟨rfl, rfl⟩
theorem msf_congr {R R' : Nat → Int8} {q p most n : Nat} (h : ∀ j, j < n → R j = R' j) (hqp : q ≤ p) (hp : p + most ≤ n) : ∀ {k i : Nat}, msf R q p most k i = msf R' q p most k i
  | 0, _ => rfl
  | k + 1, i => by
    rw [msf, msf]
    by_cases hm : most ≤ i
    · rw [if_pos hm, if_pos hm]
    · rw [if_neg hm, if_neg hm, h (q + i) (by omega), h (p + i) (by omega), msf_congr h hqp hp]
theorem scan_congr {R R' : Nat → Int8} {p most n : Nat} (h : ∀ j, j < n → R j = R' j) (hp : p + 2 < n) (hm : p + most ≤ n) : ∀ {i s b d : Nat}, i ≤ p → scan R p most i s b d = scan R' p most i s b d
  | 0, _, _, _, _ => rfl
  | i + 1, s, b, d, hi => by
    by_cases hs : 32768 < p - i ∨ 64 ≤ s
    · rw [scan_stop (i := i + 1) hs, scan_stop (i := i + 1) hs]
    · have e3 : m3 R i p ↔ m3 R' i p := by
        rw [m3, m3, h i (by omega), h p (by omega), h (i + 1) (by omega), h (p + 1) (by omega), h (i + 2) (by omega), h (p + 2) (by omega)]
      have em : ms R i p most = ms R' i p most := msf_congr h (by omega) hm
      by_cases h3 : m3 R i p
      · rw [scan_m3 hs h3, scan_m3 hs (e3.mp h3), em, scan_congr h hp hm (by omega), scan_congr h hp hm (by omega)]
      · rw [scan_n3 hs h3, scan_n3 hs (fun q => h3 (e3.mpr q)), scan_congr h hp hm (by omega)]
theorem bestM_congr {R R' : Nat → Int8} {n p : Nat} (h : ∀ j, j < n → R j = R' j) : bestM R n p = bestM R' n p := by
  rw [bestM, bestM]
  by_cases hp : p + 2 < n
  · rw [if_pos hp, if_pos hp, scan_congr h hp (by omega) (Nat.le_refl _)]
  · rw [if_neg hp, if_neg hp]
theorem s_findMatch {N n p : Nat} {f heads before : Nat → Int32} {key : Nat → Nat} (hN : 70000 ≤ N) (hn : n ≤ 65536) (hp : p < n) (hkh : ∀ e, e + 2 < 65546 → fMatcher_hash N (nI e) f = some (nI (key e))) (hkl : ∀ e, key e < 16384) (hk3 : ∀ q, q < p → m3 (fun j => (f j).toInt8) q p → key q = key p) (hc : chain key 16384 (min p (n - 2)) heads before) :
    fMatcher_findMatch N (nI p) (nI n) f heads before = some (nI (bestM (fun j => (f j).toInt8) n p).1, nI (bestM (fun j => (f j).toInt8) n p).2) := by
  have e1 : (if (nI n - nI p) < (258 : Int32) then (nI n - nI p) else (258 : Int32)) = nI (min 258 (n - p)) := by
    rw [nI_sub (by omega), show (258 : Int32) = nI 258 from rfl]
    by_cases q : n - p < 258
    · rw [if_pos (nI_lt q (by omega)), Nat.min_eq_right (by omega)]
    · rw [if_neg (nI_nlt (by omega) (by omega)), Nat.min_eq_left (by omega)]
  rw [fMatcher_findMatch, e1, bestM]
  by_cases h : p + 2 < n
  · rw [if_pos h, if_pos (show (3 : Int32) ≤ nI (min 258 (n - p)) from nI_le (a := 3) (by omega) (by omega)), hkh p (by omega), Option.bind_some]
    have hl := hkl p
    rw [if_pos (nI_in hl (by omega)), nI_clamp (by omega)]
    rw [show min p (n - 2) = p by omega] at hc
    obtain ⟨r, r1, r2⟩ := s_find_53 (N := N) (p := p) (most := min 258 (n - p)) (key := key) (f := f) (before := before) (by omega) (by omega) (by omega) (by omega) hk3 hc.2 p N p 0 0 0 0 (Nat.le_refl _) (by omega) (Nat.le_refl _) (by omega) (by omega) (by omega)
    rw [hc.1 _ hl]
    rw [show fMatcher_findMatch_53 N f (nI p) (nI (min 258 (n - p))) before N (enc (lastK key (key p) p)) (0 : Int32) (0 : Int32) (0 : Int32) (0 : Int32) = some r from r1, Option.bind_some]
    rcases r2 with rfl | rfl <;> rfl
  · rw [if_neg h, if_neg (show ¬ (3 : Int32) ≤ nI (min 258 (n - p)) from nI_ge (b := 3) (by omega) (by omega))]
    rfl
theorem s_find_ref {N n p : Nat} {g heads before : Nat → Int32} (hN : 70000 ≤ N) (hn : n ≤ 65536) (hp : p < n) (hc : chain (pk2 (fun j => (g j).toInt8)) 65536 p heads before) :
    ∃ q, fMo_findTokens_63 N (nI n) heads (nI p) g = some q ∧ fMo_findTokens_89 N (nI n) (nI p) g before N 0 0 0 q = some (nI (bestM (fun j => (g j).toInt8) n p).1, nI (bestM (fun j => (g j).toInt8) n p).2) := by
  rw [bestM, fMo_findTokens_63, show nI p + (2 : Int32) = nI (p + 2) from nI_add p 2]
  by_cases h : p + 2 < n
  · have hl := pk2_lt (fun j => (g j).toInt8) p
    rw [if_pos h, if_neg (show ¬ nI n ≤ nI (p + 2) from nI_ge h (by omega)), s_pairAt (by omega), Option.bind_some]
    rw [if_pos (nI_in hl (by omega)), nI_clamp (by omega)]
    refine ⟨_, rfl, ?_⟩
    rw [hc.1 _ hl]
    exact s_find_89 (by omega) hn h rfl hc.2 p N p 0 0 0 (Nat.le_refl _) (by omega) (Nat.le_refl _) (by omega) (by omega) (by omega)
  · obtain ⟨N, rfl⟩ : ∃ k, N = k + 1 := ⟨N - 1, by omega⟩
    rw [if_neg h, if_pos (nI_le (by omega) (by omega))]
    refine ⟨_, rfl, ?_⟩
    rw [fMo_findTokens_89]
    rfl
