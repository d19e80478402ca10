/-! Counts of symbols, both sides. -/
def CS (Lf Df : Nat → Nat) (k s : Nat) : Nat := cnt (sy Lf Df) k s + (if s = 256 then 1 else 0)
def CD (Lf Df : Nat → Nat) (k d : Nat) : Nat := cnt (dy Lf Df) k d
theorem s_count_35 {N t : Nat} {Lf Df : Nat → Nat} {tc tm : Nat → Int32} (hN : 40 ≤ N) (ht : t ≤ 65536) (htok : TOK t Lf Df tc tm) :
    ∀ (m k i : Nat) (sc dc : Nat → Int32), i + m = t → m < k → (∀ s, s < 286 → sc s = nI (CS Lf Df i s)) → (∀ d, d < 30 → dc d = nI (CD Lf Df i d)) → ∃ sc' dc', fPacker_countSymbols_35 N (nI t) tc k (nI i) sc dc = some (sc', dc') ∧ (∀ s, s < 286 → sc' s = nI (CS Lf Df t s)) ∧ ∀ d, d < 30 → dc' d = nI (CD Lf Df t d)
  | 0, k + 1, i, sc, dc, hi, hk, h1, h2 => by
    have e : i = t := by omega
    subst e
    refine ⟨sc, dc, ?_, h1, h2⟩
    rw [fPacker_countSymbols_35, if_pos (nI_le (Nat.le_refl _) (by omega))]
  | m + 1, k + 1, i, sc, dc, hi, hk, h1, h2 => by
    obtain ⟨o1, o2, o3⟩ := htok i (by omega)
    rw [fPacker_countSymbols_35, if_neg (show ¬ nI t ≤ nI i from nI_ge (by omega) (by omega)), if_pos (nI_in (by omega) (by omega)), nI_clamp (by omega), o2]
    by_cases h0 : Lf i = 0
    · obtain ⟨c1, c2⟩ := cTok_lit o1 h0
      have hd : Df i < 256 := by
        rcases o1 with h | h
        · exact h.2
        · omega
      have hsy : sy Lf Df i = Df i := if_pos h0
      have hdy : dy Lf Df i = 1000 := if_pos h0
      rw [c1, c2, if_pos rfl, if_pos (nI_in (by omega) (by omega)), if_pos (nI_in (by omega) (by omega)), nI_clamp (by omega), h1 _ (by omega), nI_1, nI_1]
      refine s_count_35 hN ht htok m k (i + 1) _ _ (by omega) (by omega) ?_ ?_
      · intro s hs
        by_cases e : s = Df i
        · rw [e, upd_same, CS, CS, cnt, if_pos hsy, Nat.add_right_comm]
        · rw [upd_ne e, h1 s hs, CS, CS, cnt, if_neg (show ¬ sy Lf Df i = s by rw [hsy]; exact Ne.symm e), Nat.add_zero]
      · intro d hd2
        rw [h2 d hd2, CD, CD, cnt, if_neg (by omega), Nat.add_zero]
    · obtain ⟨c1, c2, c3, c4, c5, c6⟩ := cTok_match o1 h0
      have hsy : sy Lf Df i = 257 + lS (Lf i) := if_neg h0
      have hdy : dy Lf Df i = dS (Df i) := if_neg h0
      obtain ⟨l1, -⟩ := lS_ok c3 c4
      obtain ⟨d1, -⟩ := dS_ok c5
      rw [c1, c2, if_neg (show ¬ nI (Df i) = (0 : Int32) by rw [show (0 : Int32) = nI 0 from rfl, nI_eq (by omega) (by omega)]; omega), s_lna_len (by omega) c3 c4, Option.bind_some, show (257 : Int32) + nI (lS (Lf i)) = nI (257 + lS (Lf i)) from nI_add 257 _, if_pos (nI_in (by omega) (by omega)), if_pos (nI_in (by omega) (by omega)), s_lna_dst (by omega) c5 c6, Option.bind_some, if_pos (nI_in (by omega) (by omega)), if_pos (nI_in (by omega) (by omega)), nI_clamp (show 257 + lS (Lf i) < 2 ^ 31 by omega), nI_clamp (show dS (Df i) < 2 ^ 31 by omega), h1 _ (by omega), h2 _ d1, nI_1, nI_1, nI_1]
      refine s_count_35 hN ht htok m k (i + 1) _ _ (by omega) (by omega) ?_ ?_
      · intro s hs
        by_cases e : s = 257 + lS (Lf i)
        · rw [e, upd_same, CS, CS, cnt, if_pos hsy, Nat.add_right_comm]
        · rw [upd_ne e, h1 s hs, CS, CS, cnt, if_neg (show ¬ sy Lf Df i = s by rw [hsy]; exact Ne.symm e), Nat.add_zero]
      · intro d hd2
        by_cases e : d = dS (Df i)
        · rw [e, upd_same, CD, CD, cnt, if_pos hdy]
        · rw [upd_ne e, h2 d hd2, CD, CD, cnt, if_neg (show ¬ dy Lf Df i = d by rw [hdy]; exact Ne.symm e), Nat.add_zero]
theorem s_countSymbols {N t : Nat} {Lf Df : Nat → Nat} {tc tm sc dc : Nat → Int32} (hN : 70000 ≤ N) (ht : t ≤ 65536) (htok : TOK t Lf Df tc tm) : ∃ sc' dc', fPacker_countSymbols N sc dc (nI t) tc = some (sc', dc') ∧ (∀ s, s < 286 → sc' s = nI (CS Lf Df t s)) ∧ ∀ d, d < 30 → dc' d = nI (CD Lf Df t d) := by
  obtain ⟨s0, a1, a2⟩ := s_fill (N := N) (x1 := 0) (n := 286) (by omega) (by omega) sc
  obtain ⟨d0, b1, b2⟩ := s_fill (N := N) (x1 := 0) (n := 30) (by omega) (by omega) dc
  obtain ⟨sc', dc', c1, c2, c3⟩ := s_count_35 (N := N) (by omega) ht htok t N 0 (upd s0 256 (nI 1)) d0 (by omega) (by omega) (by
    intro s hs
    rw [CS, cnt, Nat.zero_add]
    by_cases e : s = 256
    · rw [e, upd_same, if_pos rfl]
    · rw [upd_ne e, a2 s hs, if_neg e]
      rfl) (fun d hd => by rw [b2 d hd, CD, cnt]; rfl)
  refine ⟨sc', dc', ?_, c2, c3⟩
  rw [fPacker_countSymbols, a1, Option.bind_some, b1, Option.bind_some, if_pos (by decide)]
  rw [show fPacker_countSymbols_35 N (nI t) tc N (0 : Int32) (upd s0 (256 : Int32).toNatClampNeg (1 : Int32)) d0 = some (sc', dc') from c1]
  rfl
theorem s_Mo_count_2 {N : Nat} : ∀ (m k i : Nat) (g : Nat → Int32), i + m = 320 → m < k → (∀ j, j < i → g j = nI 0) → ∃ g', fMo_count_2 N k (nI i) g = some g' ∧ ∀ j, j < 320 → g' j = nI 0
  | 0, k + 1, i, g, hi, hk, hg => by
    rw [fMo_count_2]
    have e : i = 320 := by omega
    subst e
    refine ⟨g, ?_, hg⟩
    simp (disch := omega) only [nlit, nI_add, nI_mul, nI_sub, nI_leI, nI_ltI, nI_eq, nI_inI', nI_inI, nI_lt0', nI_lt0, nI_clamp, nI_div, nI_rem, nI_shl, nI_shr, upd_same, nI_eqm, nI_m1le, nI_m2le, nI_m1lt, nI_m2lt, nI_m2m1, eq_self, not_false_eq_true, not_true_eq_false, if_pos, if_neg, if_true, if_false, Option.bind_some]
  | m + 1, k + 1, i, g, hi, hk, hg => by
    rw [fMo_count_2]
    simp (disch := omega) only [nlit, nI_add, nI_mul, nI_sub, nI_leI, nI_ltI, nI_eq, nI_inI', nI_inI, nI_lt0', nI_lt0, nI_clamp, nI_div, nI_rem, nI_shl, nI_shr, upd_same, nI_eqm, nI_m1le, nI_m2le, nI_m1lt, nI_m2lt, nI_m2m1, eq_self, not_false_eq_true, not_true_eq_false, if_pos, if_neg, if_true, if_false, Option.bind_some]
    refine s_Mo_count_2 m k (i + 1) _ (by omega) (by omega) ?_
    intro j hj
    by_cases e : j = i
    · rw [e, upd_same]
    · rw [upd_ne e]
      exact hg j (by omega)
theorem s_Mo_count_24 {N t : Nat} {Lf Df : Nat → Nat} {tc tm : Nat → Int32} (hN : 40 ≤ N) (ht : t ≤ 65536) (htok : TOK t Lf Df tc tm) (hend : tm t = nI 256) :
    ∀ (m k i : Nat) (c : Nat → Int32), i + m = t → m + 1 < k → (∀ s, s < 288 → c s = nI (cnt (sy Lf Df) i s)) → (∀ d, d < 32 → c (288 + d) = nI (CD Lf Df i d)) → ∃ c', fMo_count_24 N (nI (t + 1)) tm k (nI i) c = some c' ∧ (∀ s, s < 288 → c' s = nI (CS Lf Df t s)) ∧ ∀ d, d < 32 → c' (288 + d) = nI (CD Lf Df t d)
  | 0, k + 2, i, c, hi, hk, h1, h2 => by
    have e : i = t := by omega
    subst e
    have hm : fMo_isMatch N (nI 256) = some false := rfl
    refine ⟨upd c 256 (nI (cnt (sy Lf Df) i 256 + 1)), ?_, ?_, ?_⟩
    · rw [fMo_count_24, if_neg (show ¬ nI (i + 1) ≤ nI i from nI_ge (by omega) (by omega)), if_pos (nI_in (by omega) (by omega)), nI_clamp (by omega), hend, hm, Option.bind_some, if_pos (show bI false = 0 from rfl), if_pos (nI_in (show 256 < 320 by omega) (by omega)), if_pos (nI_in (show 256 < 320 by omega) (by omega)), nI_clamp (show 256 < 2 ^ 31 by omega), h1 256 (by omega), nI_1, nI_1]
      rw [fMo_count_24, if_pos (nI_le (Nat.le_refl _) (by omega))]
    · intro s hs
      by_cases e : s = 256
      · rw [e, upd_same, CS, if_pos rfl]
      · rw [upd_ne e, h1 s hs, CS, if_neg e, Nat.add_zero]
    · intro d hd
      rw [upd_ne (by omega)]
      exact h2 d hd
  | m + 1, k + 1, i, c, hi, hk, h1, h2 => by
    obtain ⟨o1, o2, o3⟩ := htok i (by omega)
    rw [fMo_count_24, if_neg (show ¬ nI (t + 1) ≤ nI i from nI_ge (by omega) (by omega)), if_pos (nI_in (by omega) (by omega)), nI_clamp (show i < 2 ^ 31 by omega), o3]
    by_cases h0 : Lf i = 0
    · obtain ⟨c1, c2, hd⟩ := mTok_lit (N := N) o1 h0
      have hsy : sy Lf Df i = Df i := if_pos h0
      have hdy : dy Lf Df i = 1000 := if_pos h0
      rw [c1, Option.bind_some, c2, if_pos (show bI false = 0 from rfl), if_pos (nI_in (by omega) (by omega)), if_pos (nI_in (by omega) (by omega)), nI_clamp (by omega), h1 _ (by omega), nI_1, nI_1]
      refine s_Mo_count_24 hN ht htok hend m k (i + 1) _ (by omega) (by omega) ?_ ?_
      · intro s hs
        by_cases e : s = Df i
        · rw [e, upd_same, cnt, if_pos hsy]
        · rw [upd_ne e, h1 s hs, cnt, if_neg (show ¬ sy Lf Df i = s by rw [hsy]; exact Ne.symm e), Nat.add_zero]
      · intro d hd2
        rw [upd_ne (by omega), h2 d hd2, CD, CD, cnt, if_neg (by omega), Nat.add_zero]
    · obtain ⟨-, -, c3, c4, c5, c6⟩ := cTok_match o1 h0
      obtain ⟨q1, q2, q3⟩ := mTok_match (N := N) o1 h0
      have hsy : sy Lf Df i = 257 + lS (Lf i) := if_neg h0
      have hdy : dy Lf Df i = dS (Df i) := if_neg h0
      obtain ⟨l1, -⟩ := lS_ok c3 c4
      obtain ⟨d1, -⟩ := dS_ok c5
      rw [q1, Option.bind_some, if_neg (show ¬ bI true = 0 by decide), q2, Option.bind_some, s_symbolOf (by omega) c3 c4, Option.bind_some, show (257 : Int32) + nI (lS (Lf i)) = nI (257 + lS (Lf i)) from nI_add 257 _, if_pos (nI_in (by omega) (by omega)), if_pos (nI_in (by omega) (by omega)), q3, Option.bind_some, s_symbolOfD (by omega) c5 c6, Option.bind_some, show (288 : Int32) + nI (dS (Df i)) = nI (288 + dS (Df i)) from nI_add 288 _, if_pos (nI_in (by omega) (by omega)), if_pos (nI_in (by omega) (by omega)), nI_clamp (show 257 + lS (Lf i) < 2 ^ 31 by omega), nI_clamp (show 288 + dS (Df i) < 2 ^ 31 by omega), upd_ne (show 288 + dS (Df i) ≠ 257 + lS (Lf i) by omega), h1 _ (by omega), h2 _ (by omega), nI_1, nI_1, nI_1]
      refine s_Mo_count_24 hN ht htok hend m k (i + 1) _ (by omega) (by omega) ?_ ?_
      · intro s hs
        rw [upd_ne (by omega)]
        by_cases e : s = 257 + lS (Lf i)
        · rw [e, upd_same, cnt, if_pos hsy]
        · rw [upd_ne e, h1 s hs, cnt, if_neg (show ¬ sy Lf Df i = s by rw [hsy]; exact Ne.symm e), Nat.add_zero]
      · intro d hd2
        by_cases e : d = dS (Df i)
        · rw [e, upd_same, CD, CD, cnt, if_pos hdy]
        · rw [upd_ne (by omega), upd_ne (by omega), h2 d hd2, CD, CD, cnt, if_neg (show ¬ dy Lf Df i = d by rw [hdy]; exact Ne.symm e), Nat.add_zero]
theorem s_Mo_count {N t : Nat} {Lf Df : Nat → Nat} {tc tm c : Nat → Int32} (hN : 70000 ≤ N) (ht : t ≤ 65536) (htok : TOK t Lf Df tc tm) (hend : tm t = nI 256) : ∃ c', fMo_count N (nI (t + 1)) c tm = some c' ∧ (∀ s, s < 288 → c' s = nI (CS Lf Df t s)) ∧ ∀ d, d < 32 → c' (288 + d) = nI (CD Lf Df t d) := by
  obtain ⟨c0, a1, a2⟩ := s_Mo_count_2 (N := N) 320 N 0 c (by omega) (by omega) (fun j hj => by omega)
  obtain ⟨c', b1, b2, b3⟩ := s_Mo_count_24 (N := N) (by omega) ht htok hend t N 0 c0 (by omega) (by omega) (fun s hs => by rw [a2 s (by omega), cnt]) (fun d hd => by rw [a2 _ (by omega), CD, cnt])
  refine ⟨c', ?_, b2, b3⟩
  rw [fMo_count, show fMo_count_2 N N (0 : Int32) c = some c0 from a1, Option.bind_some]
  rw [show fMo_count_24 N (nI (t + 1)) tm N (0 : Int32) c0 = some c' from b1]
  rfl
/-- symbols and counts stay in their bounds -/
theorem sy_lt {t : Nat} {Lf Df : Nat → Nat} {tc tm : Nat → Int32} (htok : TOK t Lf Df tc tm) {i : Nat} (hi : i < t) : sy Lf Df i < 286 ∧ sy Lf Df i ≠ 256 ∧ (dy Lf Df i < 30 ∨ dy Lf Df i = 1000) := by
  obtain ⟨o1, -, -⟩ := htok i hi
  rw [sy, dy]
  by_cases h0 : Lf i = 0
  · rw [if_pos h0, if_pos h0]
    rcases o1 with h | h
    · exact ⟨by omega, by omega, Or.inr rfl⟩
    · omega
  · rw [if_neg h0, if_neg h0]
    obtain ⟨-, -, c3, c4, c5, c6⟩ := cTok_match o1 h0
    obtain ⟨l1, -⟩ := lS_ok c3 c4
    obtain ⟨d1, -⟩ := dS_ok c5
    exact ⟨by omega, by omega, Or.inl d1⟩
theorem CS_le (Lf Df : Nat → Nat) (k s : Nat) : CS Lf Df k s ≤ k + 1 := by
  have := cnt_le (sy Lf Df) s k
  rw [CS]
  split <;> omega
theorem CD_le (Lf Df : Nat → Nat) (k s : Nat) : CD Lf Df k s ≤ k := cnt_le (dy Lf Df) s k
