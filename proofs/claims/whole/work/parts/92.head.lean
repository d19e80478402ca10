/-! The header: what is used, and the code of its items. -/
/-- how many are used, at least so many -/
def us (L : Nat → Nat) (least : Nat) : Nat → Nat
  | 0 => 0
  | n + 1 => if n + 1 ≤ least then n + 1 else if L n = 0 then us L least n else n + 1
theorem us_r (L : Nat → Nat) (least : Nat) : ∀ n, least ≤ n → least ≤ us L least n ∧ us L least n ≤ n
  | 0, h => ⟨h, Nat.le_refl _⟩
  | n + 1, h => by
    rw [us]
    split
    · omega
    · split
      · have := us_r L least n (by omega)
        omega
      · omega
theorem s_countUsed_3 {N n least : Nat} {f : Nat → Int32} {L : Nat → Nat} (hn : n ≤ 320) (hl : least < 320) (hf : ∀ x, x < n → f x = nI (L x) ∧ L x < 16) : ∀ (x k : Nat), x ≤ n → x < k → fHeader_countUsed_3 N n f (nI least) k (nI x) = some (nI (us L least x))
  | 0, k + 1, hx, hk => by
    rw [fHeader_countUsed_3, if_pos (show nI 0 ≤ nI least from nI_le (Nat.zero_le _) (by omega))]
    rfl
  | x + 1, k + 1, hx, hk => by
    obtain ⟨f1, f2⟩ := hf x (by omega)
    rw [fHeader_countUsed_3, us]
    by_cases c : x + 1 ≤ least
    · rw [if_pos c, if_pos (nI_le c (by omega))]
    · rw [if_neg c, if_neg (show ¬ nI (x + 1) ≤ nI least from nI_ge (by omega) (by omega)), show nI (x + 1) - (1 : Int32) = nI x from nI_sub (b := 1) (by omega), if_pos (nI_in (show x < n by omega) (by omega)), nI_clamp (show x < 2 ^ 31 by omega), f1, show nI (x + 1) + (-1 : Int32) = nI x from pk_m1 x]
      by_cases e : L x = 0
      · rw [if_pos e, if_pos (show nI (L x) = 0 by rw [e]; rfl)]
        exact s_countUsed_3 hn hl hf x k (by omega) (by omega)
      · rw [if_neg e, if_neg (show ¬ nI (L x) = (0 : Int32) by rw [show (0 : Int32) = nI 0 from rfl, nI_eq (by omega) (by omega)]; exact e)]
theorem s_countUsed {N n least : Nat} {f : Nat → Int32} {L : Nat → Nat} (hN : 400 ≤ N) (hn : n ≤ 320) (hl : least < 320) (hf : ∀ x, x < n → f x = nI (L x) ∧ L x < 16) : fHeader_countUsed N (nI least) n f = some (nI (us L least n)) := by
  rw [fHeader_countUsed, s_countUsed_3 hn hl hf n N (Nat.le_refl _) (by omega)]
  rfl
theorem s_wide_7 {N : Nat} {f : Nat → Int32} {L : Nat → Nat} (hf : ∀ x, x < 286 → f x = nI (L x) ∧ L x < 16) : ∀ (x k : Nat), x ≤ 286 → x < k → fMo_findRuns_7 N f k (nI x) = some (nI (us L 257 x))
  | 0, k + 1, hx, hk => by
    rw [fMo_findRuns_7, if_pos (show nI 0 ≤ (257 : Int32) by decide)]
    rfl
  | x + 1, k + 1, hx, hk => by
    obtain ⟨f1, f2⟩ := hf x (by omega)
    rw [fMo_findRuns_7, us]
    by_cases c : x + 1 ≤ 257
    · rw [if_pos c, if_pos (show nI (x + 1) ≤ (257 : Int32) from nI_le (b := 257) c (by omega))]
    · rw [if_neg c, if_neg (show ¬ nI (x + 1) ≤ (257 : Int32) from nI_ge (a := 257) (by omega) (by omega)), show nI (x + 1) - (1 : Int32) = nI x from nI_sub (b := 1) (by omega), if_pos (nI_in (show x < 320 by omega) (by omega)), nI_clamp (show x < 2 ^ 31 by omega), f1]
      by_cases e : L x = 0
      · rw [if_pos e, if_pos (show nI (L x) = 0 by rw [e]; rfl)]
        exact s_wide_7 hf x k (by omega) (by omega)
      · rw [if_neg e, if_neg (show ¬ nI (L x) = (0 : Int32) by rw [show (0 : Int32) = nI 0 from rfl, nI_eq (by omega) (by omega)]; exact e)]
theorem s_deep_50 {N : Nat} {f : Nat → Int32} {L : Nat → Nat} (hf : ∀ x, x < 30 → f (288 + x) = nI (L x) ∧ L x < 16) : ∀ (x k : Nat), x ≤ 30 → x < k → fMo_findRuns_50 N f k (nI x) = some (nI (us L 1 x))
  | 0, k + 1, hx, hk => by
    rw [fMo_findRuns_50, if_pos (show nI 0 ≤ (1 : Int32) by decide)]
    rfl
  | x + 1, k + 1, hx, hk => by
    obtain ⟨f1, f2⟩ := hf x (by omega)
    rw [fMo_findRuns_50, us]
    by_cases c : x + 1 ≤ 1
    · rw [if_pos c, if_pos (show nI (x + 1) ≤ (1 : Int32) from nI_le (b := 1) c (by omega))]
    · rw [if_neg c, if_neg (show ¬ nI (x + 1) ≤ (1 : Int32) from nI_ge (a := 1) (by omega) (by omega)), show (288 : Int32) + nI (x + 1) - (1 : Int32) = nI (288 + x) from by
        rw [show (288 : Int32) + nI (x + 1) = nI (288 + (x + 1)) from nI_add 288 _]
        exact nI_sub (b := 1) (by omega), if_pos (nI_in (show 288 + x < 320 by omega) (by omega)), nI_clamp (show 288 + x < 2 ^ 31 by omega), f1, show nI (x + 1) - (1 : Int32) = nI x from nI_sub (b := 1) (by omega)]
      by_cases e : L x = 0
      · rw [if_pos e, if_pos (show nI (L x) = 0 by rw [e]; rfl)]
        exact s_deep_50 hf x k (by omega) (by omega)
      · rw [if_neg e, if_neg (show ¬ nI (L x) = (0 : Int32) by rw [show (0 : Int32) = nI 0 from rfl, nI_eq (by omega) (by omega)]; exact e)]
theorem s_line_91 {N w : Nat} {f : Nat → Int32} (hw : w ≤ 286) : ∀ (d k i : Nat) (g : Nat → Int32), i + d = w → d < k → (∀ j, j < i → g j = f j) → ∃ g', fMo_findRuns_91 N (nI w) f k (nI i) g = some g' ∧ ∀ j, j < w → g' j = f j
  | 0, k + 1, i, g, hd, hk, hg => by
    have e : i = w := by omega
    subst e
    exact ⟨g, by rw [fMo_findRuns_91, if_pos (nI_le (Nat.le_refl _) (by omega))], hg⟩
  | d + 1, k + 1, i, g, hd, hk, hg => by
    rw [fMo_findRuns_91, if_neg (show ¬ nI w ≤ nI i from nI_ge (by omega) (by omega)), if_pos (nI_in (show i < 320 by omega) (by omega)), if_pos (nI_in (show i < 320 by omega) (by omega)), nI_1, nI_clamp (show i < 2 ^ 31 by omega)]
    refine s_line_91 hw d k (i + 1) _ (by omega) (by omega) ?_
    intro j hj
    by_cases e : j = i
    · rw [e, upd_same]
    · rw [upd_ne e]
      exact hg j (by omega)
theorem s_line_119 {N w dp9 : Nat} {f : Nat → Int32} (hw : w ≤ 286) (hd9 : dp9 ≤ 30) : ∀ (d k i : Nat) (g : Nat → Int32), i + d = dp9 → d < k → (∀ j, j < i → g (w + j) = f (288 + j)) → ∃ g', fMo_findRuns_119 N (nI w) (nI dp9) f k (nI i) g = some g' ∧ (∀ j, j < dp9 → g' (w + j) = f (288 + j)) ∧ ∀ j, j < w → g' j = g j
  | 0, k + 1, i, g, hd, hk, hg => by
    have e : i = dp9 := by omega
    subst e
    exact ⟨g, by rw [fMo_findRuns_119, if_pos (nI_le (Nat.le_refl _) (by omega))], hg, fun _ _ => rfl⟩
  | d + 1, k + 1, i, g, hd, hk, hg => by
    rw [fMo_findRuns_119, if_neg (show ¬ nI dp9 ≤ nI i from nI_ge (by omega) (by omega)), show (288 : Int32) + nI i = nI (288 + i) from nI_add 288 _, if_pos (nI_in (show 288 + i < 320 by omega) (by omega)), nI_add, if_pos (nI_in (show w + i < 320 by omega) (by omega)), nI_1, nI_clamp (show w + i < 2 ^ 31 by omega), nI_clamp (show 288 + i < 2 ^ 31 by omega)]
    obtain ⟨g', a1, a2, a3⟩ := s_line_119 (N := N) (f := f) hw hd9 d k (i + 1) (upd g (w + i) (f (288 + i))) (by omega) (by omega) (by
      intro j hj
      by_cases e : j = i
      · rw [e, upd_same]
      · rw [upd_ne (by omega)]
        exact hg j (by omega))
    exact ⟨g', a1, a2, fun j hj => by rw [a3 j hj, upd_ne (by omega)]⟩
theorem s_166 {N : Nat} : ∀ (d k i : Nat) (g : Nat → Int32), i + d = 19 → d < k → (∀ j, j < i → g j = nI 0) → ∃ g', fMo_findRuns_166 N k (nI i) g = some g' ∧ ∀ j, j < 19 → g' j = nI 0
  | 0, k + 1, i, g, hd, hk, hg => by
    have e : i = 19 := by omega
    subst e
    exact ⟨g, by rw [fMo_findRuns_166]; simp (disch := omega) only [nlit, nI_add, nI_mul, nI_sub, nI_leI, nI_ltI, nI_eq, nI_inI', nI_inI, nI_lt0', nI_lt0, nI_clamp, nI_div, nI_rem, nI_shl, nI_shr, upd_same, nI_eqm, nI_m1le, nI_m2le, nI_m1lt, nI_m2lt, nI_m2m1, eq_self, not_false_eq_true, not_true_eq_false, if_pos, if_neg, if_true, if_false, Option.bind_some], hg⟩
  | d + 1, k + 1, i, g, hd, hk, hg => by
    rw [fMo_findRuns_166]
    simp (disch := omega) only [nlit, nI_add, nI_mul, nI_sub, nI_leI, nI_ltI, nI_eq, nI_inI', nI_inI, nI_lt0', nI_lt0, nI_clamp, nI_div, nI_rem, nI_shl, nI_shr, upd_same, nI_eqm, nI_m1le, nI_m2le, nI_m1lt, nI_m2lt, nI_m2m1, eq_self, not_false_eq_true, not_true_eq_false, if_pos, if_neg, if_true, if_false, Option.bind_some]
    refine s_166 d k (i + 1) _ (by omega) (by omega) ?_
    intro j hj
    by_cases e : j = i
    · rw [e, upd_same]
    · rw [upd_ne e]
      exact hg j (by omega)
theorem s_prep_106 {N : Nat} {f : Nat → Int32} {L : Nat → Nat} (hf : ∀ x, x < 19 → f x = nI (L x) ∧ L x < 16) : ∀ (x k : Nat), x ≤ 19 → x < k → fHeader_prepare_106 N 19 f k (nI x) = some (nI (us (fun j => L (ordN j)) 4 x))
  | 0, k + 1, hx, hk => by
    rw [fHeader_prepare_106, if_pos (show nI 0 ≤ (4 : Int32) by decide)]
    rfl
  | x + 1, k + 1, hx, hk => by
    obtain ⟨o1, o2, -⟩ := ord_ok x (by omega)
    obtain ⟨f1, f2⟩ := hf (ordN x) o2
    rw [fHeader_prepare_106, us]
    by_cases c : x + 1 ≤ 4
    · rw [if_pos c, if_pos (show nI (x + 1) ≤ (4 : Int32) from nI_le (b := 4) c (by omega))]
    · rw [if_neg c, if_neg (show ¬ nI (x + 1) ≤ (4 : Int32) from nI_ge (a := 4) (by omega) (by omega)), show nI (x + 1) - (1 : Int32) = nI x from nI_sub (b := 1) (by omega), if_pos (nI_in (show x < 19 by omega) (by omega)), nI_clamp (show x < 2 ^ 31 by omega), o1, if_pos (nI_in o2 (by omega)), nI_clamp (show ordN x < 2 ^ 31 by omega), f1]
      by_cases e : L (ordN x) = 0
      · rw [if_pos e, if_pos (show nI (L (ordN x)) = 0 by rw [e]; rfl)]
        exact s_prep_106 hf x k (by omega) (by omega)
      · rw [if_neg e, if_neg (show ¬ nI (L (ordN x)) = (0 : Int32) by rw [show (0 : Int32) = nI 0 from rfl, nI_eq (by omega) (by omega)]; exact e)]
theorem s_pack_96 {N : Nat} {f : Nat → Int32} {L : Nat → Nat} (hf : ∀ x, x < 19 → f x = nI (L x) ∧ L x < 16) : ∀ (x k : Nat), x ≤ 19 → x < k → fMo_pack_96 N f k (nI x) = some (nI (us (fun j => L (ordN j)) 4 x))
  | 0, k + 1, hx, hk => by
    rw [fMo_pack_96, if_pos (show nI 0 ≤ (4 : Int32) by decide)]
    rfl
  | x + 1, k + 1, hx, hk => by
    obtain ⟨o1, o2, -⟩ := ord_ok x (by omega)
    obtain ⟨f1, f2⟩ := hf (ordN x) o2
    rw [fMo_pack_96, us]
    by_cases c : x + 1 ≤ 4
    · rw [if_pos c, if_pos (show nI (x + 1) ≤ (4 : Int32) from nI_le (b := 4) c (by omega))]
    · rw [if_neg c, if_neg (show ¬ nI (x + 1) ≤ (4 : Int32) from nI_ge (a := 4) (by omega) (by omega)), show nI (x + 1) - (1 : Int32) = nI x from nI_sub (b := 1) (by omega), s_fewAt (show x < 19 by omega), Option.bind_some, if_pos (nI_in o2 (by omega)), nI_clamp (show ordN x < 2 ^ 31 by omega), f1]
      by_cases e : L (ordN x) = 0
      · rw [if_pos e, if_pos (show nI (L (ordN x)) = 0 by rw [e]; rfl)]
        exact s_pack_96 hf x k (by omega) (by omega)
      · rw [if_neg e, if_neg (show ¬ nI (L (ordN x)) = (0 : Int32) by rw [show (0 : Int32) = nI 0 from rfl, nI_eq (by omega) (by omega)]; exact e)]
