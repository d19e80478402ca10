/-! Sums of bits. -/
theorem sumL_add {f g : Nat → Nat} : ∀ (k lo : Nat), sumL (fun x => f x + g x) lo k = sumL f lo k + sumL g lo k
  | 0, _ => rfl
  | k + 1, lo => by
    rw [sumL, sumL, sumL, sumL_add k (lo + 1)]
    omega
theorem sumL_zero {f : Nat → Nat} : ∀ (k lo : Nat), (∀ x, lo ≤ x → x < lo + k → f x = 0) → sumL f lo k = 0
  | 0, _, _ => rfl
  | k + 1, lo, h => by
    rw [sumL, h lo (Nat.le_refl _) (by omega), sumL_zero k (lo + 1) (fun x a b => h x (by omega) (by omega))]
theorem sumL_one {w : Nat → Nat} {v : Nat} : ∀ (k lo : Nat), sumL (fun s => (if v = s then 1 else 0) * w s) lo k = if lo ≤ v ∧ v < lo + k then w v else 0
  | 0, lo => by rw [sumL, if_neg (by omega)]
  | k + 1, lo => by
    rw [sumL, sumL_one k (lo + 1)]
    by_cases e : v = lo
    · subst e
      rw [if_pos rfl, if_neg (by omega), if_pos (by omega)]
      omega
    · rw [if_neg e]
      by_cases q : lo + 1 ≤ v ∧ v < lo + 1 + k
      · rw [if_pos q, if_pos (by omega)]
        omega
      · rw [if_neg q, if_neg (by omega)]
        omega
/-- counting by symbols or one by one -/
theorem sum_cnt {F w : Nat → Nat} {lo k : Nat} : ∀ t, sumL (fun s => cnt F t s * w s) lo k = sumL (fun i => if lo ≤ F i ∧ F i < lo + k then w (F i) else 0) 0 t
  | 0 => by
    rw [sumL, sumL_zero]
    intro x _ _
    show cnt F 0 x * w x = 0
    rw [cnt, Nat.zero_mul]
  | t + 1 => by
    rw [sumL_end, Nat.zero_add, ← sum_cnt t]
    have e : (fun s => cnt F (t + 1) s * w s) = fun s => cnt F t s * w s + (if F t = s then 1 else 0) * w s := by
      funext s
      rw [cnt, Nat.add_mul]
    rw [e, sumL_add, sumL_one]
theorem s_bitsFor_16 {N n1 n2 n : Nat} {f g : Nat → Int32} {A B : Nat → Nat} (hn : n ≤ 2 ^ 20) (h1 : n ≤ n1) (h2 : n ≤ n2) (hn1 : n1 < 2 ^ 31) (hn2 : n2 < 2 ^ 31) (hf : ∀ x, x < n → f x = nI (A x)) (hg : ∀ x, x < n → g x = nI (B x)) : ∀ (d k i x : Nat), i + d = n → d < k → fCode_bitsFor_16 N n1 f n2 g (nI n) k (nI x) (nI i) = some (nI (x + sumL (fun s => A s * B s) i d))
  | 0, k + 1, i, x, hd, hk => by
    rw [fCode_bitsFor_16, if_pos (nI_le (by omega) (by omega)), sumL, Nat.add_zero]
  | d + 1, k + 1, i, x, hd, hk => by
    rw [fCode_bitsFor_16, if_neg (show ¬ nI n ≤ nI i from nI_ge (by omega) (by omega)), if_pos (nI_in (show i < n1 by omega) hn1), if_pos (nI_in (show i < n2 by omega) hn2), nI_clamp (show i < 2 ^ 31 by omega), hf i (by omega), hg i (by omega), nI_mul, nI_add, nI_1, s_bitsFor_16 hn h1 h2 hn1 hn2 hf hg d k (i + 1) _ (by omega) (by omega), sumL]
    congr 2
    omega
theorem s_bitsFor {N n1 n2 n : Nat} {f g : Nat → Int32} {A B : Nat → Nat} (hN : 400 ≤ N) (hn : n = min n1 n2) (hn1 : n1 ≤ 320) (hn2 : n2 ≤ 320) (hf : ∀ x, x < n → f x = nI (A x)) (hg : ∀ x, x < n → g x = nI (B x)) : fCode_bitsFor N n1 f n2 g = some (nI (sumL (fun s => A s * B s) 0 n)) := by
  have e : (if (nI n2) < (nI n1) then (nI n2) else (nI n1)) = nI n := by
    by_cases q : n2 < n1
    · rw [if_pos (nI_lt q (by omega)), hn, Nat.min_eq_right (by omega)]
    · rw [if_neg (nI_nlt (by omega) (by omega)), hn, Nat.min_eq_left (by omega)]
  rw [fCode_bitsFor, e, show fCode_bitsFor_16 N n1 f n2 g (nI n) N (0 : Int32) (0 : Int32) = _ from s_bitsFor_16 (by omega) (by omega) (by omega) (by omega) (by omega) hf hg n N 0 0 (by omega) (by omega), Nat.zero_add]
  rfl
theorem s_more_4 {N : Nat} {f : Nat → Int32} {A : Nat → Nat} (hf : ∀ x, x < 286 → f x = nI (A x)) : ∀ (d k i x : Nat), i + d = 29 → d < k → fPacker_moreBits_4 N f k (nI x) (nI i) = some (nI (x + sumL (fun s => A (257 + s) * lb s) i d))
  | 0, k + 1, i, x, hd, hk => by
    rw [fPacker_moreBits_4, if_pos (nI_le (by omega) (by omega)), sumL, Nat.add_zero]
  | d + 1, k + 1, i, x, hd, hk => by
    rw [fPacker_moreBits_4, if_neg (show ¬ nI 29 ≤ nI i from nI_ge (by omega) (by omega)), show (257 : Int32) + nI i = nI (257 + i) from nI_add 257 i, if_pos (nI_in (show 257 + i < 286 by omega) (by omega)), if_pos (nI_in (show i < 29 by omega) (by omega)), nI_clamp (show i < 2 ^ 31 by omega), nI_clamp (show 257 + i < 2 ^ 31 by omega), hf _ (by omega), (len_ok i (by omega)).1, nI_mul, nI_add, nI_1, s_more_4 hf d k (i + 1) _ (by omega) (by omega), sumL]
    congr 2
    omega
theorem s_more_39 {N : Nat} {f : Nat → Int32} {A : Nat → Nat} (hf : ∀ x, x < 30 → f x = nI (A x)) : ∀ (d k i x : Nat), i + d = 30 → d < k → fPacker_moreBits_39 N f k (nI x) (nI i) = some (nI (x + sumL (fun s => A s * db s) i d))
  | 0, k + 1, i, x, hd, hk => by
    rw [fPacker_moreBits_39, if_pos (nI_le (by omega) (by omega)), sumL, Nat.add_zero]
  | d + 1, k + 1, i, x, hd, hk => by
    rw [fPacker_moreBits_39, if_neg (show ¬ nI 30 ≤ nI i from nI_ge (by omega) (by omega)), if_pos (nI_in (show i < 30 by omega) (by omega)), if_pos (nI_in (show i < 30 by omega) (by omega)), nI_clamp (show i < 2 ^ 31 by omega), hf _ (by omega), (dst_ok i (by omega)).1, nI_mul, nI_add, nI_1, s_more_39 hf d k (i + 1) _ (by omega) (by omega), sumL]
    congr 2
    omega
theorem s_moreBits {N : Nat} {f g : Nat → Int32} {A B : Nat → Nat} (hN : 400 ≤ N) (hf : ∀ x, x < 286 → f x = nI (A x)) (hg : ∀ x, x < 30 → g x = nI (B x)) : fPacker_moreBits N f g = some (nI (sumL (fun s => A (257 + s) * lb s) 0 29 + sumL (fun s => B s * db s) 0 30)) := by
  rw [fPacker_moreBits, show fPacker_moreBits_4 N f N (0 : Int32) (0 : Int32) = _ from s_more_4 hf 29 N 0 0 (by omega) (by omega), Option.bind_some, Nat.zero_add]
  rw [show fPacker_moreBits_39 N g N (nI (sumL (fun s => A (257 + s) * lb s) 0 29)) (0 : Int32) = _ from s_more_39 hg 30 N 0 _ (by omega) (by omega)]
  rfl
/-- the bits of a token with such lengths -/
def tkb (Lf Df L D : Nat → Nat) (i : Nat) : Nat := L (sy Lf Df i) + (if Lf i = 0 then 0 else lb (lS (Lf i)) + D (dS (Df i)) + db (dS (Df i)))
theorem cnt_shift {t : Nat} {Lf Df : Nat → Nat} {tc tm : Nat → Int32} (htok : TOK t Lf Df tc tm) (s : Nat) (hs : s < 29) : ∀ k, k ≤ t → cnt (sy Lf Df) k (257 + s) = cnt (fun q => if Lf q = 0 then 1000 else lS (Lf q)) k s
  | 0, _ => rfl
  | k + 1, hk => by
    rw [cnt, cnt, cnt_shift htok s hs k (by omega)]
    obtain ⟨o1, -, -⟩ := htok k (by omega)
    congr 1
    by_cases h0 : Lf k = 0
    · have e1 : sy Lf Df k = Df k := if_pos h0
      have e2 : Df k < 256 := by
        rcases o1 with q | q
        · exact q.2
        · omega
      rw [if_neg (by omega), if_neg (by rw [if_pos h0]; omega)]
    · have e1 : sy Lf Df k = 257 + lS (Lf k) := if_neg h0
      rw [e1, if_neg h0]
      by_cases q : lS (Lf k) = s
      · rw [if_pos (by omega), if_pos q]
      · rw [if_neg (by omega), if_neg q]
theorem sum_tok {t : Nat} {Lf Df L D : Nat → Nat} {tc tm : Nat → Int32} (htok : TOK t Lf Df tc tm) :
    sumL (fun s => CS Lf Df t s * L s) 0 286 + sumL (fun s => CD Lf Df t s * D s) 0 30 + (sumL (fun s => CS Lf Df t (257 + s) * lb s) 0 29 + sumL (fun s => CD Lf Df t s * db s) 0 30) = sumL (tkb Lf Df L D) 0 t + L 256 := by
  have e1 : sumL (fun s => CS Lf Df t s * L s) 0 286 = sumL (fun s => cnt (sy Lf Df) t s * L s) 0 286 + L 256 := by
    have h : (fun s => CS Lf Df t s * L s) = fun s => cnt (sy Lf Df) t s * L s + (if 256 = s then 1 else 0) * L s := by
      funext s
      rw [CS, Nat.add_mul]
      congr 2
      by_cases q : s = 256
      · rw [if_pos q, if_pos q.symm]
      · rw [if_neg q, if_neg (Ne.symm q)]
    rw [h, sumL_add, sumL_one, if_pos (by omega)]
  have e2 : sumL (fun s => CS Lf Df t (257 + s) * lb s) 0 29 = sumL (fun s => cnt (fun q => if Lf q = 0 then 1000 else lS (Lf q)) t s * lb s) 0 29 := by
    refine sumL_congr 29 0 (fun s _ hs => ?_)
    show CS Lf Df t (257 + s) * lb s = _
    rw [CS, if_neg (by omega), Nat.add_zero, cnt_shift htok s (by omega) t (Nat.le_refl _)]
  rw [e1, e2]
  show sumL (fun s => cnt (sy Lf Df) t s * L s) 0 286 + L 256 + sumL (fun s => cnt (dy Lf Df) t s * D s) 0 30 + (_ + sumL (fun s => cnt (dy Lf Df) t s * db s) 0 30) = _
  rw [sum_cnt, sum_cnt, sum_cnt, sum_cnt]
  have e3 : sumL (tkb Lf Df L D) 0 t = sumL (fun i => (if 0 ≤ sy Lf Df i ∧ sy Lf Df i < 0 + 286 then L (sy Lf Df i) else 0) + (((if 0 ≤ dy Lf Df i ∧ dy Lf Df i < 0 + 30 then D (dy Lf Df i) else 0)) + ((if 0 ≤ (if Lf i = 0 then 1000 else lS (Lf i)) ∧ (if Lf i = 0 then 1000 else lS (Lf i)) < 0 + 29 then lb (if Lf i = 0 then 1000 else lS (Lf i)) else 0) + (if 0 ≤ dy Lf Df i ∧ dy Lf Df i < 0 + 30 then db (dy Lf Df i) else 0)))) 0 t := by
    refine sumL_congr t 0 (fun i _ hi => ?_)
    obtain ⟨s1, s2, s3⟩ := sy_lt htok (show i < t by omega)
    obtain ⟨o1, -, -⟩ := htok i (by omega)
    rw [tkb, if_pos (show 0 ≤ sy Lf Df i ∧ sy Lf Df i < 0 + 286 by omega)]
    by_cases h0 : Lf i = 0
    · have ed : dy Lf Df i = 1000 := if_pos h0
      rw [ed, if_pos h0, if_pos h0, if_neg (by omega), if_neg (by omega), if_neg (by omega)]
    · have ed : dy Lf Df i = dS (Df i) := if_neg h0
      obtain ⟨-, -, c3, c4, c5, c6⟩ := cTok_match o1 h0
      have q1 := (lS_ok c3 c4).1
      have q2 := (dS_ok c5).1
      rw [ed, if_neg h0, if_neg h0, if_pos (by omega), if_pos (by omega), if_pos (by omega)]
      omega
  rw [e3, sumL_add, sumL_add, sumL_add]
  omega

/-- the reference's sum over the tokens -/
theorem s_bitsOf_4 {N t : Nat} {Lf Df L D : Nat → Nat} {tc tm lens : Nat → Int32} (hN : 40 ≤ N) (ht : t ≤ 65536) (htok : TOK t Lf Df tc tm) (hend : tm t = nI 256) (hl : ∀ x, x < 288 → lens x = nI (L x)) (hd : ∀ x, x < 32 → lens (288 + x) = nI (D x)) :
    ∀ (m k i x : Nat), i + m = t → m + 1 < k → fMo_bitsOfTokens_4 N (nI (t + 1)) tm lens k (nI x) (nI i) = some (nI (x + (sumL (tkb Lf Df L D) i m + L 256)))
  | 0, k + 2, i, x, hm, hk => by
    have e : i = t := by omega
    subst e
    have hmm : fMo_isMatch N (nI 256) = some false := rfl
    rw [fMo_bitsOfTokens_4, if_neg (show ¬ nI (i + 1) ≤ nI i from nI_ge (by omega) (by omega)), if_pos (nI_in (by omega) (by omega)), nI_clamp (by omega), hend, hmm, Option.bind_some, if_pos (show bI false = 0 from rfl), if_pos (nI_in (show 256 < 320 by omega) (by omega)), nI_clamp (show 256 < 2 ^ 31 by omega), hl 256 (by omega), nI_add, nI_1]
    rw [fMo_bitsOfTokens_4, if_pos (nI_le (Nat.le_refl _) (by omega)), sumL, Nat.zero_add]
  | m + 1, k + 1, i, x, hm, hk => by
    obtain ⟨o1, o2, o3⟩ := htok i (by omega)
    rw [fMo_bitsOfTokens_4, if_neg (show ¬ nI (t + 1) ≤ nI i from nI_ge (by omega) (by omega)), if_pos (nI_in (by omega) (by omega)), nI_clamp (show i < 2 ^ 31 by omega), o3]
    by_cases h0 : Lf i = 0
    · obtain ⟨c1, c2, hd2⟩ := mTok_lit (N := N) o1 h0
      have et : tkb Lf Df L D i = L (Df i) := by rw [tkb, sy, if_pos h0, if_pos h0, Nat.add_zero]
      rw [c1, Option.bind_some, c2, if_pos (show bI false = 0 from rfl), if_pos (nI_in (by omega) (by omega)), nI_clamp (by omega), hl _ (by omega), nI_add, nI_1, s_bitsOf_4 hN ht htok hend hl hd m k (i + 1) _ (by omega) (by omega), sumL, et]
      congr 2
      omega
    · obtain ⟨-, -, c3, c4, c5, c6⟩ := cTok_match o1 h0
      obtain ⟨q1, q2, q3⟩ := mTok_match (N := N) o1 h0
      obtain ⟨l1, -⟩ := lS_ok c3 c4
      obtain ⟨d1, -⟩ := dS_ok c5
      have et : tkb Lf Df L D i = L (257 + lS (Lf i)) + (lb (lS (Lf i)) + D (dS (Df i)) + db (dS (Df i))) := by rw [tkb, sy, if_neg h0, if_neg h0]
      rw [q1, Option.bind_some, if_neg (show ¬ bI true = 0 by decide), q2, Option.bind_some, s_symbolOf (by omega) c3 c4, Option.bind_some, q3, Option.bind_some, s_symbolOfD (by omega) c5 c6, Option.bind_some, show (257 : Int32) + nI (lS (Lf i)) = nI (257 + lS (Lf i)) from nI_add 257 _, if_pos (nI_in (by omega) (by omega)), s_moreOf l1, Option.bind_some, show (288 : Int32) + nI (dS (Df i)) = nI (288 + dS (Df i)) from nI_add 288 _, if_pos (nI_in (by omega) (by omega)), s_moreOfD d1, Option.bind_some, nI_clamp (show 257 + lS (Lf i) < 2 ^ 31 by omega), nI_clamp (show 288 + dS (Df i) < 2 ^ 31 by omega), hl _ (by omega), hd _ (by omega), nI_add, nI_add, nI_add, nI_add, nI_1, s_bitsOf_4 hN ht htok hend hl hd m k (i + 1) _ (by omega) (by omega), sumL, et]
      congr 2
      omega
theorem s_bitsOf {N t : Nat} {Lf Df L D : Nat → Nat} {tc tm lens : Nat → Int32} (hN : 70000 ≤ N) (ht : t ≤ 65536) (htok : TOK t Lf Df tc tm) (hend : tm t = nI 256) (hl : ∀ x, x < 288 → lens x = nI (L x)) (hd : ∀ x, x < 32 → lens (288 + x) = nI (D x)) : fMo_bitsOfTokens N (nI (t + 1)) tm lens = some (nI (sumL (tkb Lf Df L D) 0 t + L 256)) := by
  rw [fMo_bitsOfTokens, show fMo_bitsOfTokens_4 N (nI (t + 1)) tm lens N (0 : Int32) (0 : Int32) = _ from s_bitsOf_4 (by omega) ht htok hend hl hd t N 0 0 (by omega) (by omega), Nat.zero_add]
  rfl
/-- the bits of the header's items -/
theorem s_head_25 {N : Nat} {f : Nat → Int32} {A : Nat → Nat} (hf : ∀ x, x < 19 → f x = nI (A x)) : ∀ (d k i x : Nat), i + d = 19 → d < k → fHeader_bitsInAll_25 N f k (nI x) (nI i) = some (nI (x + sumL (fun s => A s * rbits s) i d))
  | 0, k + 1, i, x, hd, hk => by
    rw [fHeader_bitsInAll_25, if_pos (show (19 : Int32) ≤ nI i from nI_le (a := 19) (by omega) (by omega)), sumL, Nat.add_zero]
  | d + 1, k + 1, i, x, hd, hk => by
    rw [fHeader_bitsInAll_25, if_neg (show ¬ (19 : Int32) ≤ nI i from nI_ge (b := 19) (by omega) (by omega)), if_pos (nI_in (show i < 19 by omega) (by omega)), s_repeatBits (by omega), Option.bind_some, nI_clamp (show i < 2 ^ 31 by omega), hf i (by omega), nI_mul, nI_add, nI_1, s_head_25 hf d k (i + 1) _ (by omega) (by omega), sumL]
    congr 2
    omega
theorem s_headBits {N fw t : Nat} {f g : Nat → Int32} {Is LF : Nat → Nat} (hN : 400 ≤ N) (hIs : ∀ q, q < t → Is q < 19) (hf : ∀ x, x < 19 → f x = nI (cnt Is t x)) (hg : ∀ x, x < 19 → g x = nI (LF x)) : fHeader_bitsInAll N (nI fw) f 19 g = some (nI (14 + 3 * fw + sumL (fun q => LF (Is q) + rbits (Is q)) 0 t)) := by
  have e1 : sumL (fun s => cnt Is t s * LF s) 0 19 = sumL (fun q => LF (Is q)) 0 t := by
    rw [sum_cnt]
    exact sumL_congr t 0 (fun q _ hq => if_pos (by have := hIs q (by omega); omega))
  have e2 : sumL (fun s => cnt Is t s * rbits s) 16 3 = sumL (fun q => rbits (Is q)) 0 t := by
    rw [sum_cnt]
    refine sumL_congr t 0 (fun q _ hq => ?_)
    have := hIs q (by omega)
    by_cases h : 16 ≤ Is q
    · exact if_pos (by omega)
    · show (if 16 ≤ Is q ∧ Is q < 16 + 3 then rbits (Is q) else 0) = rbits (Is q)
      rw [if_neg (by omega), rbits, if_neg (by omega), if_neg (by omega), if_neg (by omega)]
  rw [fHeader_bitsInAll, s_bitsFor (n := 19) hN (by omega) (by omega) (by omega) hf hg, Option.bind_some, show (3 : Int32) * nI fw = nI (3 * fw) from pk_mul 3 fw, show (14 : Int32) + nI (3 * fw) = nI (14 + 3 * fw) from nI_add 14 _, nI_add]
  rw [show fHeader_bitsInAll_25 N f N (nI (14 + 3 * fw + sumL (fun s => cnt Is t s * LF s) 0 19)) (16 : Int32) = _ from s_head_25 hf 3 N 16 _ (by omega) (by omega), e1, e2, sumL_add]
  show some (nI _) = some (nI _)
  congr 2
  omega
theorem s_pack_154 {N t : Nat} {Is Im LF : Nat → Nat} {it run rest few : Nat → Int32} (ht : t ≤ 316) (hI : ITM t Is Im it run rest) (hg : ∀ x, x < 19 → few x = nI (LF x)) : ∀ (d k i x : Nat), i + d = t → d < k → fMo_pack_154 N (nI t) run few k (nI i) (nI x) = some (nI (x + sumL (fun q => LF (Is q) + rbits (Is q)) i d))
  | 0, k + 1, i, x, hd, hk => by
    rw [fMo_pack_154, if_pos (nI_le (by omega) (by omega)), sumL, Nat.add_zero]
  | d + 1, k + 1, i, x, hd, hk => by
    obtain ⟨i1, i2, i3, i4, i5⟩ := hI i (by omega)
    have ih := fun x => s_pack_154 (N := N) ht hI hg d k (i + 1) x (by omega) (by omega)
    have hin : ¬ (nI i < 0 ∨ 320 ≤ (nI i).toNatClampNeg) := nI_in (by omega) (by omega)
    rw [fMo_pack_154, if_neg (show ¬ nI t ≤ nI i from nI_ge (by omega) (by omega)), if_pos hin, if_pos hin, if_pos hin, if_pos hin, nI_clamp (show i < 2 ^ 31 by omega), i4, if_pos (nI_in i1 (by omega)), nI_clamp (show Is i < 2 ^ 31 by omega), hg _ i1, nI_add, nI_1, sumL]
    have key : ∀ (r : Nat), r = rbits (Is i) → fMo_pack_154 N (nI t) run few k (nI (i + 1)) (nI (x + LF (Is i)) + nI r) = some (nI (x + (LF (Is i) + rbits (Is i) + sumL (fun q => LF (Is q) + rbits (Is q)) (i + 1) d))) := by
      intro r hr
      rw [nI_add, ih, hr]
      congr 2
      omega
    by_cases c16 : Is i = 16
    · rw [if_pos (show nI (Is i) = (16 : Int32) by rw [c16]; rfl)]
      exact key 2 (by rw [c16]; rfl)
    · rw [if_neg (show ¬ nI (Is i) = (16 : Int32) by rw [show (16 : Int32) = nI 16 from rfl, nI_eq (by omega) (by omega)]; exact c16)]
      by_cases c17 : Is i = 17
      · rw [if_pos (show nI (Is i) = (17 : Int32) by rw [c17]; rfl)]
        exact key 3 (by rw [c17]; rfl)
      · rw [if_neg (show ¬ nI (Is i) = (17 : Int32) by rw [show (17 : Int32) = nI 17 from rfl, nI_eq (by omega) (by omega)]; exact c17)]
        by_cases c18 : Is i = 18
        · rw [if_pos (show nI (Is i) = (18 : Int32) by rw [c18]; rfl)]
          exact key 7 (by rw [c18]; rfl)
        · rw [if_neg (show ¬ nI (Is i) = (18 : Int32) by rw [show (18 : Int32) = nI 18 from rfl, nI_eq (by omega) (by omega)]; exact c18)]
          exact key 0 (by rw [rbits, if_neg c16, if_neg c17, if_neg c18])
