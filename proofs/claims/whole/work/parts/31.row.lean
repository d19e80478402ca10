/-! The row: the class's and the reference's ways to build it. -/
theorem s_Row_add {N : Nat} {p : Int32} {f : Nat → Int32} {n : Nat} (h : n < 65546) : fRow_add N p (nI n) f = some (nI (n + 1), upd f n p.toInt8.toInt32) := by
  rw [fRow_add, if_neg (nI_ge h (by omega)), if_pos (nI_in h (by omega)), nI_clamp (by omega), nI_1]
theorem s_Row_addNumber {N : Nat} {p : Int32} {f : Nat → Int32} {n : Nat} (h : n + 4 ≤ 65546) : fRow_addNumber N p (nI n) f = some (nI (n + 4), upd (upd (upd (upd f n (jus p (24 : Int32)).toInt8.toInt32) (n + 1) (jus p (16 : Int32)).toInt8.toInt32) (n + 2) (jus p (8 : Int32)).toInt8.toInt32) (n + 3) p.toInt8.toInt32) := by
  rw [fRow_addNumber, s_Row_add (by omega)]
  show (fRow_add N (jus p (16 : Int32)) (nI (n + 1)) _).bind _ = _
  rw [s_Row_add (by omega)]
  show (fRow_add N (jus p (8 : Int32)) (nI (n + 1 + 1)) _).bind _ = _
  rw [s_Row_add (by omega)]
  show (fRow_add N p (nI (n + 1 + 1 + 1)) _).bind _ = _
  rw [s_Row_add (by omega)]
  rfl
/-- the bytes of a number, highest first -/
def wByte (w : Int32) (k : Nat) : Int8 := (jus w (nI (24 - 8 * k))).toInt8
theorem wByte_sh (w : Int32) (k : Nat) (hk : k < 4) : (w >>> ((nI 24 - nI 8 * nI k) &&& 31)).toInt8 = wByte w k := by
  rw [pk_mul, pk_sub (by omega)]
  apply bt8
  intro i hi
  rw [b_sshr (24 - 8 * k) (by omega) w (by omega), b_jus _ (by omega), if_pos (by omega)]
/-- what feed lays behind the row -/
def feedWord (a b c d e : Int32) (k : Nat) : Int32 := if k < 4 then a else if k < 8 then b else if k < 12 then c else if k < 16 then d else e
theorem s_Mo_feed_32 {N : Nat} (a b c d e : Int32) {n : Nat} (hn : n + 20 ≤ 65536) : ∀ (m k : Nat) (g : Nat → Int32), m ≤ 20 → m < k →
    ∃ g', fMo_feed_32 N (nI n) a b c d e k (nI (20 - m)) g = some g' ∧ (∀ j, j < n + (20 - m) → g' j = g j) ∧ ∀ j, 20 - m ≤ j → j < 20 → (g' (n + j)).toInt8 = wByte (feedWord a b c d e j) (j % 4)
  | 0, k + 1, g, _, _ => ⟨g, by rw [fMo_feed_32, if_pos (show (20 : Int32) ≤ nI (20 - 0) by decide)], fun _ _ => rfl, fun j h1 h2 => by omega⟩
  | m + 1, k + 1, g, hm, hk => by
    obtain ⟨i, hi⟩ : ∃ i, i = 20 - (m + 1) := ⟨_, rfl⟩
    have hi20 : i < 20 := by omega
    have e1 : nI i + (1 : Int32) = nI (20 - m) := by rw [nI_1]; congr 1; omega
    have ew : (if (4 : Int32) ≤ nI i then (if (8 : Int32) ≤ nI i then (if (12 : Int32) ≤ nI i then (if (16 : Int32) ≤ nI i then e else d) else c) else b) else a) = feedWord a b c d e i := by
      have h4 : ((4 : Int32) ≤ nI i) ↔ 4 ≤ i := nI_leI (a := 4) (by omega) (by omega)
      have h8 : ((8 : Int32) ≤ nI i) ↔ 8 ≤ i := nI_leI (a := 8) (by omega) (by omega)
      have h12 : ((12 : Int32) ≤ nI i) ↔ 12 ≤ i := nI_leI (a := 12) (by omega) (by omega)
      have h16 : ((16 : Int32) ≤ nI i) ↔ 16 ≤ i := nI_leI (a := 16) (by omega) (by omega)
      unfold feedWord
      simp only [h4, h8, h12, h16]
      by_cases q1 : i < 4
      · simp [q1, Nat.not_le.mpr q1]
      · by_cases q2 : i < 8
        · simp [q1, q2, Nat.not_le.mpr q2, Nat.not_lt.mp q1]
        · by_cases q3 : i < 12
          · simp [q1, q2, q3, Nat.not_le.mpr q3, Nat.not_lt.mp q1, Nat.not_lt.mp q2]
          · by_cases q4 : i < 16
            · simp [q1, q2, q3, q4, Nat.not_le.mpr q4, Nat.not_lt.mp q1, Nat.not_lt.mp q2, Nat.not_lt.mp q3]
            · simp [q1, q2, q3, q4, Nat.not_lt.mp q1, Nat.not_lt.mp q2, Nat.not_lt.mp q3, Nat.not_lt.mp q4]
    have er : nI i - nI i / (4 : Int32) * (4 : Int32) = nI (i % 4) := pk_rem (d := 4) (by omega) (by omega) (by omega)
    obtain ⟨g', h1, h2, h3⟩ := s_Mo_feed_32 (N := N) a b c d e hn m k (upd g (n + i) ((feedWord a b c d e i >>> ((nI 24 - nI 8 * nI (i % 4)) &&& 31)).toInt8.toInt32)) (by omega) (by omega)
    refine ⟨g', ?_, ?_, ?_⟩
    · rw [← hi, fMo_feed_32, if_neg (show ¬ (20 : Int32) ≤ nI i from nI_ge (b := 20) hi20 (by omega)), nI_add, if_pos (nI_in (by omega) (by omega)), nI_clamp (by omega), ew, er, e1]
      exact h1
    · intro j hj
      rw [h2 j (by omega), pk_un (by omega)]
    · intro j hj1 hj2
      by_cases ej : j = i
      · subst ej
        rw [h2 (n + j) (by omega), pk_us, by8_id, wByte_sh _ _ (Nat.mod_lt _ (by decide))]
      · exact h3 j (by omega) hj2
theorem s_Row_repeat_39 {N d e : Nat} (h1 : 1 ≤ d) (he : e ≤ 65546) : ∀ (m k : Nat) (f : Nat → Int32), m ≤ e → d ≤ e - m → m < k →
    ∃ f', fRow_repeat_39 N (nI d) (nI e) k (nI (e - m)) f = some f' ∧ (∀ j, j < e - m → f' j = f j) ∧ ∀ j, e - m ≤ j → j < e → (f' j).toInt8 = (f' (j - d)).toInt8
  | 0, k + 1, f, _, _, _ => ⟨f, by rw [fRow_repeat_39, if_pos (nI_le (by omega) (by omega))], fun _ _ => rfl, fun j h1 h2 => by omega⟩
  | m + 1, k + 1, f, hm, hd, hk => by
    obtain ⟨i, hi⟩ : ∃ i, i = e - (m + 1) := ⟨_, rfl⟩
    have e1 : nI i + (1 : Int32) = nI (e - m) := by rw [nI_1]; congr 1; omega
    obtain ⟨f', h2, h3, h4⟩ := s_Row_repeat_39 (N := N) h1 he m k (upd f i ((f (i - d)).toInt8.toInt32)) (by omega) (by omega) (by omega)
    refine ⟨f', ?_, ?_, ?_⟩
    · rw [← hi, fRow_repeat_39, if_neg (nI_ge (by omega) (by omega)), pk_sub (by omega), if_pos (nI_in (by omega) (by omega)), if_pos (nI_in (by omega) (by omega)), nI_clamp (by omega), nI_clamp (by omega), e1]
      exact h2
    · intro j hj
      rw [h3 j (by omega), pk_un (by omega)]
    · intro j hj1 hj2
      by_cases ej : j = i
      · subst ej
        rw [h3 j (by omega), pk_us, by8_id, h3 (j - d) (by omega), pk_un (by omega)]
      · exact h4 j (by omega) hj2
theorem s_Mo_again_57 {N n d c : Nat} (h1 : 1 ≤ d) (hd : d ≤ n) (hc : n + c ≤ 65536) : ∀ (m k : Nat) (g : Nat → Int32), m ≤ c → m < k →
    ∃ g', fMo_again_57 N (nI n) (nI d) (nI c) k (nI (c - m)) g = some g' ∧ (∀ j, j < n + (c - m) → g' j = g j) ∧ ∀ j, n + (c - m) ≤ j → j < n + c → (g' j).toInt8 = (g' (j - d)).toInt8
  | 0, k + 1, g, _, _ => ⟨g, by rw [fMo_again_57, if_pos (nI_le (by omega) (by omega))], fun _ _ => rfl, fun j h1 h2 => by omega⟩
  | m + 1, k + 1, g, hm, hk => by
    obtain ⟨i, hi⟩ : ∃ i, i = c - (m + 1) := ⟨_, rfl⟩
    have e1 : nI i + (1 : Int32) = nI (c - m) := by rw [nI_1]; congr 1; omega
    obtain ⟨g', h2, h3, h4⟩ := s_Mo_again_57 (N := N) h1 hd hc m k (upd g (n + i) ((g (n + i - d)).toInt8.toInt32)) (by omega) (by omega)
    refine ⟨g', ?_, ?_, ?_⟩
    · rw [← hi, fMo_again_57, if_neg (nI_ge (by omega) (by omega)), nI_add, pk_sub (by omega), if_pos (nI_in (by omega) (by omega)), if_pos (nI_in (by omega) (by omega)), nI_clamp (by omega), nI_clamp (by omega), e1]
      exact h2
    · intro j hj
      rw [h3 j (by omega), pk_un (by omega)]
    · intro j hj1 hj2
      by_cases ej : j = n + i
      · subst ej
        rw [h3 (n + i) (by omega), pk_us, by8_id, h3 (n + i - d) (by omega), pk_un (by omega)]
      · exact h4 j (by omega) hj2
theorem rep_unique {n e d : Nat} {f g : Nat → Int32} (h1 : 1 ≤ d) (hd : d ≤ n) (h0 : rowEq n f g) (hf : ∀ j, n ≤ j → j < e → (f j).toInt8 = (f (j - d)).toInt8) (hg : ∀ j, n ≤ j → j < e → (g j).toInt8 = (g (j - d)).toInt8) : rowEq e f g := by
  intro j
  induction j using Nat.strongRecOn with
  | _ j ih =>
    intro hj
    rcases Nat.lt_or_ge j n with h | h
    · exact h0 j h
    · rw [hf j h hj, hg j h hj]
      exact ih (j - d) (by omega) (by omega)
/-- again(): the rows stay alike -/
theorem again_same {N n d c : Nat} {f g : Nat → Int32} (h1 : 1 ≤ d) (hd : d ≤ n) (hc : n + c ≤ 65536) (hN : c < N) (h0 : rowEq n f g) :
    ∃ f' g', fRow_repeat N (nI d) (nI c) (nI n) f = some (nI (n + c), f') ∧ fMo_again_57 N (nI n) (nI d) (nI c) N (0 : Int32) g = some g' ∧ rowEq (n + c) f' g' := by
  obtain ⟨f', a1, a2, a3⟩ := s_Row_repeat_39 (N := N) (e := n + c) h1 (by omega) c N f (by omega) (by omega) hN
  obtain ⟨g', b1, b2, b3⟩ := s_Mo_again_57 (N := N) h1 hd hc c N g (by omega) hN
  rw [show n + c - c = n by omega] at a1 a2 a3
  rw [show c - c = 0 by omega] at b1 b2 b3
  refine ⟨f', g', ?_, b1, rep_unique h1 hd ?_ a3 (fun j h2 h3 => b3 j (by omega) h3)⟩
  · have em : (if nI 65546 < nI n + nI c then nI 65546 else nI n + nI c) = nI (n + c) := by
      rw [nI_add, if_neg (nI_nlt (by omega) (by omega))]
    rw [fRow_repeat, if_neg (show ¬ nI d < (1 : Int32) from nI_nlt (b := 1) h1 (by omega)), if_neg (nI_nlt hd (by omega)), if_pos (nI_pos' (by omega)), em, a1]
    rfl
  · intro j hj
    rw [a2 j hj, b2 j (by omega)]
    exact h0 j hj
