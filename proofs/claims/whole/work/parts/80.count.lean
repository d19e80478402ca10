/-! Symbols of lengths and distances, and their counts. -/
/-- the last index up to r whose number is not above v -/
def ixd (T : Nat → Nat) (v : Nat) : Nat → Nat
  | 0 => 0
  | r + 1 => if T (r + 1) ≤ v then r + 1 else ixd T v r
theorem ixd_ok {T : Nat → Nat} {v : Nat} (h0 : T 0 ≤ v) : ∀ r, ixd T v r ≤ r ∧ T (ixd T v r) ≤ v ∧ ∀ j, ixd T v r < j → j ≤ r → v < T j
  | 0 => ⟨Nat.le_refl _, h0, fun j a b => by rw [ixd] at a; omega⟩
  | r + 1 => by
    obtain ⟨a, b, c⟩ := ixd_ok h0 r
    rw [ixd]
    by_cases h : T (r + 1) ≤ v
    · rw [if_pos h]
      exact ⟨Nat.le_refl _, h, fun j p q => by omega⟩
    · rw [if_neg h]
      refine ⟨by omega, b, fun j p q => ?_⟩
      by_cases e : j = r + 1
      · rw [e]; omega
      · exact c j p (by omega)
theorem ixd_unique {T : Nat → Nat} {v r i : Nat} (h0 : T 0 ≤ v) (hT : ∀ a b, a ≤ b → b ≤ r → T a ≤ T b) (hi : i ≤ r) (h1 : T i ≤ v) (h2 : i < r → v < T (i + 1)) : ixd T v r = i := by
  obtain ⟨a, b, c⟩ := ixd_ok h0 r
  rcases Nat.lt_trichotomy (ixd T v r) i with h | h | h
  · have := c i h hi
    omega
  · exact h
  · have := h2 (by omega)
    have := hT (i + 1) (ixd T v r) h a
    omega
theorem s_lna_5 {N v len : Nat} {f : Nat → Int32} {T : Nat → Nat} (hv : v < 2 ^ 20) (hlen : len ≤ 32) (hf : ∀ i, i < len → f i = nI (T i)) (hT : ∀ i, i < len → T i < 2 ^ 20) : ∀ (j k i : Nat), j ≤ 5 → j < k → i < len → T i ≤ v → (i + 2 ^ j < len → v < T (i + 2 ^ j)) → ∃ r, fPB_lastNotAbove_5 N (nI v) len f k (nI i) (nI (2 ^ j / 2)) = some (nI r) ∧ r < len ∧ T r ≤ v ∧ (r + 1 < len → v < T (r + 1))
  | 0, k + 1, i, hj, hk, hi, h1, h2 => by
    refine ⟨i, ?_, hi, h1, h2⟩
    rw [fPB_lastNotAbove_5, if_pos (show nI (2 ^ 0 / 2) ≤ (0 : Int32) from by decide)]
  | j + 1, k + 1, i, hj, hk, hi, h1, h2 => by
    have hp : 2 ^ (j + 1) / 2 = 2 ^ j := by rw [Nat.pow_succ]; omega
    have hpw : 2 ^ j ≤ 2 ^ 4 := Nat.pow_le_pow_right (by decide) (by omega)
    have hp1 : 1 ≤ 2 ^ j := Nat.one_le_two_pow
    have hsh : nI (2 ^ j) >>> ((1 : Int32) &&& 31) = nI (2 ^ j / 2) := pk_shrN (by omega) ((1 : Int32) &&& 31) 1 (by decide)
    have e2 : i + 2 ^ (j + 1) = i + 2 ^ j + 2 ^ j := by rw [Nat.pow_succ]; omega
    rw [fPB_lastNotAbove_5, hp, if_neg (show ¬ nI (2 ^ j) ≤ (0 : Int32) from nI_ge (a := 0) (by omega) (by omega)), nI_add, hsh]
    by_cases c1 : len ≤ i + 2 ^ j
    · rw [if_pos (nI_le c1 (by omega))]
      exact s_lna_5 hv hlen hf hT j k i (by omega) (by omega) hi h1 (by omega)
    · rw [if_neg (show ¬ nI len ≤ nI (i + 2 ^ j) from nI_ge (by omega) (by omega)), if_pos (nI_in (by omega) (by omega)), nI_clamp (by omega), hf _ (by omega)]
      have hT2 := hT (i + 2 ^ j) (by omega)
      by_cases c2 : v < T (i + 2 ^ j)
      · rw [if_pos (nI_lt c2 (by omega))]
        exact s_lna_5 hv hlen hf hT j k i (by omega) (by omega) hi h1 (fun _ => c2)
      · rw [if_neg (nI_nlt (by omega) (by omega))]
        exact s_lna_5 hv hlen hf hT j k (i + 2 ^ j) (by omega) (by omega) (by omega) (by omega) (fun h => by rw [← e2]; exact h2 (by omega))
def lS (l : Nat) : Nat := ixd lf l 28
def dS (d : Nat) : Nat := ixd df d 29
theorem lf_mono : ∀ b, b < 29 → ∀ a, a ≤ b → lf a ≤ lf b := by decide +kernel
theorem df_mono : ∀ b, b < 30 → ∀ a, a ≤ b → df a ≤ df b := by decide +kernel
theorem lS_ok {l : Nat} (h : 3 ≤ l) (h2 : l ≤ 258) : lS l < 29 ∧ lf (lS l) ≤ l := by
  obtain ⟨a, b, -⟩ := ixd_ok (T := lf) (v := l) (show lf 0 ≤ l from h) 28
  exact ⟨by rw [lS]; omega, b⟩
theorem dS_ok {d : Nat} (h : 1 ≤ d) : dS d < 30 ∧ df (dS d) ≤ d := by
  obtain ⟨a, b, -⟩ := ixd_ok (T := df) (v := d) (show df 0 ≤ d from h) 29
  exact ⟨by rw [dS]; omega, b⟩
theorem s_lna_len {N l : Nat} (hN : 10 ≤ N) (h : 3 ≤ l) (h2 : l ≤ 258) : fPB_lastNotAbove N (nI l) 29 S_LENGTH_FIRST = some (nI (lS l)) := by
  obtain ⟨r, a, b, c, d⟩ := s_lna_5 (N := N) (v := l) (len := 29) (f := S_LENGTH_FIRST) (T := lf) (by omega) (by omega) (fun i hi => (len_ok i hi).2.1) (fun i hi => by have := (len_ok i hi).2.2.2.2.2.2; omega) 5 N 0 (by omega) (by omega) (by omega) h (fun h => by omega)
  rw [fPB_lastNotAbove, show fPB_lastNotAbove_5 N (nI l) 29 S_LENGTH_FIRST N (0 : Int32) (16 : Int32) = some (nI r) from a]
  rw [lS, ixd_unique (T := lf) (v := l) (r := 28) (i := r) h (fun a b p q => lf_mono b (by omega) a p) (by omega) c (fun h => d (by omega))]
  rfl
theorem s_lna_dst {N d : Nat} (hN : 10 ≤ N) (h : 1 ≤ d) (h2 : d ≤ 32768) : fPB_lastNotAbove N (nI d) 30 S_DISTANCE_FIRST = some (nI (dS d)) := by
  obtain ⟨r, a, b, c, e⟩ := s_lna_5 (N := N) (v := d) (len := 30) (f := S_DISTANCE_FIRST) (T := df) (by omega) (by omega) (fun i hi => (dst_ok i hi).2.1) (fun i hi => by have := (dst_ok i hi).2.2.2.2.2.2; omega) 5 N 0 (by omega) (by omega) (by omega) h (fun h => by omega)
  rw [fPB_lastNotAbove, show fPB_lastNotAbove_5 N (nI d) 30 S_DISTANCE_FIRST N (0 : Int32) (16 : Int32) = some (nI r) from a]
  rw [dS, ixd_unique (T := df) (v := d) (r := 29) (i := r) h (fun a b p q => df_mono b (by omega) a p) (by omega) c (fun h => e (by omega))]
  rfl
theorem s_symOf_3 {N l : Nat} (h3 : 3 ≤ l) (h4 : l ≤ 258) : ∀ (i k : Nat), i ≤ 28 → i < k → (i < 28 → l < 258) → fMo_symbolOf_3 N (nI l) k (nI i) = some (nI (ixd lf l i))
  | 0, k + 1, hi, hk, hx => by
    rw [fMo_symbolOf_3, s_lengthOf (by omega), Option.bind_some, ixd, if_neg (show ¬ nI l < nI (lf 0) from nI_nlt (show 3 ≤ l from h3) (by omega)), if_neg (show ¬ nI 0 = (28 : Int32) from by decide)]
  | i + 1, k + 1, hi, hk, hx => by
    obtain ⟨-, -, -, -, t5, t6, t7⟩ := len_ok (i + 1) (by omega)
    have em : nI (i + 1) + (-1 : Int32) = nI i := pk_m1 i
    rw [fMo_symbolOf_3, s_lengthOf (by omega), Option.bind_some, ixd, em]
    by_cases c : l < lf (i + 1)
    · rw [if_pos (nI_lt c (by omega)), if_neg (show ¬ lf (i + 1) ≤ l by omega)]
      exact s_symOf_3 h3 h4 i k (by omega) (by omega) (fun _ => by omega)
    · rw [if_neg (nI_nlt (by omega) (by omega)), if_pos (show lf (i + 1) ≤ l by omega)]
      by_cases e : i + 1 = 28
      · have hl : lf (i + 1) = 258 := by rw [e]; rfl
        rw [if_pos (show nI (i + 1) = (28 : Int32) by rw [e]; rfl), if_pos (show (258 : Int32) ≤ nI l from nI_le (a := 258) (by omega) (by omega))]
      · rw [if_neg (show ¬ nI (i + 1) = (28 : Int32) by rw [show (28 : Int32) = nI 28 from rfl, nI_eq (by omega) (by omega)]; exact e)]
theorem s_symbolOf {N l : Nat} (hN : 40 ≤ N) (h3 : 3 ≤ l) (h4 : l ≤ 258) : fMo_symbolOf N (nI l) = some (nI (lS l)) := by
  rw [fMo_symbolOf, show fMo_symbolOf_3 N (nI l) N (28 : Int32) = _ from s_symOf_3 h3 h4 28 N (by omega) (by omega) (by omega)]
  rfl
theorem s_symOfD_3 {N d : Nat} (h3 : 1 ≤ d) (h4 : d ≤ 32768) : ∀ (i k : Nat), i ≤ 29 → i < k → fMo_symbolOfDistance_3 N (nI d) k (nI i) = some (nI (ixd df d i))
  | 0, k + 1, hi, hk => by
    rw [fMo_symbolOfDistance_3, s_distanceOf (by omega), Option.bind_some, ixd, if_pos (show nI (df 0) ≤ nI d from nI_le (show 1 ≤ d from h3) (by omega))]
  | i + 1, k + 1, hi, hk => by
    obtain ⟨-, -, -, -, t5, t6, t7⟩ := dst_ok (i + 1) (by omega)
    have em : nI (i + 1) + (-1 : Int32) = nI i := pk_m1 i
    rw [fMo_symbolOfDistance_3, s_distanceOf (by omega), Option.bind_some, ixd, em]
    by_cases c : df (i + 1) ≤ d
    · rw [if_pos (nI_le c (by omega)), if_pos c]
    · rw [if_neg (show ¬ nI (df (i + 1)) ≤ nI d from nI_ge (by omega) (by omega)), if_neg c]
      exact s_symOfD_3 h3 h4 i k (by omega) (by omega)
theorem s_symbolOfD {N d : Nat} (hN : 40 ≤ N) (h3 : 1 ≤ d) (h4 : d ≤ 32768) : fMo_symbolOfDistance N (nI d) = some (nI (dS d)) := by
  rw [fMo_symbolOfDistance, show fMo_symbolOfDistance_3 N (nI d) N (29 : Int32) = _ from s_symOfD_3 h3 h4 29 N (by omega) (by omega)]
  rfl
/-- the symbol of a token, and that of its distance -/
def sy (Lf Df : Nat → Nat) (i : Nat) : Nat := if Lf i = 0 then Df i else 257 + lS (Lf i)
def dy (Lf Df : Nat → Nat) (i : Nat) : Nat := if Lf i = 0 then 1000 else dS (Df i)
/-- a token taken apart, on the class's side -/
theorem cTok_lit {l d : Nat} (h : okTok l d) (h0 : l = 0) : nI (cTok l d) >>> ((9 : Int32) &&& 31) = 0 ∧ nI (cTok l d) &&& (255 : Int32) = nI d := by
  have hd : d < 256 := by
    rcases h with h | h
    · exact h.2
    · omega
  rw [cTok, if_pos h0]
  constructor
  · rw [pk_shrN (by omega) ((9 : Int32) &&& 31) 9 (by decide), Nat.div_eq_of_lt (by omega)]
    rfl
  · rw [pk_andN (by omega) 8 (by decide), Nat.mod_eq_of_lt (by omega)]
theorem cTok_match {l d : Nat} (h : okTok l d) (h0 : ¬ l = 0) : nI (cTok l d) >>> ((9 : Int32) &&& 31) = nI d ∧ nI (cTok l d) &&& (511 : Int32) = nI l ∧ 3 ≤ l ∧ l ≤ 258 ∧ 1 ≤ d ∧ d ≤ 32768 := by
  have hd : 3 ≤ l ∧ l ≤ 258 ∧ 1 ≤ d ∧ d ≤ 32768 := by
    rcases h with h | h
    · exact absurd h.1 h0
    · exact h
  rw [cTok, if_neg h0]
  refine ⟨?_, ?_, hd⟩
  · rw [pk_shrN (by omega) ((9 : Int32) &&& 31) 9 (by decide)]
    congr 1
    omega
  · rw [pk_andN (by omega) 9 (by decide)]
    congr 1
    omega
theorem mTok_lit {N l d : Nat} (h : okTok l d) (h0 : l = 0) : fMo_isMatch N (nI (mTok l d)) = some false ∧ mTok l d = d ∧ d < 256 := by
  have hd : d < 256 := by
    rcases h with h | h
    · exact h.2
    · omega
  rw [mTok, if_pos h0, fMo_isMatch, if_pos (show nI d < (1073741824 : Int32) from nI_lt (b := 1073741824) (by omega) (by omega))]
  exact ⟨rfl, rfl, hd⟩
theorem mTok_match {N l d : Nat} (h : okTok l d) (h0 : ¬ l = 0) : fMo_isMatch N (nI (mTok l d)) = some true ∧ fMo_matchLength N (nI (mTok l d)) = some (nI l) ∧ fMo_matchBack N (nI (mTok l d)) = some (nI d) := by
  have hd : 3 ≤ l ∧ l ≤ 258 ∧ 1 ≤ d ∧ d ≤ 32768 := by
    rcases h with h | h
    · exact absurd h.1 h0
    · exact h
  have e : mTok l d = 1073741824 + (l * 65536 + d) := by rw [mTok, if_neg h0, Nat.add_assoc]
  have hx : l * 65536 + d < 2 ^ 25 := by omega
  have hs : (l * 65536 + d) / 2 ^ 16 = l ∧ (1073741824 + (l * 65536 + d)) % 2 ^ 16 = d := by omega
  generalize l * 65536 + d = x at e hx hs
  rw [e]
  have e1 : nI (1073741824 + x) - nI 1073741824 = nI x := by rw [nI_sub (by omega), Nat.add_sub_cancel_left]
  refine ⟨?_, ?_, ?_⟩
  · rw [fMo_isMatch, show (1073741824 : Int32) = nI 1073741824 from rfl, if_neg (nI_nlt (by omega) (by omega))]
  · rw [fMo_matchLength, show (1073741824 : Int32) = nI 1073741824 from rfl, e1, pk_shrN (by omega) ((16 : Int32) &&& 31) 16 (by decide), hs.1]
  · rw [fMo_matchBack, pk_andN (by omega) 16 (by decide), hs.2]
