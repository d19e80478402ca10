/-! Writing bits, on both sides the same. -/
def bN (x : Int32) (k : Nat) : Nat := (bt x k).toNat
theorem bN_le (x : Int32) (k : Nat) : bN x k ≤ 1 := by
  rw [bN]
  cases bt x k <;> decide
theorem bN_nI (v k : Nat) (hk : k < 32) : bN (nI v) k = v / 2 ^ k % 2 := by
  rw [bN, bt_nI v k hk, Nat.testBit_eq_decide_div_mod_eq]
  have : v / 2 ^ k % 2 = 0 ∨ v / 2 ^ k % 2 = 1 := by omega
  rcases this with e | e <;> rw [e] <;> rfl
theorem bN_and1 (x : Int32) (k : Nat) (hk : k < 32) : (x >>> (nI k &&& nI 31)) &&& nI 1 = nI (bN x k) := by
  apply b_ext
  intro i hi
  rw [b_and, show (nI 31) = (31 : Int32) from rfl, b_sshr k hk x hi, bt_nI 1 i hi, bt_nI _ i hi]
  by_cases h0 : i = 0
  · subst h0
    rw [Nat.add_zero, if_pos hk, bN]
    cases bt x k <;> rfl
  · have hp : 2 ^ 1 ≤ 2 ^ i := Nat.pow_le_pow_right (by decide) (by omega)
    have hb := bN_le x k
    rw [Nat.testBit_lt_two_pow (show 1 < 2 ^ i by omega), Nat.testBit_lt_two_pow (show bN x k < 2 ^ i by omega), Bool.and_false]
/-- what the sink has written and holds: t bits, as β says -/
def sinkC (t : Nat) (β : Nat → Nat) (count H hb : Nat) (cells : Nat → Int32) : Prop := t = 8 * count + hb ∧ H < 2 ^ hb ∧ (∀ j, j < hb → β (8 * count + j) = H / 2 ^ j % 2) ∧ ∀ i, i < count → ∀ j, j < 8 → bN (cells i) j = β (8 * i + j)
def sinkM (t : Nat) (β : Nat → Nat) (prod : Nat → Int32) : Prop := ∀ i, 8 * i < t → ∀ j, j < 8 → bN (prod i) j = if 8 * i + j < t then β (8 * i + j) else 0
theorem sinkC_congr {t : Nat} {β γ : Nat → Nat} {count H hb : Nat} {cells : Nat → Int32} (h : sinkC t β count H hb cells) (e : ∀ i, i < t → β i = γ i) : sinkC t γ count H hb cells := by
  obtain ⟨h1, h2, h3, h4⟩ := h
  exact ⟨h1, h2, fun j hj => by rw [← e _ (by omega), h3 j hj], fun i hi j hj => by rw [← e _ (by omega), h4 i hi j hj]⟩
theorem sinkM_congr {t : Nat} {β γ : Nat → Nat} {prod : Nat → Int32} (h : sinkM t β prod) (e : ∀ i, i < t → β i = γ i) : sinkM t γ prod := by
  intro i hi j hj
  rw [h i hi j hj]
  by_cases q : 8 * i + j < t
  · rw [if_pos q, if_pos q, e _ q]
  · rw [if_neg q, if_neg q]
theorem jus8 {H : Nat} (h : H < 2 ^ 31) : jus (nI H) (nI 8) = nI (H / 2 ^ 8) := pk_ushrN (by omega) (nI 8) 8 (s_u 8 (by omega))
theorem s_put_25 {N t : Nat} {β : Nat → Nat} (ht : t ≤ 8 * 65546) : ∀ (m k count H hb : Nat) (cells : Nat → Int32), hb < 8 * (m + 1) → hb ≤ 24 → m < k → sinkC t β count H hb cells → ∃ count' H' hb' cells', fBitSink_put_25 N k (nI H) (nI hb) (nI count) cells = some (nI H', nI hb', nI count', cells') ∧ hb' < 8 ∧ sinkC t β count' H' hb' cells'
  | 0, k + 1, count, H, hb, cells, h1, h2, hk, hs => by
    refine ⟨count, H, hb, cells, ?_, by omega, hs⟩
    rw [fBitSink_put_25]
    simp (disch := omega) only [nlit, nI_add, nI_mul, nI_sub, nI_leI, nI_ltI, nI_eq, nI_inI', nI_inI, nI_lt0', nI_lt0, nI_clamp, nI_div, nI_rem, nI_shl, nI_shr, upd_same, nI_eqm, nI_m1le, nI_m2le, nI_m1lt, nI_m2lt, nI_m2m1, eq_self, not_false_eq_true, not_true_eq_false, if_pos, if_neg, if_true, if_false, Option.bind_some]
  | m + 1, k + 1, count, H, hb, cells, h1, h2, hk, hs => by
    by_cases h8 : hb < 8
    · refine ⟨count, H, hb, cells, ?_, h8, hs⟩
      rw [fBitSink_put_25]
      simp (disch := omega) only [nlit, nI_add, nI_mul, nI_sub, nI_leI, nI_ltI, nI_eq, nI_inI', nI_inI, nI_lt0', nI_lt0, nI_clamp, nI_div, nI_rem, nI_shl, nI_shr, upd_same, nI_eqm, nI_m1le, nI_m2le, nI_m1lt, nI_m2lt, nI_m2m1, eq_self, not_false_eq_true, not_true_eq_false, if_pos, if_neg, if_true, if_false, Option.bind_some]
    · obtain ⟨s1, s2, s3, s4⟩ := hs
      have hH : 2 ^ hb ≤ 2 ^ 24 := Nat.pow_le_pow_right (by decide) h2
      have hadd := s_Row_add (N := N) (p := nI H) (f := cells) (n := count) (by omega)
      have hpw : 2 ^ hb = 2 ^ 8 * 2 ^ (hb - 8) := by rw [← Nat.pow_add]; congr 1; omega
      obtain ⟨c', H', hb', cells', e1, e2, e3⟩ := s_put_25 (N := N) (β := β) ht m k (count + 1) (H / 2 ^ 8) (hb - 8) (upd cells count (nI H).toInt8.toInt32) (by omega) (by omega) (by omega) ⟨by omega, by
          rw [Nat.div_lt_iff_lt_mul (by decide), Nat.mul_comm]
          omega, fun j hj => by
          rw [show 8 * (count + 1) + j = 8 * count + (8 + j) by omega, s3 (8 + j) (by omega), Nat.div_div_eq_div_mul, ← Nat.pow_add], fun i hi j hj => by
          by_cases e : i = count
          · subst e
            rw [upd_same, bN, bt_sx _ hj, ← bN, bN_nI H j (by omega), s3 j (by omega)]
          · rw [upd_ne e]
            exact s4 i (by omega) j hj⟩
      refine ⟨c', H', hb', cells', ?_, e2, e3⟩
      rw [fBitSink_put_25]
      simp (disch := omega) only [nlit, nI_add, nI_mul, nI_sub, nI_leI, nI_ltI, nI_eq, nI_inI', nI_inI, nI_lt0', nI_lt0, nI_clamp, nI_div, nI_rem, nI_shl, nI_shr, upd_same, nI_eqm, nI_m1le, nI_m2le, nI_m1lt, nI_m2lt, nI_m2m1, eq_self, not_false_eq_true, not_true_eq_false, if_pos, if_neg, if_true, if_false, Option.bind_some, hadd, jus8]
      exact e1
/-- t bits, and behind them those of a number -/
def apd (t : Nat) (β γ : Nat → Nat) : Nat → Nat := fun i => if i < t then β i else γ (i - t)
theorem s_put {N t n v count H hb : Nat} {β : Nat → Nat} {cells : Nat → Int32} (hN : 10 ≤ N) (ht : t + n ≤ 8 * 65546) (hn : n ≤ 16) (hv : v < 2 ^ n) (h8 : hb < 8) (hs : sinkC t β count H hb cells) :
    ∃ count' H' hb' cells', fBitSink_put N (nI v) (nI n) (nI H) (nI hb) (nI count) cells = some (nI H', nI hb', nI count', cells') ∧ hb' < 8 ∧ sinkC (t + n) (apd t β (fun j => v / 2 ^ j % 2)) count' H' hb' cells' := by
  obtain ⟨s1, s2, s3, s4⟩ := hs
  have hor : nI H ||| nI (v * 2 ^ hb) = nI (H + v * 2 ^ hb) := by rw [nx_or, or_add s2]
  have hp1 : 2 ^ n * 2 ^ hb = 2 ^ (hb + n) := by rw [← Nat.pow_add, Nat.add_comm]
  have hlt : H + v * 2 ^ hb < 2 ^ (hb + n) := by
    have h1 : (v + 1) * 2 ^ hb ≤ 2 ^ n * 2 ^ hb := Nat.mul_le_mul_right _ (by omega)
    rw [Nat.add_mul, Nat.one_mul] at h1
    omega
  obtain ⟨c', H', hb', cells', e1, e2, e3⟩ := s_put_25 (N := N) (t := t + n) (β := apd t β (fun j => v / 2 ^ j % 2)) ht 3 N count (H + v * 2 ^ hb) (hb + n) cells (by omega) (by omega) (by omega) ⟨by omega, hlt, fun j hj => by
      by_cases q : j < hb
      · rw [apd, if_pos (by omega), s3 j q]
        have e : H + v * 2 ^ hb = H + 2 ^ j * (v * 2 ^ (hb - j)) := by
          rw [Nat.mul_left_comm, ← Nat.pow_add, show j + (hb - j) = hb by omega]
        rw [e, Nat.add_mul_div_left _ _ (Nat.two_pow_pos j)]
        have e2 : 2 ^ (hb - j) = 2 * 2 ^ (hb - j - 1) := by
          rw [show hb - j = (hb - j - 1) + 1 by omega, Nat.pow_succ, Nat.mul_comm, Nat.add_sub_cancel]
        rw [e2, Nat.mul_left_comm, Nat.add_mul_mod_self_left]
      · rw [apd, if_neg (by omega), show 8 * count + j - t = j - hb by omega]
        have e : 2 ^ j = 2 ^ hb * 2 ^ (j - hb) := by rw [← Nat.pow_add]; congr 1; omega
        rw [e, ← Nat.div_div_eq_div_mul, Nat.add_mul_div_right _ _ (Nat.two_pow_pos hb), Nat.div_eq_of_lt s2, Nat.zero_add], fun i hi j hj => by
      rw [apd, if_pos (by omega), s4 i hi j hj]⟩
  refine ⟨c', H', hb', cells', ?_, e2, e3⟩
  rw [fBitSink_put]
  simp (disch := omega) only [nlit, nI_add, nI_mul, nI_sub, nI_leI, nI_ltI, nI_eq, nI_inI', nI_inI, nI_lt0', nI_lt0, nI_clamp, nI_div, nI_rem, nI_shl, nI_shr, upd_same, nI_eqm, nI_m1le, nI_m2le, nI_m1lt, nI_m2lt, nI_m2m1, eq_self, not_false_eq_true, not_true_eq_false, hor]
  rw [e1]
  rfl

theorem s_fillByte {N t count H hb : Nat} {β : Nat → Nat} {cells : Nat → Int32} (ht : t ≤ 8 * 65546) (h8 : hb < 8) (hs : sinkC t β count H hb cells) :
    ∃ cells', fBitSink_fillByte N (nI H) (nI hb) (nI count) cells = some (0, 0, nI ((t + 7) / 8), cells') ∧ sinkC (up8 t) (apd t β (fun _ => 0)) ((t + 7) / 8) 0 0 cells' := by
  obtain ⟨s1, s2, s3, s4⟩ := hs
  rw [fBitSink_fillByte]
  by_cases h0 : hb = 0
  · have e : (t + 7) / 8 = count := by omega
    refine ⟨cells, ?_, ?_⟩
    · rw [e]
      simp (disch := omega) only [nlit, nI_add, nI_mul, nI_sub, nI_leI, nI_ltI, nI_eq, nI_inI', nI_inI, nI_lt0', nI_lt0, nI_clamp, nI_div, nI_rem, nI_shl, nI_shr, upd_same, nI_eqm, nI_m1le, nI_m2le, nI_m1lt, nI_m2lt, nI_m2m1, eq_self, not_false_eq_true, not_true_eq_false, if_pos, if_neg, if_true, if_false, Option.bind_some]
    · refine ⟨by rw [up8]; omega, by decide, fun j hj => by omega, fun i hi j hj => ?_⟩
      rw [apd, if_pos (by omega), s4 i (by omega) j hj]
  · have e : (t + 7) / 8 = count + 1 := by omega
    have hH : 2 ^ hb ≤ 2 ^ 7 := Nat.pow_le_pow_right (by decide) (by omega)
    have hadd := s_Row_add (N := N) (p := nI H) (f := cells) (n := count) (by omega)
    refine ⟨upd cells count (nI H).toInt8.toInt32, ?_, ?_⟩
    · rw [e]
      simp (disch := omega) only [nlit, nI_add, nI_mul, nI_sub, nI_leI, nI_ltI, nI_eq, nI_inI', nI_inI, nI_lt0', nI_lt0, nI_clamp, nI_div, nI_rem, nI_shl, nI_shr, upd_same, nI_eqm, nI_m1le, nI_m2le, nI_m1lt, nI_m2lt, nI_m2m1, eq_self, not_false_eq_true, not_true_eq_false, if_pos, if_neg, if_true, if_false, Option.bind_some, hadd]
    · refine ⟨by rw [up8]; omega, by decide, fun j hj => by omega, fun i hi j hj => ?_⟩
      by_cases ei : i = count
      · subst ei
        rw [upd_same, bN, bt_sx _ hj, ← bN, bN_nI H j (by omega), apd]
        by_cases q : 8 * i + j < t
        · rw [if_pos q, s3 j (by omega)]
        · rw [if_neg q, Nat.div_eq_of_lt (Nat.lt_of_lt_of_le s2 (Nat.pow_le_pow_right (by decide) (by omega)))]
      · rw [upd_ne ei, apd, if_pos (by omega), s4 i (by omega) j hj]
/-- one bit, on the reference's side -/
theorem s_Mo_bit {N t b : Nat} {β : Nat → Nat} {prod : Nat → Int32} (ht : t < 8 * 66000) (hb : b ≤ 1) (hs : sinkM t β prod) :
    ∃ prod', fMo_bit N (nI b) (nI t) prod = some (nI (t + 1), prod') ∧ sinkM (t + 1) (apd t β (fun _ => b)) prod' ∧ ∀ i, t / 8 < i → prod' i = prod i := by
  have hsh : ∀ k, k < 8 → ∀ j, j < 8 → bt (nI b <<< (nI k &&& 31)) j = (decide (j = k) && decide (b = 1)) := by
    intro k hk j hj
    rw [b_shl k (by omega) _ (by omega)]
    by_cases q : k ≤ j
    · rw [bt_nI _ _ (by omega)]
      by_cases e : j = k
      · subst e
        rcases (show b = 0 ∨ b = 1 by omega) with r | r <;> subst r <;> simp
      · have hp : 2 ^ 1 ≤ 2 ^ (j - k) := Nat.pow_le_pow_right (by decide) (by omega)
        rw [Nat.testBit_lt_two_pow (show b < 2 ^ (j - k) by omega)]
        simp [e]
    · have e : ¬ j = k := by omega
      simp [q, e]
  have key : ∀ (x : Int32), (∀ j, j < 8 → bN x j = if 8 * (t / 8) + j < t then β (8 * (t / 8) + j) else 0) → ∀ j, j < 8 → bN ((x.toInt8.toInt32 ||| (nI b <<< (nI (t % 8) &&& 31))).toInt8.toInt32) j = if 8 * (t / 8) + j < t + 1 then apd t β (fun _ => b) (8 * (t / 8) + j) else 0 := by
    intro x hx j hj
    rw [bN, bt_sx _ hj, b_or, bt_sx _ hj, hsh (t % 8) (by omega) j hj]
    have hxj := hx j hj
    rw [bN] at hxj
    by_cases e : j = t % 8
    · rw [if_neg (by omega)] at hxj
      have hz : bt x j = false := by
        cases h : bt x j with
        | false => rfl
        | true => rw [h] at hxj; cases hxj
      rw [hz, if_pos (by omega), apd, if_neg (by omega), decide_eq_true e]
      rcases (show b = 0 ∨ b = 1 by omega) with r | r <;> subst r <;> rfl
    · rw [decide_eq_false e, Bool.false_and, Bool.or_false, hxj]
      by_cases q : 8 * (t / 8) + j < t
      · rw [if_pos q, if_pos (by omega), apd, if_pos q]
      · rw [if_neg q, if_neg (by omega)]
  have fin : ∀ (p2 : Nat → Int32) (x : Int32), (∀ i, 8 * i < t → i ≠ t / 8 → p2 i = prod i) → (∀ j, j < 8 → bN x j = if 8 * (t / 8) + j < t then β (8 * (t / 8) + j) else 0) → sinkM (t + 1) (apd t β (fun _ => b)) (upd p2 (t / 8) ((x.toInt8.toInt32 ||| (nI b <<< (nI (t % 8) &&& 31))).toInt8.toInt32)) := by
    intro p2 x hp2 hx i hi j hj
    by_cases e : i = t / 8
    · rw [e, upd_same]
      exact key x hx j hj
    · rw [upd_ne e, hp2 i (by omega) e, hs i (by omega) j hj, if_pos (by omega), if_pos (by omega), apd, if_pos (by omega)]
  rw [fMo_bit]
  have e9 : t - t / 8 * 8 = t % 8 := by omega
  by_cases h0 : t % 8 = 0
  · refine ⟨upd (upd prod (t / 8) (nI 0)) (t / 8) (((nI 0).toInt8.toInt32 ||| (nI b <<< (nI (t % 8) &&& 31))).toInt8.toInt32), ?_, fin _ (nI 0) (fun i _ q => upd_ne q) (fun j hj => ?_), fun i hi => by rw [upd_ne (by omega), upd_ne (by omega)]⟩
    · simp (disch := omega) only [nlit, nI_add, nI_mul, nI_sub, nI_leI, nI_ltI, nI_eq, nI_inI', nI_inI, nI_lt0', nI_lt0, nI_clamp, nI_div, nI_rem, nI_shl, nI_shr, upd_same, nI_eqm, nI_m1le, nI_m2le, nI_m1lt, nI_m2lt, nI_m2m1, eq_self, not_false_eq_true, not_true_eq_false, if_pos, if_neg, if_true, if_false, Option.bind_some, e9]
    · rw [if_neg (by omega)]
      exact (by decide +kernel : ∀ j, j < 8 → bN (nI 0) j = 0) j hj
  · refine ⟨upd prod (t / 8) (((prod (t / 8)).toInt8.toInt32 ||| (nI b <<< (nI (t % 8) &&& 31))).toInt8.toInt32), ?_, fin _ (prod (t / 8)) (fun i _ _ => rfl) (fun j hj => ?_), fun i hi => upd_ne (by omega)⟩
    · simp (disch := omega) only [nlit, nI_add, nI_mul, nI_sub, nI_leI, nI_ltI, nI_eq, nI_inI', nI_inI, nI_lt0', nI_lt0, nI_clamp, nI_div, nI_rem, nI_shl, nI_shr, upd_same, nI_eqm, nI_m1le, nI_m2le, nI_m1lt, nI_m2lt, nI_m2m1, eq_self, not_false_eq_true, not_true_eq_false, if_pos, if_neg, if_true, if_false, Option.bind_some, e9]
    · exact hs (t / 8) (by omega) j hj
theorem s_Mo_low_2 {N n t : Nat} {β : Nat → Nat} {x : Int32} (hn : n ≤ 16) (ht : t + n ≤ 8 * 66000) : ∀ (m k i : Nat) (prod : Nat → Int32), i + m = n → m < k → sinkM (t + i) (apd t β (fun j => bN x j)) prod →
    ∃ prod', fMo_low_2 N x (nI n) k (nI i) (nI (t + i)) prod = some (nI (t + n), prod') ∧ sinkM (t + n) (apd t β (fun j => bN x j)) prod'
  | 0, k + 1, i, prod, hi, hk, hs => by
    rw [fMo_low_2]
    have e : i = n := by omega
    subst e
    refine ⟨prod, ?_, hs⟩
    simp (disch := omega) only [nlit, nI_add, nI_mul, nI_sub, nI_leI, nI_ltI, nI_eq, nI_inI', nI_inI, nI_lt0', nI_lt0, nI_clamp, nI_div, nI_rem, nI_shl, nI_shr, upd_same, nI_eqm, nI_m1le, nI_m2le, nI_m1lt, nI_m2lt, nI_m2m1, eq_self, not_false_eq_true, not_true_eq_false, if_pos, if_neg, if_true, if_false, Option.bind_some]
  | m + 1, k + 1, i, prod, hi, hk, hs => by
    rw [fMo_low_2]
    obtain ⟨p1, e1, e2, -⟩ := s_Mo_bit (N := N) (b := bN x i) (show t + i < 8 * 66000 by omega) (bN_le x i) hs
    obtain ⟨prod', a1, a2⟩ := s_Mo_low_2 (N := N) (x := x) hn ht m k (i + 1) p1 (by omega) (by omega) (sinkM_congr e2 (fun j hj => by
      rw [apd]
      by_cases q : j < t + i
      · rw [if_pos q]
      · rw [if_neg q, apd, if_neg (by omega), show j - t = i by omega]))
    refine ⟨prod', ?_, a2⟩
    simp (disch := omega) only [nlit, nI_add, nI_mul, nI_sub, nI_leI, nI_ltI, nI_eq, nI_inI', nI_inI, nI_lt0', nI_lt0, nI_clamp, nI_div, nI_rem, nI_shl, nI_shr, upd_same, nI_eqm, nI_m1le, nI_m2le, nI_m1lt, nI_m2lt, nI_m2m1, eq_self, not_false_eq_true, not_true_eq_false, if_pos, if_neg, if_true, if_false, Option.bind_some, bN_and1, e1]
    exact a1
theorem s_Mo_low {N n t : Nat} {β : Nat → Nat} {x : Int32} {prod : Nat → Int32} (hN : 20 ≤ N) (hn : n ≤ 16) (ht : t + n ≤ 8 * 66000) (hs : sinkM t β prod) : ∃ prod', fMo_low N x (nI n) (nI t) prod = some (nI (t + n), prod') ∧ sinkM (t + n) (apd t β (fun j => bN x j)) prod' := by
  obtain ⟨p1, e1, e2⟩ := s_Mo_low_2 (N := N) (β := β) (x := x) hn ht n N 0 prod (by omega) (by omega) (sinkM_congr hs (fun j hj => by rw [apd, if_pos (by omega)]))
  refine ⟨p1, ?_, e2⟩
  rw [fMo_low, show fMo_low_2 N x (nI n) N (0 : Int32) (nI t) prod = some (nI (t + n), p1) from e1]
  rfl
theorem s_Mo_high_4 {N n t v : Nat} {β : Nat → Nat} (hv : v < 2 ^ 31) (hn : n ≤ 16) (ht : t + n ≤ 8 * 66000) : ∀ (m k : Nat) (prod : Nat → Int32), m ≤ n → m < k → sinkM (t + (n - m)) (apd t β (fun j => v / 2 ^ (n - 1 - j) % 2)) prod →
    ∃ prod', fMo_high_4 N (nI v) k (nI m - nI 1) (nI (t + (n - m))) prod = some (nI (t + n), prod') ∧ sinkM (t + n) (apd t β (fun j => v / 2 ^ (n - 1 - j) % 2)) prod'
  | 0, k + 1, prod, hi, hk, hs => by
    rw [fMo_high_4]
    refine ⟨prod, ?_, hs⟩
    rw [if_pos (show nI 0 - nI 1 < 0 from by decide), Nat.sub_zero]
  | m + 1, k + 1, prod, hi, hk, hs => by
    rw [fMo_high_4]
    have hd : v / 2 ^ m ≤ v := Nat.div_le_self _ _
    obtain ⟨p1, e1, e2, -⟩ := s_Mo_bit (N := N) (b := v / 2 ^ m % 2) (show t + (n - (m + 1)) < 8 * 66000 by omega) (by omega) hs
    obtain ⟨prod', a1, a2⟩ := s_Mo_high_4 (N := N) (v := v) (β := β) hv hn ht m k p1 (by omega) (by omega) (by
      rw [show t + (n - m) = t + (n - (m + 1)) + 1 by omega]
      refine sinkM_congr e2 (fun j hj => ?_)
      rw [apd]
      by_cases q : j < t + (n - (m + 1))
      · rw [if_pos q]
      · rw [if_neg q, apd, if_neg (by omega), show n - 1 - (j - t) = m by omega])
    refine ⟨prod', ?_, a2⟩
    have e9 : nI m + (-1 : Int32) = nI m - nI 1 := by rw [Int32.sub_eq_add_neg]; rfl
    have e8 : nI (m + 1) - nI 1 = nI m := nI_sub (by omega)
    rw [e8, if_neg (show ¬ nI m < (0 : Int32) from nI_nlt (a := m) (b := 0) (by omega) (by omega))]
    rw [show (nI m &&& 31) = (nI m &&& nI 31) from rfl, nI_shr hv (by omega), show nI (v / 2 ^ m) &&& (1 : Int32) = nI (v / 2 ^ m % 2) from and1N (by omega), e1, Option.bind_some]
    dsimp only
    rw [e9, show t + (n - (m + 1)) + 1 = t + (n - m) by omega]
    exact a1
theorem s_Mo_high {N n t v : Nat} {β : Nat → Nat} {prod : Nat → Int32} (hN : 20 ≤ N) (hv : v < 2 ^ 31) (hn : n ≤ 16) (ht : t + n ≤ 8 * 66000) (hs : sinkM t β prod) : ∃ prod', fMo_high N (nI v) (nI n) (nI t) prod = some (nI (t + n), prod') ∧ sinkM (t + n) (apd t β (fun j => v / 2 ^ (n - 1 - j) % 2)) prod' := by
  obtain ⟨p1, e1, e2⟩ := s_Mo_high_4 (N := N) (n := n) (t := t) (v := v) (β := β) hv hn ht n N prod (by omega) (by omega) (by
    rw [Nat.sub_self, Nat.add_zero]
    exact sinkM_congr hs (fun j hj => by rw [apd, if_pos hj]))
  refine ⟨p1, ?_, e2⟩
  rw [Nat.sub_self, Nat.add_zero] at e1
  rw [fMo_high, show fMo_high_4 N (nI v) N (nI n - (1 : Int32)) (nI t) prod = some (nI (t + n), p1) from e1]
  rfl
/-- the bits of a code turned round -/
theorem rvv_bit (v : Nat) : ∀ (n j : Nat), j < n → rvv v n / 2 ^ j % 2 = v / 2 ^ (n - 1 - j) % 2
  | n + 1, 0, _ => by
    rw [rvv, Nat.pow_zero, Nat.div_one, show n + 1 - 1 - 0 = n by omega]
    omega
  | n + 1, j + 1, h => by
    rw [rvv, Nat.pow_succ, Nat.mul_comm (2 ^ j) 2, ← Nat.div_div_eq_div_mul, show (2 * rvv v n + v / 2 ^ n % 2) / 2 = rvv v n by omega, rvv_bit v n j (by omega), show n + 1 - 1 - (j + 1) = n - 1 - j by omega]
