/-! THE CHECK: the class's table against the reference's eight steps. -/
/-- one step, on bits -/
def cpp (b : Bool) : BitVec 32 := if b then 0xEDB88320#32 else 0#32
def cb (x : BitVec 32) : BitVec 32 := (x >>> 1) ^^^ cpp (x.getLsbD 0)
def cbn : Nat → BitVec 32 → BitVec 32
  | 0, x => x
  | n + 1, x => cbn n (cb x)
theorem cpp_xor : ∀ a b : Bool, cpp (a ^^ b) = cpp a ^^^ cpp b := by decide
theorem bx4 (a b c d : BitVec 32) : (a ^^^ b) ^^^ (c ^^^ d) = (a ^^^ c) ^^^ (b ^^^ d) := by
  apply BitVec.eq_of_getLsbD_eq
  intro i hi
  simp only [BitVec.getLsbD_xor]
  cases a.getLsbD i <;> cases b.getLsbD i <;> cases c.getLsbD i <;> cases d.getLsbD i <;> rfl
theorem cb_xor (x y : BitVec 32) : cb (x ^^^ y) = cb x ^^^ cb y := by
  unfold cb
  rw [BitVec.ushiftRight_xor_distrib, BitVec.getLsbD_xor, cpp_xor, bx4]
theorem cbn_xor : ∀ (n : Nat) (x y : BitVec 32), cbn n (x ^^^ y) = cbn n x ^^^ cbn n y
  | 0, _, _ => rfl
  | n + 1, x, y => by
    show cbn n (cb (x ^^^ y)) = cbn n (cb x) ^^^ cbn n (cb y)
    rw [cb_xor, cbn_xor n]
/-- where the lowest bits are 0, the steps only move down -/
theorem cbn_shift : ∀ (n : Nat) (x : BitVec 32), (∀ i, i < n → x.getLsbD i = false) → cbn n x = x >>> n
  | 0, x, _ => by show x = x >>> 0; simp
  | n + 1, x, h => by
    have h0 : cb x = x >>> 1 := by
      unfold cb
      rw [h 0 (by omega), show cpp false = 0#32 from rfl, BitVec.xor_zero]
    show cbn n (cb x) = x >>> (n + 1)
    rw [h0, cbn_shift n (x >>> 1) (fun i hi => by rw [BitVec.getLsbD_ushiftRight]; exact h (1 + i) (by omega))]
    rw [← BitVec.shiftRight_add, Nat.add_comm]
theorem cb8_split (x : BitVec 32) : cbn 8 x = cbn 8 (x &&& 255#32) ^^^ (x >>> 8) := by
  have e : x = (x &&& 255#32) ^^^ (x &&& ~~~255#32) := by
    apply BitVec.eq_of_getLsbD_eq
    intro i hi
    simp only [BitVec.getLsbD_xor, BitVec.getLsbD_and, BitVec.getLsbD_not, hi, decide_true, Bool.true_and]
    cases x.getLsbD i <;> cases (255#32).getLsbD i <;> rfl
  have hz : ∀ i, i < 8 → (x &&& ~~~255#32).getLsbD i = false := by
    intro i hi
    have : (255#32).getLsbD i = true := by
      have : ∀ j, j < 8 → (255#32).getLsbD j = true := by decide
      exact this i hi
    rw [BitVec.getLsbD_and, BitVec.getLsbD_not, this]
    simp
  have hs : (x &&& ~~~255#32) >>> 8 = x >>> 8 := by
    apply BitVec.eq_of_getLsbD_eq
    intro i hi
    simp only [BitVec.getLsbD_ushiftRight, BitVec.getLsbD_and, BitVec.getLsbD_not]
    by_cases h : 8 + i < 32
    · have : (255#32).getLsbD (8 + i) = false := by
        have : ∀ j, j < 32 → 8 ≤ j → (255#32).getLsbD j = false := by decide
        exact this (8 + i) h (by omega)
      rw [this, decide_eq_true h]
      simp
    · have : x.getLsbD (8 + i) = false := BitVec.getLsbD_of_ge _ _ (by omega)
      rw [this]
      simp
  conv => lhs; rw [e]
  rw [cbn_xor, cbn_shift 8 _ hz, hs]
theorem jus_bv (x s : Int32) (k : Nat) (hs : ((s.toUInt32 &&& Int32.toUInt32 31).toBitVec % 32).toNat = k) : (jus x s).toBitVec = x.toBitVec >>> k := by
  apply BitVec.eq_of_toNat_eq
  rw [BitVec.toNat_ushiftRight, Nat.shiftRight_eq_div_pow]
  exact pk_ushr x s k hs
theorem lowbit (x : Int32) : x.toBitVec.getLsbD 0 = decide (x.toBitVec.toNat % 2 = 1) := by
  show x.toBitVec.toNat.testBit 0 = _
  rw [Nat.testBit_zero]
theorem and1 (x : Int32) : x &&& (1 : Int32) = nI (x.toBitVec.toNat % 2) := pk_and x 1 (by decide)
theorem crc_stepM (x : Int32) : (if (x &&& (1 : Int32)) = 0 then jus x (1 : Int32) else (jus x (1 : Int32)) ^^^ (-306674912 : Int32)).toBitVec = cb x.toBitVec := by
  unfold cb
  rw [and1, lowbit]
  rcases Nat.mod_two_eq_zero_or_one x.toBitVec.toNat with h | h
  · rw [h, if_pos (show nI 0 = (0 : Int32) from rfl), jus_bv x 1 1 (by decide), show cpp (decide (0 = 1)) = 0#32 from rfl, BitVec.xor_zero]
  · rw [h, if_neg (by decide), Int32.toBitVec_xor, jus_bv x 1 1 (by decide)]
    rfl
theorem crc_stepC (x : Int32) : (if (x &&& (1 : Int32)) = (1 : Int32) then (jus x (1 : Int32)) ^^^ (-306674912 : Int32) else jus x (1 : Int32)).toBitVec = cb x.toBitVec := by
  unfold cb
  rw [and1, lowbit]
  rcases Nat.mod_two_eq_zero_or_one x.toBitVec.toNat with h | h
  · rw [h, if_neg (by decide), jus_bv x 1 1 (by decide), show cpp (decide (0 = 1)) = 0#32 from rfl, BitVec.xor_zero]
  · rw [h, if_pos (show nI 1 = (1 : Int32) from rfl), Int32.toBitVec_xor, jus_bv x 1 1 (by decide)]
    rfl
theorem crc_M32 (N : Nat) : ∀ (m n : Nat) (x : Int32), m ≤ 8 → m < n → ∃ y, fMo_check_32 N n x (nI (8 - m)) = some y ∧ y.toBitVec = cbn m x.toBitVec
  | 0, n + 1, x, _, _ => ⟨x, by rw [fMo_check_32, if_pos (show (8 : Int32) ≤ nI (8 - 0) by decide)], rfl⟩
  | m + 1, n + 1, x, hm, hn => by
    obtain ⟨y, h1, h2⟩ := crc_M32 N m n (if (x &&& (1 : Int32)) = 0 then jus x (1 : Int32) else (jus x (1 : Int32)) ^^^ (-306674912 : Int32)) (by omega) (by omega)
    refine ⟨y, ?_, ?_⟩
    · rw [fMo_check_32, if_neg (show ¬ (8 : Int32) ≤ nI (8 - (m + 1)) from nI_ge (b := 8) (by omega) (by omega)), show nI (8 - (m + 1)) + (1 : Int32) = nI (8 - m) by rw [nI_1]; congr 1; omega]
      exact h1
    · rw [h2, crc_stepM]
      rfl
theorem crc_C18 (N : Nat) : ∀ (m n : Nat) (x : Int32), m ≤ 8 → m < n → ∃ y, fPB_makeCheckTable_18 N n x (nI (8 - m)) = some y ∧ y.toBitVec = cbn m x.toBitVec
  | 0, n + 1, x, _, _ => ⟨x, by rw [fPB_makeCheckTable_18, if_pos (show (8 : Int32) ≤ nI (8 - 0) by decide)], rfl⟩
  | m + 1, n + 1, x, hm, hn => by
    obtain ⟨y, h1, h2⟩ := crc_C18 N m n (if (x &&& (1 : Int32)) = (1 : Int32) then (jus x (1 : Int32)) ^^^ (-306674912 : Int32) else jus x (1 : Int32)) (by omega) (by omega)
    refine ⟨y, ?_, ?_⟩
    · rw [fPB_makeCheckTable_18, if_neg (show ¬ (8 : Int32) ≤ nI (8 - (m + 1)) from nI_ge (b := 8) (by omega) (by omega)), show nI (8 - (m + 1)) + (1 : Int32) = nI (8 - m) by rw [nI_1]; congr 1; omega]
      exact h1
    · rw [h2, crc_stepC]
      rfl
/-- what the class's table holds -/
def crcT (T : Nat → Int32) : Prop := ∀ b, b < 256 → (T b).toBitVec = cbn 8 (BitVec.ofNat 32 b)
theorem crc_C8 (N : Nat) (hN : 9 ≤ N) : ∀ (m n : Nat) (T : Nat → Int32), m ≤ 256 → m < n → (∀ b, b < 256 - m → (T b).toBitVec = cbn 8 (BitVec.ofNat 32 b)) → ∃ T', fPB_makeCheckTable_8 N n (nI (256 - m)) T = some T' ∧ crcT T'
  | 0, n + 1, T, _, _, h => ⟨T, by rw [fPB_makeCheckTable_8, if_pos (show nI 256 ≤ nI (256 - 0) by decide)], h⟩
  | m + 1, n + 1, T, hm, hn, h => by
    obtain ⟨y, h1, h2⟩ := crc_C18 N 8 N (nI (256 - (m + 1))) (by omega) (by omega)
    obtain ⟨T', h3, h4⟩ := crc_C8 N hN m n (upd T (256 - (m + 1)) y) (by omega) (by omega) (fun b hb => by
      by_cases e : b = 256 - (m + 1)
      · subst e
        rw [pk_us, h2]
        rfl
      · rw [pk_un e]
        exact h b (by omega))
    refine ⟨T', ?_, h4⟩
    have h1' : fPB_makeCheckTable_18 N N (nI (256 - (m + 1))) (0 : Int32) = some y := h1
    rw [fPB_makeCheckTable_8, if_neg (nI_ge (by omega) (by omega)), h1', Option.bind_some, if_pos (nI_in (by omega) (by omega)), nI_clamp (by omega), show nI (256 - (m + 1)) + (1 : Int32) = nI (256 - m) by rw [nI_1]; congr 1; omega]
    exact h3
theorem crc_table (N : Nat) (hN : 257 ≤ N) : ∃ T, fPB_makeCheckTable N = some T ∧ crcT T := by
  obtain ⟨T, h1, h2⟩ := crc_C8 N (by omega) 256 N (fun _ => 0) (by omega) (by omega) (fun b hb => by omega)
  refine ⟨T, ?_, h2⟩
  have h1' : fPB_makeCheckTable_8 N N (0 : Int32) (fun _ => 0) = some T := h1
  rw [fPB_makeCheckTable, h1']
  rfl
/-- a byte of a row, joined to the sum, and the table: the reference's eight steps -/
theorem crc_byte {T : Nat → Int32} (hT : crcT T) (v x : Int32) : ((v ^^^ x.toInt8.toInt32) &&& (255 : Int32)) = nI ((v ^^^ (x.toInt8.toInt32 &&& (255 : Int32))).toBitVec.toNat % 256) := by
  rw [pk_and _ 8 (by decide)]
  congr 1
  show (v ^^^ x.toInt8.toInt32).toBitVec.toNat % 2 ^ 8 = (v ^^^ (x.toInt8.toInt32 &&& 255)).toBitVec.toNat % 2 ^ 8
  have key : ∀ a b : BitVec 32, (a ^^^ b).toNat % 2 ^ 8 = (a ^^^ (b &&& 255#32)).toNat % 2 ^ 8 := by
    intro a b
    apply Nat.eq_of_testBit_eq
    intro i
    rw [Nat.testBit_mod_two_pow, Nat.testBit_mod_two_pow, BitVec.toNat_xor, BitVec.toNat_xor, Nat.testBit_xor, Nat.testBit_xor, BitVec.toNat_and, Nat.testBit_and]
    by_cases h : i < 8
    · have : (255#32).toNat.testBit i = true := by
        have : ∀ j, j < 8 → (255#32).toNat.testBit j = true := by decide
        exact this i h
      rw [this, Bool.and_true]
    · simp [h]
  exact key _ _
theorem crc_step {T : Nat → Int32} (hT : crcT T) (v x : Int32) : (T ((v ^^^ x.toInt8.toInt32) &&& (255 : Int32)).toNatClampNeg ^^^ jus v (8 : Int32)).toBitVec = cbn 8 (v ^^^ (x.toInt8.toInt32 &&& (255 : Int32))).toBitVec := by
  rw [crc_byte hT, nI_clamp (by omega), Int32.toBitVec_xor, hT _ (Nat.mod_lt _ (by decide)), jus_bv v 8 8 (by decide), cb8_split (v ^^^ (x.toInt8.toInt32 &&& (255 : Int32))).toBitVec]
  congr 1
  · congr 1
    apply BitVec.eq_of_toNat_eq
    rw [BitVec.toNat_ofNat, BitVec.toNat_and, show (255#32).toNat = 2 ^ 8 - 1 from rfl, Nat.and_two_pow_sub_one_eq_mod]
    omega
  · apply BitVec.eq_of_getLsbD_eq
    intro i hi
    rw [BitVec.getLsbD_ushiftRight, BitVec.getLsbD_ushiftRight, Int32.toBitVec_xor, Int32.toBitVec_and, BitVec.getLsbD_xor, BitVec.getLsbD_and]
    by_cases h : 8 + i < 32
    · have : (255 : Int32).toBitVec.getLsbD (8 + i) = false := by
        have : ∀ j, j < 32 → 8 ≤ j → (255 : Int32).toBitVec.getLsbD j = false := by decide
        exact this (8 + i) h (by omega)
      rw [this, Bool.and_false, Bool.xor_false]
    · rw [BitVec.getLsbD_of_ge _ _ (by omega), BitVec.getLsbD_of_ge _ _ (by omega)]
      simp
theorem crc_loops (N : Nat) (hN : 9 ≤ N) {T f g : Nat → Int32} (hT : crcT T) (len : Nat) (hl : len ≤ 65536) (hfg : rowEq len f g) : ∀ (m n n' : Nat) (v : Int32), m ≤ len → m < n → m < n' →
    ∃ y, fPB_check_21 N (nI len) f T n v (nI (len - m)) = some y ∧ fMo_check_9 N (nI len) g n' v (nI (len - m)) = some y
  | 0, n + 1, n' + 1, v, _, _, _ => ⟨v, by rw [fPB_check_21, if_pos (nI_le (by omega) (by omega))], by rw [fMo_check_9, if_pos (nI_le (by omega) (by omega))]⟩
  | m + 1, n + 1, n' + 1, v, hm, hn, hn' => by
    have hj : len - (m + 1) < len := by omega
    obtain ⟨z, z1, z2⟩ := crc_M32 N 8 N (v ^^^ ((f (len - (m + 1))).toInt8.toInt32 &&& (255 : Int32))) (by omega) (by omega)
    have hz : T ((v ^^^ (f (len - (m + 1))).toInt8.toInt32) &&& (255 : Int32)).toNatClampNeg ^^^ jus v (8 : Int32) = z := by
      apply Int32.toBitVec_inj.mp
      rw [crc_step hT, z2]
    obtain ⟨y, y1, y2⟩ := crc_loops N hN hT len hl hfg m n n' z (by omega) (by omega) (by omega)
    have e1 : nI (len - (m + 1)) + (1 : Int32) = nI (len - m) := by rw [nI_1]; congr 1; omega
    refine ⟨y, ?_, ?_⟩
    · rw [fPB_check_21, if_neg (nI_ge hj (by omega)), if_pos (nI_in (by omega) (by omega)), nI_clamp (by omega), if_pos, hz, e1]
      · exact y1
      · rw [crc_byte hT]
        exact nI_in (Nat.mod_lt _ (by decide)) (by decide)
    · rw [fMo_check_9, if_neg (nI_ge hj (by omega)), if_pos (nI_in (by omega) (by omega)), nI_clamp (by omega), ← hfg _ hj, show fMo_check_32 N N (v ^^^ ((f (len - (m + 1))).toInt8.toInt32 &&& (255 : Int32))) (0 : Int32) = some z from z1, Option.bind_some, e1]
      exact y2
/-- THE CHECK: class and reference answer alike -/
theorem crc_same (N : Nat) {T f g : Nat → Int32} (hT : crcT T) {len : Nat} (hl : len ≤ 65536) (hN : len + 9 ≤ N) (hfg : rowEq len f g) : ∃ r, fPB_check N (nI len) f T = some r ∧ fMo_check N (nI len) g = some (r, 0) := by
  obtain ⟨y, y1, y2⟩ := crc_loops N (by omega) hT len hl hfg len N N (-1) (Nat.le_refl _) (by omega) (by omega)
  have e : nI (len - len) = (0 : Int32) := by rw [Nat.sub_self]; rfl
  rw [e] at y1 y2
  refine ⟨((y ^^^ (-1 : Int32)).toInt64) &&& (4294967295 : Int64), ?_, ?_⟩
  · rw [fPB_check, y1]
    rfl
  · rw [fMo_check, y2]
    rfl
