/-! Reading: own codes whole. -/
theorem u_lengths {N n all : Nat} {f g P S M S2 : Nat → Int32} {c T : Nat → Nat} {codes : Int32} (hN : 400 ≤ N) (hn : n ≤ 65536) (hfg : rowEq n f g) (hC : tabC c T codes P S) (hM : tabM c T 2 M S2) (hc : acc c 16 ≤ 19) (hT : ∀ i, i < acc c 16 → T i < 19) (hfull : kra c 16 = 32768) (hall : all ≤ 316) :
    ∀ (m k k' hv pos : Nat) (st st2 : Int32) (rp len line : Nat → Int32), (hv = all → st = st2) → hv + m = all → m < k → m < k' → pos ≤ 8 * n → lenOK hv len line →
      (∃ st' p len' line', pos ≤ p ∧ p ≤ 8 * n ∧ lenOK all len' line' ∧ fUnpacker_readLengths_16 N (nI all) codes (nI n) f P S k st (nI hv) (nI pos) rp len = some (.inl (st', nI p, rp, len')) ∧ fMo_readOwn_180 N (nI (8 * n)) g (nI all) M S2 k' st2 (nI hv) (nI pos) line = some (.inl (st', nI p, line'))) ∨
      (∃ a r b a' fl q b', fUnpacker_readLengths_16 N (nI all) codes (nI n) f P S k st (nI hv) (nI pos) rp len = some (.inr (false, a, r, b)) ∧ fMo_readOwn_180 N (nI (8 * n)) g (nI all) M S2 k' st2 (nI hv) (nI pos) line = some (.inr (true, a', fl, q, b')) ∧ repW r fl q) := by
  intro m
  induction m using Nat.strongRecOn with
  | _ m ih =>
    intro k k' hv pos st st2 rp len line hst hm hk hk' hpos hlen
    obtain ⟨k, rfl⟩ : ∃ j, k = j + 1 := ⟨k - 1, by omega⟩
    obtain ⟨k', rfl⟩ : ∃ j, k' = j + 1 := ⟨k' - 1, by omega⟩
    by_cases h0 : hv < all
    · have hun : fUnpacker_readLengths_16 N (nI all) codes (nI n) f P S (k + 1) st (nI hv) (nI pos) rp len = (fUnpacker_readLength N (nI hv) (nI all) (nI pos) codes (nI n) f P S rp len).bind (fun y2 => if (1 : Int32) ≤ y2.1 then fUnpacker_readLengths_16 N (nI all) codes (nI n) f P S k (nI pos) (nI hv + y2.1) y2.2.1 y2.2.2.1 y2.2.2.2 else some (.inr (false, y2.2.1, y2.2.2.1, y2.2.2.2))) := by
        rw [fUnpacker_readLengths_16, if_neg (by rw [nI_leI (by omega) (by omega)]; omega)]
      rcases u_length (rp := rp) hN hn hfg hpos hC hM hc hT hfull h0 hall hlen with ⟨a, r, b, e1, q, fl, e2, w⟩ | ⟨d, p, len', line', h1, h2, h3, h4, h5, e1, e2⟩
      · right
        obtain ⟨a', b', e3⟩ := e2 k' st2
        refine ⟨a, r, b, a', fl, q, b', ?_, e3, w⟩
        rw [hun, e1]
        rfl
      · have hE : fUnpacker_readLengths_16 N (nI all) codes (nI n) f P S (k + 1) st (nI hv) (nI pos) rp len = fUnpacker_readLengths_16 N (nI all) codes (nI n) f P S k (nI pos) (nI (hv + d)) (nI p) rp len' := by
          rw [hun, e1, Option.bind_some]
          show (if (1 : Int32) ≤ nI d then fUnpacker_readLengths_16 N (nI all) codes (nI n) f P S k (nI pos) (nI hv + nI d) (nI p) rp len' else _) = _
          rw [if_pos (show (1 : Int32) ≤ nI d from nI_le (a := 1) h1 (by omega)), nI_add]
        rw [hE, e2]
        rcases ih (m - d) (by omega) k k' (hv + d) p (nI pos) (nI pos) rp len' line' (fun _ => rfl) (by omega) (by omega) (by omega) h4 h5 with ⟨st', p', l1, l2, q1, q2, q3, q4, q5⟩ | h
        · exact Or.inl ⟨st', p', l1, l2, by omega, q2, q3, q4, q5⟩
        · exact Or.inr h
    · left
      have e : hv = all := by omega
      subst e
      obtain rfl := hst rfl
      refine ⟨st, pos, len, line, Nat.le_refl _, hpos, hlen, ?_, ?_⟩
      · rw [fUnpacker_readLengths_16, if_pos (nI_le (Nat.le_refl _) (by omega))]
      · rw [fMo_readOwn_180, if_pos (nI_le (Nat.le_refl _) (by omega))]
theorem s_isFull {N k : Nat} (hk : k < 2 ^ 31) : fDecoder_isFull N (nI 32768 - nI k) = some (decide (k = 32768)) := by
  rw [fDecoder_isFull]
  have h := nI_subI (a := 32768) (b := k) (by omega) hk
  by_cases e : k = 32768
  · rw [decide_eq_true e]
    subst e
    rfl
  · rw [decide_eq_false e]
    have h2 : ¬ (nI 32768 - nI k = (0 : Int32)) := fun h3 => e ((h.mp h3).symm)
    rw [if_neg h2]
theorem s_isOneBit {N a : Nat} {P : Nat → Int32} {c : Nat → Nat} (ha : a < 2 ^ 31) (hP : P 1 = nI (c 1)) (hc : c 1 < 2 ^ 31) : fDecoder_isOneBit N (nI a) P = some (decide (a = 1 ∧ c 1 = 1)) := by
  rw [fDecoder_isOneBit]
  by_cases h1 : a = 1
  · by_cases h2 : c 1 = 1
    · simp (disch := omega) only [nlit, nI_add, nI_mul, nI_sub, nI_leI, nI_ltI, nI_eq, nI_inI', nI_inI, nI_lt0', nI_lt0, nI_clamp, nI_div, nI_rem, nI_shl, nI_shr, upd_same, nI_eqm, nI_m1le, nI_m2le, nI_m1lt, nI_m2lt, nI_m2m1, eq_self, not_false_eq_true, not_true_eq_false, if_pos, if_neg, if_true, if_false, Option.bind_some, hP]
      simp [h1, h2]
    · simp (disch := omega) only [nlit, nI_add, nI_mul, nI_sub, nI_leI, nI_ltI, nI_eq, nI_inI', nI_inI, nI_lt0', nI_lt0, nI_clamp, nI_div, nI_rem, nI_shl, nI_shr, upd_same, nI_eqm, nI_m1le, nI_m2le, nI_m1lt, nI_m2lt, nI_m2m1, eq_self, not_false_eq_true, not_true_eq_false, if_pos, if_neg, if_true, if_false, Option.bind_some, hP]
      simp [h2]
  · simp (disch := omega) only [nlit, nI_add, nI_mul, nI_sub, nI_leI, nI_ltI, nI_eq, nI_inI', nI_inI, nI_lt0', nI_lt0, nI_clamp, nI_div, nI_rem, nI_shl, nI_shr, upd_same, nI_eqm, nI_m1le, nI_m2le, nI_m1lt, nI_m2lt, nI_m2m1, eq_self, not_false_eq_true, not_true_eq_false, if_pos, if_neg, if_true, if_false, Option.bind_some, hP]
    simp [h1]
theorem s_isEmpty {N a : Nat} (ha : a < 2 ^ 31) : fDecoder_isEmpty N (nI a) = some (decide (a = 0)) := by
  rw [fDecoder_isEmpty]
  by_cases h1 : a = 0
  · simp (disch := omega) only [nlit, nI_add, nI_mul, nI_sub, nI_leI, nI_ltI, nI_eq, nI_inI', nI_inI, nI_lt0', nI_lt0, nI_clamp, nI_div, nI_rem, nI_shl, nI_shr, upd_same, nI_eqm, nI_m1le, nI_m2le, nI_m1lt, nI_m2lt, nI_m2m1, eq_self, not_false_eq_true, not_true_eq_false, if_pos, if_neg, if_true, if_false, Option.bind_some]
    simp [h1]
  · simp (disch := omega) only [nlit, nI_add, nI_mul, nI_sub, nI_leI, nI_ltI, nI_eq, nI_inI', nI_inI, nI_lt0', nI_lt0, nI_clamp, nI_div, nI_rem, nI_shl, nI_shr, upd_same, nI_eqm, nI_m1le, nI_m2le, nI_m1lt, nI_m2lt, nI_m2m1, eq_self, not_false_eq_true, not_true_eq_false, if_pos, if_neg, if_true, if_false, Option.bind_some]
    simp [h1]
theorem tk_add (f : Nat → Int32) (p a : Nat) : ∀ b, tk f p (a + b) = tk f p a + 2 ^ a * tk f (p + a) b
  | 0 => by rw [Nat.add_zero, tk, Nat.mul_zero, Nat.add_zero]
  | b + 1 => by
    rw [show a + (b + 1) = (a + b) + 1 from rfl, tk_s, tk_add f p a b, tk_s, Nat.mul_add, Nat.pow_add, show p + (a + b) = p + a + b by omega, Nat.mul_left_comm]
    omega
theorem tk14 (f : Nat → Int32) (p : Nat) : tk f p 14 % 32 = tk f p 5 ∧ tk f p 14 / 32 % 32 = tk f (p + 5) 5 ∧ tk f p 14 / 1024 = tk f (p + 10) 4 := by
  have h1 := tk_add f p 5 9
  have h2 := tk_add f (p + 5) 5 4
  have l1 := tk_lt f p 5
  have l2 := tk_lt f (p + 5) 5
  have l3 := tk_lt f (p + 10) 4
  rw [show p + 5 + 5 = p + 10 from rfl] at h2
  rw [show (5 + 9 : Nat) = 14 from rfl] at h1
  rw [show (5 + 4 : Nat) = 9 from rfl] at h2
  rw [h2] at h1
  rw [h1]
  omega
theorem s_readCodeLengths {N n p few : Nat} {f cl P st S rp : Nat → Int32} {codes left : Int32} (hN : 400 ≤ N) (hn : n ≤ 65536) (hp : p ≤ 8 * n) (hfew : few ≤ 19) :
    (8 * n < p + 3 * few → ∃ x, fUnpacker_readCodeLengths N (nI few) (nI p) (nI n) cl f codes left P st S rp = some x ∧ x.1 = false ∧ repW x.2.2.2.2.2.2.2.2 1 (nI p)) ∧
    (p + 3 * few ≤ 8 * n → (kra (cnt (clen f p few) 19) 16 ≠ 32768 → ∃ x, fUnpacker_readCodeLengths N (nI few) (nI p) (nI n) cl f codes left P st S rp = some x ∧ x.1 = false ∧ repW x.2.2.2.2.2.2.2.2 5 (nI p)) ∧
      (kra (cnt (clen f p few) 19) 16 = 32768 → ∃ cl' left' P' st' S', fUnpacker_readCodeLengths N (nI few) (nI p) (nI n) cl f codes left P st S rp = some (true, nI (p + 3 * few), cl', nI (acc (cnt (clen f p few) 19) 16), left', P', st', S', rp) ∧ tabC (cnt (clen f p few) 19) (symT (clen f p few) 19) (nI (acc (cnt (clen f p few) 19) 16)) P' S')) := by
  constructor
  · intro h
    obtain ⟨r, w1, w2⟩ := s_wrong (N := N) 1 (nI p) rp
    rw [fUnpacker_readCodeLengths, s_bitsLeft hp, Option.bind_some, show (3 : Int32) * nI few = nI (3 * few) from pk_mul 3 few, if_neg (by rw [nI_leI (by omega) (by omega)]; omega), w1]
    exact ⟨_, rfl, rfl, w2⟩
  · intro h
    obtain ⟨g0, a1, a2⟩ := s_fill (N := N) (x1 := 0) (n := 19) (by omega) (by omega) cl
    obtain ⟨cl', b1, b2⟩ := s_cl (N := N) (f := f) (by omega) hn hfew h g0 a2
    obtain ⟨P', st', S', d1, d2, d3⟩ := s_learn (N := N) (by omega) (x2 := 0) (n := 19) (n_p1 := 19) (f := cl') (L := clen f p few) (by omega) (by omega) (by omega) (fun j hj => by rw [Nat.zero_add]; exact b2 j hj) (fun j hj => by have := clen_lt f p few j; omega) P st S
    have hk : kra (cnt (clen f p few) 19) 16 < 2 ^ 31 := by
      have hc := fun l => cnt_le (clen f p few) l 19
      rw [kra16]
      have := hc 1; have := hc 2; have := hc 3; have := hc 4; have := hc 5; have := hc 6; have := hc 7; have := hc 8; have := hc 9; have := hc 10; have := hc 11; have := hc 12; have := hc 13; have := hc 14; have := hc 15
      omega
    have hif := s_isFull (N := N) hk
    have e0 : fUnpacker_readCodeLengths N (nI few) (nI p) (nI n) cl f codes left P st S rp = (if (bI (decide (kra (cnt (clen f p few) 19) 16 = 32768))) = 0 then
                  (fUnpacker_wrong N (5 : Int32) (nI p) rp).bind (fun y14 =>
                    some ((if (bI y14.1) = 0 then false else true), nI (p + 3 * few), cl', nI (acc (cnt (clen f p few) 19) 16), nI 32768 - nI (kra (cnt (clen f p few) 19) 16), P', st', S', y14.2))
                else
                  some (true, nI (p + 3 * few), cl', nI (acc (cnt (clen f p few) 19) 16), nI 32768 - nI (kra (cnt (clen f p few) 19) 16), P', st', S', rp)) := by
      rw [fUnpacker_readCodeLengths, s_bitsLeft hp, Option.bind_some, show (3 : Int32) * nI few = nI (3 * few) from pk_mul 3 few, if_pos (by rw [nI_leI (by omega) (by omega)]; omega), a1, Option.bind_some]
      rw [show fUnpacker_readCodeLengths_38 N (nI n) (nI few) f N (0 : Int32) (nI p) g0 = some (nI (p + 3 * few), cl') from b1, Option.bind_some]
      show (fDecoder_learn N (0 : Int32) (19 : Int32) P 19 cl' st S).bind _ = _
      rw [show fDecoder_learn N (0 : Int32) (19 : Int32) P 19 cl' st S = some (nI (acc (cnt (clen f p few) 19) 16), nI 32768 - nI (kra (cnt (clen f p few) 19) 16), P', st', S') from d1, Option.bind_some]
      show (fDecoder_isFull N (nI 32768 - nI (kra (cnt (clen f p few) 19) 16))).bind _ = _
      rw [hif]
      rfl
    constructor
    · intro hne
      obtain ⟨r, w1, w2⟩ := s_wrong (N := N) 5 (nI p) rp
      rw [e0, decide_eq_false hne, if_pos (show bI false = 0 from rfl), w1]
      exact ⟨_, rfl, rfl, w2⟩
    · intro he
      refine ⟨cl', nI 32768 - nI (kra (cnt (clen f p few) 19) 16), P', st', S', ?_, tabC_of (by omega) d2 d3⟩
      rw [e0, decide_eq_true he, if_neg (by decide)]
/-- an own table may be read with -/
abbrev tabOK (c : Nat → Nat) : Prop := kra c 16 = 32768 ∨ (acc c 16 = 1 ∧ c 1 = 1)
theorem bI_z (b : Bool) : (bI b = 0) = (b = false) := by cases b <;> simp [bI]
theorem s_84 {N : Nat} {len P Q : Nat → Int32} {c d : Nat → Nat} {w : Nat} (hw : w < 16) (h256 : len 256 = nI w) (hP : P 1 = nI (c 1)) (hQ : Q 1 = nI (d 1)) (hc : kra c 16 < 2 ^ 31 ∧ acc c 16 < 2 ^ 31 ∧ c 1 < 2 ^ 31) (hd : kra d 16 < 2 ^ 31 ∧ acc d 16 < 2 ^ 31 ∧ d 1 < 2 ^ 31) :
    ∃ z : Int32, fUnpacker_readLengths_84 N len (nI (acc c 16)) (nI 32768 - nI (kra c 16)) P (nI (acc d 16)) (nI 32768 - nI (kra d 16)) Q = some z ∧ (z = 0 ↔ ¬ (1 ≤ w ∧ tabOK c ∧ (tabOK d ∨ acc d 16 = 0))) := by
  rw [fUnpacker_readLengths_84, s_isFull hc.1, s_isFull hd.1, s_isOneBit hc.2.1 hP hc.2.2, s_isOneBit hd.2.1 hQ hd.2.2, s_isEmpty hd.2.1]
  rw [show (256 : Int32).toNatClampNeg = 256 from by decide, h256, if_pos (by decide)]
  unfold tabOK
  by_cases hw0 : w = 0
  · refine ⟨0, ?_, ?_⟩
    · rw [if_pos (by rw [hw0]; decide)]
    · simp [hw0]
  · rw [if_neg (by rw [show (0 : Int32) = nI 0 from rfl, nI_leI (by omega) (by omega)]; omega)]
    simp only [Option.bind_some, bI_z, decide_eq_false_iff_not]
    have hw1 : 1 ≤ w := by omega
    by_cases h1 : kra c 16 = 32768 <;> by_cases h2 : acc c 16 = 1 ∧ c 1 = 1 <;> by_cases h3 : kra d 16 = 32768 <;> by_cases h4 : acc d 16 = 1 ∧ d 1 = 1 <;> by_cases h5 : acc d 16 = 0 <;> simp [h1, h2, h3, h4, h5, hw1]
