/-! Writing a row as stored blocks, both sides. -/
theorem u_wblock {N n B j p m c b : Nat} {f g cells prod : Nat → Int32} (hN : 70000 ≤ N) (hn : n ≤ 65536) (hB : B ≤ 2) (hj : j < B) (hp : p = j * 65535) (hm : m = if n - p < 65535 then n - p else 65535) (hpn : p ≤ n) (hb : b = if j + 1 = B then 1 else 0) (hl : n ≤ p + m ↔ j + 1 = B) (hc : c + 5 + m ≤ 65546) (hfg : rowEq n f g) (h : WB c cells prod) :
    ∃ ce p6, (∀ k, fPacker_writeStored_7 N (nI n) (nI B) f (k + 1) (nI j) 0 0 (nI c) cells = fPacker_writeStored_7 N (nI n) (nI B) f k (nI (j + 1)) 0 0 (nI (c + 5 + m)) ce) ∧ (∀ k, fMo_writeStored_4 N (nI n) g (k + 1) (nI p) (1 : Int32) (nI (8 * c)) prod = fMo_writeStored_4 N (nI n) g k (nI (p + m)) (nI (1 - b)) (nI (8 * (c + 5 + m))) p6) ∧ WB (c + 5 + m) ce p6 := by
  have hm2 : m < 2 ^ 16 := by rw [hm]; split <;> omega
  have hpm : p + m ≤ n := by rw [hm]; split <;> omega
  have hb1 : b ≤ 1 := by rw [hb]; split <;> omega
  obtain ⟨h1, b1, c1, ce1, ce2, h3, b3, c3, ce3, ce4, o1, p1, o2, p2, o3, p3, o4, p4, o5, p5, p6, a1, a2, a3, a4, a5, r1, r2, r3, r4, r5, r6, r7⟩ := u_stored_block (N := N) hN hn hpm hm2 hb1 hc hfg h
  refine ⟨_, p6, fun k => ?_, fun k => ?_, r7⟩
  · have E1 : (if nI j = nI B - (1 : Int32) then (1 : Int32) else (0 : Int32)) = nI b := by
      rw [hb, show (1 : Int32) = nI 1 from rfl, nI_sub (show 1 ≤ B by omega)]
      by_cases q : j + 1 = B
      · rw [if_pos q, if_pos (by rw [show j = B - 1 by omega])]
      · rw [if_neg q, if_neg (fun e => q (by have := (nI_eq (show j < 2 ^ 31 by omega) (show B - 1 < 2 ^ 31 by omega)).mp e; omega))]; rfl
    have E2 : (if nI n - nI j * (65535 : Int32) < (65535 : Int32) then nI n - nI j * (65535 : Int32) else (65535 : Int32)) = nI m := by
      rw [show (65535 : Int32) = nI 65535 from rfl, nI_mul, ← hp, nI_sub hpn, hm]
      by_cases q : n - p < 65535
      · rw [if_pos q, if_pos (nI_lt q (by omega))]
      · rw [if_neg q, if_neg (nI_nlt (by omega) (by omega))]
    have E3 : nI j * (65535 : Int32) = nI p := by
      rw [show (65535 : Int32) = nI 65535 from rfl, nI_mul, ← hp]
    rw [fPacker_writeStored_7, if_neg (show ¬ nI B ≤ nI j from nI_ge hj (by omega)), E1, E2, E3, a1, Option.bind_some, a2, Option.bind_some, a3, Option.bind_some, a4, Option.bind_some, a5, Option.bind_some, nI_1]
  · have E1 : (if (65535 : Int32) ≤ nI n - nI p then (65535 : Int32) else nI n - nI p) = nI m := by
      rw [show (65535 : Int32) = nI 65535 from rfl, nI_sub hpn, hm]
      by_cases q : n - p < 65535
      · rw [if_pos q, if_neg (nI_ge q (by omega))]
      · rw [if_neg q, if_pos (nI_le (by omega) (by omega))]
    have E2 : (if nI n ≤ nI (p + m) then (0 : Int32) else (1 : Int32)) = nI (1 - b) := by
      rw [hb]
      by_cases q : j + 1 = B
      · rw [if_pos q, if_pos (nI_le (hl.mpr q) (by omega))]; rfl
      · rw [if_neg q, if_neg (nI_ge (by have := fun e => q (hl.mp e); omega) (by omega))]; rfl
    have E3 : (if nI (1 - b) = (0 : Int32) then (1 : Int32) else (0 : Int32)) = nI b := by
      rcases (show b = 0 ∨ b = 1 by omega) with e | e <;> subst e <;> rfl
    rw [fMo_writeStored_4, if_neg (show ¬ (1 : Int32) = 0 by decide), E1, nI_add, E2, E3, r1, Option.bind_some, r2, Option.bind_some, r3, Option.bind_some, r4, Option.bind_some, r5, Option.bind_some, r6, Option.bind_some]
/-- how many stored blocks a row takes -/
def nBl (n : Nat) : Nat := if n ≤ 65535 then 1 else 2
theorem s_storedBlocks {N n : Nat} (hn : n ≤ 65536) : fPacker_storedBlocks N (nI n) = some (nI (nBl n)) := by
  rw [fPacker_storedBlocks, nBl]
  by_cases q : n ≤ 65535
  · have e : (n + 65535 - 1) / 65535 ≤ 1 := by omega
    rw [if_pos q, show (65535 : Int32) = nI 65535 from rfl, nI_add, show (1 : Int32) = nI 1 from rfl, nI_sub (by omega), nI_div (by omega) (by omega) (by omega), if_neg (nI_nlt e (by omega))]
  · have e : (n + 65535 - 1) / 65535 = 2 := by omega
    rw [if_neg q, show (65535 : Int32) = nI 65535 from rfl, nI_add, show (1 : Int32) = nI 1 from rfl, nI_sub (by omega), nI_div (by omega) (by omega) (by omega), e]
    rfl
theorem WB_0 (cells prod : Nat → Int32) : WB 0 cells prod := by
  refine ⟨fun _ => 0, ⟨by omega, by decide, fun j hj => by omega, fun i hi => by omega⟩, ?_⟩
  exact fun i hi => by omega
theorem u_writeStored {N n : Nat} {f g cells prod : Nat → Int32} (hN : 70000 ≤ N) (hn : n ≤ 65536) (hfg : rowEq n f g) :
    ∃ ce p6, fPacker_writeStored N (nI n) 0 0 0 cells f = some (0, 0, nI (n + 5 * nBl n), ce) ∧ fMo_writeStored N (nI n) 0 prod g = some (nI (8 * (n + 5 * nBl n)), p6) ∧ WB (n + 5 * nBl n) ce p6 := by
  obtain ⟨k, rfl⟩ : ∃ k, N = k + 3 := ⟨N - 3, by omega⟩
  rw [fPacker_writeStored, s_storedBlocks hn, Option.bind_some, fMo_writeStored]
  by_cases q : n ≤ 65535
  · have e : nBl n = 1 := by rw [nBl, if_pos q]
    rw [e]
    obtain ⟨ce, p6, a1, a2, a3⟩ := u_wblock (N := k + 3) (B := 1) (j := 0) (p := 0) (m := n) (c := 0) (b := 1) hN hn (by omega) (by omega) (by omega) (by split <;> omega) (by omega) (by decide) (by omega) (by omega) hfg (WB_0 cells prod)
    refine ⟨ce, p6, ?_, ?_, by rw [show n + 5 * 1 = 0 + 5 + n by omega]; exact a3⟩
    · rw [show fPacker_writeStored_7 (k + 3) (nI n) (nI 1) f (k + 3) (0 : Int32) 0 0 0 cells = _ from a1 (k + 2), fPacker_writeStored_7, if_pos (show nI 1 ≤ nI (0 + 1) from nI_le (by omega) (by omega)), Option.bind_some, show n + 5 * 1 = 0 + 5 + n by omega]
    · rw [show fMo_writeStored_4 (k + 3) (nI n) g (k + 3) (0 : Int32) (1 : Int32) 0 prod = _ from a2 (k + 2), fMo_writeStored_4, if_pos (show nI (1 - 1) = 0 from rfl), Option.bind_some, show n + 5 * 1 = 0 + 5 + n by omega]
  · have e : nBl n = 2 := by rw [nBl, if_neg q]
    rw [e]
    obtain ⟨ce, p6, a1, a2, a3⟩ := u_wblock (N := k + 3) (B := 2) (j := 0) (p := 0) (m := 65535) (c := 0) (b := 0) hN hn (by omega) (by omega) (by omega) (by split <;> omega) (by omega) (by decide) (by omega) (by omega) hfg (WB_0 cells prod)
    obtain ⟨ce2, p7, b1, b2, b3⟩ := u_wblock (N := k + 3) (B := 2) (j := 1) (p := 65535) (m := 1) (c := 0 + 5 + 65535) (b := 1) hN hn (by omega) (by omega) (by omega) (by split <;> omega) (by omega) (by decide) (by omega) (by omega) hfg a3
    refine ⟨ce2, p7, ?_, ?_, by rw [show n + 5 * 2 = 0 + 5 + 65535 + 5 + 1 by omega]; exact b3⟩
    · rw [show fPacker_writeStored_7 (k + 3) (nI n) (nI 2) f (k + 3) (0 : Int32) 0 0 0 cells = _ from a1 (k + 2), show fPacker_writeStored_7 (k + 3) (nI n) (nI 2) f (k + 2) (nI (0 + 1)) 0 0 (nI (0 + 5 + 65535)) ce = _ from b1 (k + 1), fPacker_writeStored_7, if_pos (show nI 2 ≤ nI (1 + 1) from nI_le (by omega) (by omega)), Option.bind_some, show n + 5 * 2 = 0 + 5 + 65535 + 5 + 1 by omega]
    · rw [show fMo_writeStored_4 (k + 3) (nI n) g (k + 3) (0 : Int32) (1 : Int32) 0 prod = _ from a2 (k + 2), show fMo_writeStored_4 (k + 3) (nI n) g (k + 2) (nI (0 + 65535)) (nI (1 - 0)) (nI (8 * (0 + 5 + 65535))) p6 = _ from b2 (k + 1), fMo_writeStored_4, if_pos (show nI (1 - 1) = 0 from rfl), Option.bind_some, show n + 5 * 2 = 0 + 5 + 65535 + 5 + 1 by omega]
