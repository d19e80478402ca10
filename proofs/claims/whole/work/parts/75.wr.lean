/-! Both writers alike. -/
def WR (t : Nat) (held hb count : Int32) (cells : Nat → Int32) (out : Int32) (prod : Nat → Int32) : Prop := ∃ (β : Nat → Nat) (c H b : Nat), held = nI H ∧ hb = nI b ∧ count = nI c ∧ b < 8 ∧ sinkC t β c H b cells ∧ out = nI t ∧ sinkM t β prod
theorem WR_0 (cells prod : Nat → Int32) : WR 0 0 0 0 cells 0 prod := ⟨fun _ => 0, 0, 0, 0, rfl, rfl, rfl, by omega, ⟨rfl, by decide, fun j hj => by omega, fun i hi => by omega⟩, rfl, fun i hi => by omega⟩
theorem WR_lo {N t n v : Nat} {held hb count out x : Int32} {cells prod : Nat → Int32} (hN : 20 ≤ N) (h : WR t held hb count cells out prod) (hn : n ≤ 16) (ht : t + n ≤ 8 * 65546) (hv : v < 2 ^ n) (hx : ∀ j, j < n → bN x j = v / 2 ^ j % 2) :
    ∃ held' hb' count' cells' out' prod', fBitSink_put N (nI v) (nI n) held hb count cells = some (held', hb', count', cells') ∧ fMo_low N x (nI n) out prod = some (out', prod') ∧ WR (t + n) held' hb' count' cells' out' prod' := by
  obtain ⟨β, c, H, b, rfl, rfl, rfl, h8, h1, rfl, h2⟩ := h
  obtain ⟨c', H', b', cells', a1, a2, a3⟩ := s_put (N := N) (by omega) ht hn hv h8 h1
  obtain ⟨prod', b1, b2⟩ := s_Mo_low (N := N) (n := n) (x := x) (by omega) hn (by omega) h2
  refine ⟨nI H', nI b', nI c', cells', nI (t + n), prod', a1, b1, _, c', H', b', rfl, rfl, rfl, a2, a3, rfl, sinkM_congr b2 (fun i hi => ?_)⟩
  rw [apd, apd]
  by_cases q : i < t
  · rw [if_pos q, if_pos q]
  · rw [if_neg q, if_neg q, hx _ (by omega)]
theorem WR_loN {N t n v : Nat} {held hb count out : Int32} {cells prod : Nat → Int32} (hN : 20 ≤ N) (h : WR t held hb count cells out prod) (hn : n ≤ 16) (ht : t + n ≤ 8 * 65546) (hv : v < 2 ^ n) :
    ∃ held' hb' count' cells' out' prod', fBitSink_put N (nI v) (nI n) held hb count cells = some (held', hb', count', cells') ∧ fMo_low N (nI v) (nI n) out prod = some (out', prod') ∧ WR (t + n) held' hb' count' cells' out' prod' :=
  WR_lo hN h hn ht hv (fun j hj => bN_nI v j (by omega))
theorem WR_hi {N t n v : Nat} {held hb count out : Int32} {cells prod : Nat → Int32} (hN : 20 ≤ N) (h : WR t held hb count cells out prod) (hn : n ≤ 16) (ht : t + n ≤ 8 * 65546) (hv : v < 2 ^ 31) :
    ∃ held' hb' count' cells' out' prod', fBitSink_put N (nI (rvv v n)) (nI n) held hb count cells = some (held', hb', count', cells') ∧ fMo_high N (nI v) (nI n) out prod = some (out', prod') ∧ WR (t + n) held' hb' count' cells' out' prod' := by
  obtain ⟨β, c, H, b, rfl, rfl, rfl, h8, h1, rfl, h2⟩ := h
  obtain ⟨c', H', b', cells', a1, a2, a3⟩ := s_put (N := N) (by omega) ht hn (rvv_lt v n) h8 h1
  obtain ⟨prod', b1, b2⟩ := s_Mo_high (N := N) (n := n) (v := v) (by omega) hv hn (by omega) h2
  refine ⟨nI H', nI b', nI c', cells', nI (t + n), prod', a1, b1, _, c', H', b', rfl, rfl, rfl, a2, a3, rfl, sinkM_congr b2 (fun i hi => ?_)⟩
  rw [apd, apd]
  by_cases q : i < t
  · rw [if_pos q, if_pos q]
  · rw [if_neg q, if_neg q, rvv_bit v n _ (by omega)]
/-- the end: the last byte filled with zeros -/
theorem WR_end {N t : Nat} {held hb count out : Int32} {cells prod : Nat → Int32} (h : WR t held hb count cells out prod) (ht : t ≤ 8 * 65546) :
    ∃ cells', fBitSink_fillByte N held hb count cells = some (0, 0, nI ((t + 7) / 8), cells') ∧ out = nI t ∧ rowEq ((t + 7) / 8) cells' prod := by
  obtain ⟨β, c, H, b, rfl, rfl, rfl, h8, h1, rfl, h2⟩ := h
  obtain ⟨cells', a1, a2⟩ := s_fillByte (N := N) ht h8 h1
  refine ⟨cells', a1, rfl, fun i hi => ?_⟩
  apply bt8
  intro j hj
  have e1 := a2.2.2.2 i hi j hj
  have e2 := h2 i (by omega) j hj
  have e3 : bN (cells' i) j = bN (prod i) j := by
    rw [e1, e2, apd]
  rw [bN, bN] at e3
  revert e3
  cases bt (cells' i) j <;> cases bt (prod i) j <;> decide
