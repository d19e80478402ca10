/-! Writing: stored blocks, both sides. -/
/-- both at the same whole byte -/
def WB (c : Nat) (cells prod : Nat → Int32) : Prop := ∃ β : Nat → Nat, sinkC (8 * c) β c 0 0 cells ∧ sinkM (8 * c) β prod
theorem s_zero_66 {N t : Nat} {β : Nat → Nat} (ht : up8 t ≤ 8 * 66000) : ∀ (m k i : Nat) (prod : Nat → Int32), t + i + m = up8 t → m < 8 → m < k → sinkM (t + i) (apd t β (fun _ => 0)) prod → ∃ prod', fMo_writeStored_66 N k (nI (t + i)) prod = some (nI (up8 t), prod') ∧ sinkM (up8 t) (apd t β (fun _ => 0)) prod'
  | 0, k + 1, i, prod, hi, hm, hk, hs => by
    have e : t + i = up8 t := by omega
    have h8 : (t + i) % 8 = 0 := by rw [e, up8]; omega
    have h9 : t + i - (t + i) / 8 * 8 = 0 := by omega
    refine ⟨prod, ?_, by rw [← e]; exact hs⟩
    rw [fMo_writeStored_66, ← e]
    simp (disch := omega) only [nlit, nI_add, nI_mul, nI_sub, nI_leI, nI_ltI, nI_eq, nI_inI', nI_inI, nI_lt0', nI_lt0, nI_clamp, nI_div, nI_rem, nI_shl, nI_shr, upd_same, nI_eqm, nI_m1le, nI_m2le, nI_m1lt, nI_m2lt, nI_m2m1, eq_self, not_false_eq_true, not_true_eq_false, if_pos, if_neg, if_true, if_false, Option.bind_some, h9]
  | m + 1, k + 1, i, prod, hi, hm, hk, hs => by
    have h8 : (t + i) % 8 ≠ 0 := by
      intro q
      have : up8 t = 8 * ((t + 7) / 8) := rfl
      omega
    have h9 : ¬ t + i - (t + i) / 8 * 8 = 0 := by omega
    obtain ⟨p1, a1, a2, -⟩ := s_Mo_bit (N := N) (b := 0) (show t + i < 8 * 66000 by omega) (by omega) hs
    obtain ⟨prod', g1, g2⟩ := s_zero_66 (N := N) (β := β) ht m k (i + 1) p1 (by omega) (by omega) (by omega) (sinkM_congr a2 (fun j hj => by
      rw [apd]
      by_cases q : j < t + i
      · rw [if_pos q]
      · rw [if_neg q, apd, if_neg (by omega)]))
    refine ⟨prod', ?_, g2⟩
    rw [fMo_writeStored_66]
    simp (disch := omega) only [nlit, nI_add, nI_mul, nI_sub, nI_leI, nI_ltI, nI_eq, nI_inI', nI_inI, nI_lt0', nI_lt0, nI_clamp, nI_div, nI_rem, nI_shl, nI_shr, upd_same, nI_eqm, nI_m1le, nI_m2le, nI_m1lt, nI_m2lt, nI_m2m1, eq_self, not_false_eq_true, not_true_eq_false, if_pos, if_neg, if_true, if_false, Option.bind_some, a1]
    exact g1
theorem s_bytes_103 {N p m c : Nat} {g : Nat → Int32} {β : Nat → Nat} (hN : 20 ≤ N) (hp : p + m ≤ 65536) (hc : c + m ≤ 65546) : ∀ (d k i : Nat) (prod : Nat → Int32), i + d = m → d < k → sinkM (8 * (c + i)) (fun j => if j < 8 * c then β j else bN (g (p + (j - 8 * c) / 8)) (j % 8)) prod → ∃ prod', fMo_writeStored_103 N (nI p) (nI m) g k (nI i) (nI (8 * (c + i))) prod = some (nI (8 * (c + m)), prod') ∧ sinkM (8 * (c + m)) (fun j => if j < 8 * c then β j else bN (g (p + (j - 8 * c) / 8)) (j % 8)) prod'
  | 0, k + 1, i, prod, hi, hk, hs => by
    have e : i = m := by omega
    subst e
    refine ⟨prod, ?_, hs⟩
    rw [fMo_writeStored_103, if_pos (nI_le (Nat.le_refl _) (by omega))]
  | d + 1, k + 1, i, prod, hi, hk, hs => by
    obtain ⟨p1, a1, a2⟩ := s_Mo_low (N := N) (n := 8) (x := (g (p + i)).toInt8.toInt32) hN (by omega) (show 8 * (c + i) + 8 ≤ 8 * 66000 by omega) hs
    rw [show 8 * (c + i) + 8 = 8 * (c + (i + 1)) by omega] at a1 a2
    obtain ⟨prod', g1, g2⟩ := s_bytes_103 (N := N) (β := β) hN hp hc d k (i + 1) p1 (by omega) (by omega) (sinkM_congr a2 (fun j hj => by
      rw [apd]
      by_cases q : j < 8 * (c + i)
      · rw [if_pos q]
      · rw [if_neg q]
        show bN _ _ = if j < 8 * c then β j else bN (g (p + (j - 8 * c) / 8)) (j % 8)
        rw [if_neg (show ¬ j < 8 * c by omega), show (j - 8 * c) / 8 = i by omega, show j - 8 * (c + i) = j % 8 by omega, bN, bt_sx _ (by omega), bN]))
    refine ⟨prod', ?_, g2⟩
    rw [fMo_writeStored_103, if_neg (show ¬ nI m ≤ nI i from nI_ge (by omega) (by omega)), nI_add, if_pos (nI_in (show p + i < 65536 by omega) (by omega)), nI_clamp (show p + i < 2 ^ 31 by omega), show fMo_low N ((g (p + i)).toInt8.toInt32) (8 : Int32) (nI (8 * (c + i))) prod = _ from a1, Option.bind_some, nI_1]
    exact g1
theorem bN_not {m j : Nat} (hm : m < 2 ^ 16) (hj : j < 16) : bN (nI m ^^^ (-1 : Int32)) j = (65535 - m) / 2 ^ j % 2 := by
  have h1 : (65535 - m) / 2 ^ j % 2 = bN (nI (65535 - m)) j := (bN_nI _ j (by omega)).symm
  rw [h1, bN, bN, b_xor, b_m1 j (by omega), bt_nI _ _ (by omega), bt_nI _ _ (by omega), show 65535 - m = 2 ^ 16 - (m + 1) by omega, Nat.testBit_two_pow_sub_succ hm]
  simp [hj]
theorem xor_65535 {m : Nat} (hm : m < 2 ^ 16) : nI m ^^^ (65535 : Int32) = nI (65535 - m) := by
  have h := (xor_turn hm (show 65535 - m < 2 ^ 16 by omega)).mpr (by omega)
  have h2 : m ^^^ 65535 = 65535 - m := by
    generalize 65535 - m = y at h
    rw [← h, ← Nat.xor_assoc, Nat.xor_self, Nat.zero_xor]
  rw [show (65535 : Int32) = nI 65535 from rfl, nx_xor, h2]
/-- one stored block -/
theorem u_stored_block {N n p m c b : Nat} {f g cells prod : Nat → Int32} (hN : 70000 ≤ N) (hn : n ≤ 65536) (hpm : p + m ≤ n) (hm : m < 2 ^ 16) (hb : b ≤ 1) (hc : c + 5 + m ≤ 65546) (hfg : rowEq n f g) (h : WB c cells prod) :
    ∃ h1 b1 c1 ce1 ce2 h3 b3 c3 ce3 ce4 o1 p1 o2 p2 o3 p3 o4 p4 o5 p5 p6, fBitSink_put N (nI b) (3 : Int32) 0 0 (nI c) cells = some (h1, b1, c1, ce1) ∧ fBitSink_fillByte N h1 b1 c1 ce1 = some (0, 0, nI (c + 1), ce2) ∧ fBitSink_put N (nI m) (16 : Int32) 0 0 (nI (c + 1)) ce2 = some (h3, b3, c3, ce3) ∧ fBitSink_put N (nI m ^^^ (65535 : Int32)) (16 : Int32) h3 b3 c3 ce3 = some (0, 0, nI (c + 5), ce4) ∧ fRow_addFrom N (nI p) (nI m) (nI (c + 5)) (nI n) ce4 f = some (nI (c + 5 + m), va_cpy f ce4 p (c + 5) m) ∧
      fMo_bit N (nI b) (nI (8 * c)) prod = some (o1, p1) ∧ fMo_low N (0 : Int32) (2 : Int32) o1 p1 = some (o2, p2) ∧ fMo_writeStored_66 N N o2 p2 = some (o3, p3) ∧ fMo_low N (nI m) (16 : Int32) o3 p3 = some (o4, p4) ∧ fMo_low N (nI m ^^^ (-1 : Int32)) (16 : Int32) o4 p4 = some (o5, p5) ∧ fMo_writeStored_103 N (nI p) (nI m) g N (0 : Int32) o5 p5 = some (nI (8 * (c + 5 + m)), p6) ∧ WB (c + 5 + m) (va_cpy f ce4 p (c + 5) m) p6 := by
  obtain ⟨β, k1, k2⟩ := h
  obtain ⟨c1, H1, b1, ce1, a1, a2, a3⟩ := s_put (N := N) (t := 8 * c) (n := 3) (v := b) (by omega) (by omega) (by omega) (by omega) (show 0 < 8 by omega) k1
  obtain ⟨ce2, a4, a5⟩ := s_fillByte (N := N) (by omega) a2 a3
  have e1 : (8 * c + 3 + 7) / 8 = c + 1 := by omega
  have e2 : up8 (8 * c + 3) = 8 * (c + 1) := by rw [up8]; omega
  rw [e1] at a4
  rw [e1, e2] at a5
  obtain ⟨c3, H3, b3, ce3, a6, a7, a8⟩ := s_put (N := N) (t := 8 * (c + 1)) (n := 16) (v := m) (by omega) (by omega) (by omega) hm (show 0 < 8 by omega) a5
  obtain ⟨c4, H4, b4, ce4, a9, a10, a11⟩ := s_put (N := N) (t := 8 * (c + 1) + 16) (n := 16) (v := 65535 - m) (by omega) (by omega) (by omega) (by omega) a7 a8
  have e3 : b4 = 0 ∧ c4 = c + 5 := by have := a11.1; omega
  obtain ⟨rfl, rfl⟩ := e3
  have e4 : H4 = 0 := by have := a11.2.1; omega
  subst e4
  rw [show 8 * (c + 1) + 16 + 16 = 8 * (c + 5) by omega] at a11
  obtain ⟨p1, r1, r2, -⟩ := s_Mo_bit (N := N) (b := b) (show 8 * c < 8 * 66000 by omega) hb k2
  obtain ⟨p2, r3, r4⟩ := s_Mo_low (N := N) (n := 2) (x := 0) (by omega) (by omega) (by omega) r2
  have r4' : sinkM (8 * c + 3) (apd (8 * c) β (fun j => b / 2 ^ j % 2)) p2 := by
    refine sinkM_congr r4 (fun i hi => ?_)
    rw [apd]
    by_cases q : i < 8 * c + 1
    · rw [if_pos q, apd, apd]
      by_cases q2 : i < 8 * c
      · rw [if_pos q2, if_pos q2]
      · rw [if_neg q2, if_neg q2, show i - 8 * c = 0 by omega, Nat.pow_zero, Nat.div_one]
        omega
    · rw [if_neg q, apd, if_neg (by omega)]
      rcases (show i - 8 * c = 1 ∨ i - 8 * c = 2 by omega) with e | e
      · rw [e, show i - (8 * c + 1) = 0 by omega]
        show 0 = b / 2 % 2
        omega
      · rw [e, show i - (8 * c + 1) = 1 by omega]
        show 0 = b / 4 % 2
        omega
  obtain ⟨p3, r5, r6⟩ := s_zero_66 (N := N) (t := 8 * c + 3) (β := apd (8 * c) β (fun j => b / 2 ^ j % 2)) (by omega) 5 N 0 p2 (by omega) (by omega) (by omega) (sinkM_congr r4' (fun i hi => by rw [apd, apd, if_pos (show i < 8 * c + 3 from hi)]; rfl))
  rw [e2] at r5 r6
  obtain ⟨p4, r7, r8⟩ := s_Mo_low (N := N) (n := 16) (x := nI m) (by omega) (by omega) (show 8 * (c + 1) + 16 ≤ 8 * 66000 by omega) r6
  obtain ⟨p5, r9, r10⟩ := s_Mo_low (N := N) (n := 16) (x := nI m ^^^ (-1 : Int32)) (by omega) (by omega) (show 8 * (c + 1) + 16 + 16 ≤ 8 * 66000 by omega) r8
  rw [show 8 * (c + 1) + 16 + 16 = 8 * (c + 5) by omega] at r9 r10
  have r10' := sinkM_congr r10 (γ := apd (8 * (c + 1) + 16) (apd (8 * (c + 1)) (apd (8 * c + 3) (apd (8 * c) β (fun j => b / 2 ^ j % 2)) (fun _ => 0)) (fun j => m / 2 ^ j % 2)) (fun j => (65535 - m) / 2 ^ j % 2)) (fun i hi => by
    show (if i < 8 * (c + 1) + 16 then (if i < 8 * (c + 1) then _ else _) else _) = (if i < 8 * (c + 1) + 16 then (if i < 8 * (c + 1) then _ else _) else _)
    by_cases q : i < 8 * (c + 1) + 16
    · rw [if_pos q, if_pos q]
      by_cases q2 : i < 8 * (c + 1)
      · rw [if_pos q2, if_pos q2]
      · rw [if_neg q2, if_neg q2]
        exact bN_nI _ _ (by omega)
    · rw [if_neg q, if_neg q]
      exact bN_not hm (by omega))
  generalize hβ : apd (8 * (c + 1) + 16) (apd (8 * (c + 1)) (apd (8 * c + 3) (apd (8 * c) β (fun j => b / 2 ^ j % 2)) (fun _ => 0)) (fun j => m / 2 ^ j % 2)) (fun j => (65535 - m) / 2 ^ j % 2) = β5 at r10' a11
  obtain ⟨p6, r11, r12⟩ := s_bytes_103 (N := N) (p := p) (m := m) (c := c + 5) (g := g) (β := β5) (by omega) (by omega) (by omega) m N 0 p5 (by omega) (by omega) (sinkM_congr r10' (fun i hi => by
    show β5 i = if i < 8 * (c + 5) then β5 i else _
    rw [if_pos hi]))
  refine ⟨nI H1, nI b1, nI c1, ce1, ce2, nI H3, nI b3, nI c3, ce3, ce4, nI (8 * c + 1), p1, nI (8 * c + 3), p2, nI (8 * (c + 1)), p3, nI (8 * (c + 1) + 16), p4, nI (8 * (c + 5)), p5, p6, a1, a4, a6, ?_, s_addFrom (by omega) hpm (by omega), r1, r3, r5, r7, r9, r11, ?_⟩
  · rw [xor_65535 hm]
    exact a9
  · refine ⟨_, ⟨by omega, by decide, fun j hj => by omega, fun i hi j hj => ?_⟩, r12⟩
    show bN (va_cpy f ce4 p (c + 5) m i) j = if 8 * i + j < 8 * (c + 5) then β5 (8 * i + j) else bN (g (p + (8 * i + j - 8 * (c + 5)) / 8)) ((8 * i + j) % 8)
    by_cases q : i < c + 5
    · rw [if_pos (by omega), pk_cpy_out (Or.inl q)]
      exact a11.2.2.2 i q j hj
    · rw [if_neg (by omega), pk_cpy_in (by omega) (by omega), show (8 * i + j - 8 * (c + 5)) / 8 = i - (c + 5) by omega, show (8 * i + j) % 8 = j by omega, bN, bN, bt_of8 (hfg (p + (i - (c + 5))) (by omega)) hj]
