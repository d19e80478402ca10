/-! A packing, both sides. -/
theorem WB_row {c : Nat} {cells prod : Nat → Int32} (h : WB c cells prod) : rowEq c cells prod := by
  obtain ⟨β, h1, h2⟩ := h
  intro i hi
  apply bt8
  intro j hj
  have e1 := h1.2.2.2 i hi j hj
  have e2 := h2 i (by omega) j hj
  rw [if_pos (by omega)] at e2
  have e3 : bN (cells i) j = bN (prod i) j := by rw [e1, e2]
  rw [bN, bN] at e3
  revert e3
  cases bt (cells i) j <;> cases bt (prod i) j <;> decide
theorem s_pack_238 {N : Nat} {f : Nat → Int32} : ∀ (m k i : Nat) (g : Nat → Int32), i + m = 320 → m < k → (∀ j, j < i → g j = f j) → ∃ g', fMo_pack_238 N f k (nI i) g = some g' ∧ ∀ j, j < 320 → g' j = f j
  | 0, k + 1, i, g, hi, hk, hg => by
    have e : i = 320 := by omega
    subst e
    rw [fMo_pack_238]
    refine ⟨g, ?_, hg⟩
    simp (disch := omega) only [nlit, nI_add, nI_mul, nI_sub, nI_leI, nI_ltI, nI_eq, nI_inI', nI_inI, nI_lt0', nI_lt0, nI_clamp, nI_div, nI_rem, nI_shl, nI_shr, upd_same, nI_eqm, nI_m1le, nI_m2le, nI_m1lt, nI_m2lt, nI_m2m1, eq_self, not_false_eq_true, not_true_eq_false, if_pos, if_neg, if_true, if_false, Option.bind_some]
  | m + 1, k + 1, i, g, hi, hk, hg => by
    rw [fMo_pack_238]
    obtain ⟨g', a, b⟩ := s_pack_238 (N := N) (f := f) m k (i + 1) (upd g i (f i)) (by omega) (by omega) (fun j hj => by
      by_cases e : j = i
      · rw [e, upd_same]
      · rw [upd_ne e, hg j (by omega)])
    refine ⟨g', ?_, b⟩
    simp (disch := omega) only [nlit, nI_add, nI_mul, nI_sub, nI_leI, nI_ltI, nI_eq, nI_inI', nI_inI, nI_lt0', nI_lt0, nI_clamp, nI_div, nI_rem, nI_shl, nI_shr, upd_same, nI_eqm, nI_m1le, nI_m2le, nI_m1lt, nI_m2lt, nI_m2m1, eq_self, not_false_eq_true, not_true_eq_false, if_pos, if_neg, if_true, if_false, Option.bind_some]
    exact a
theorem s_pack_265 {N : Nat} {f : Nat → Int32} : ∀ (m k i : Nat) (g : Nat → Int32), i + m = 19 → m < k → (∀ j, j < i → g j = f j) → ∃ g', fMo_pack_265 N f k (nI i) g = some g' ∧ ∀ j, j < 19 → g' j = f j
  | 0, k + 1, i, g, hi, hk, hg => by
    have e : i = 19 := by omega
    subst e
    rw [fMo_pack_265]
    refine ⟨g, ?_, hg⟩
    simp (disch := omega) only [nlit, nI_add, nI_mul, nI_sub, nI_leI, nI_ltI, nI_eq, nI_inI', nI_inI, nI_lt0', nI_lt0, nI_clamp, nI_div, nI_rem, nI_shl, nI_shr, upd_same, nI_eqm, nI_m1le, nI_m2le, nI_m1lt, nI_m2lt, nI_m2m1, eq_self, not_false_eq_true, not_true_eq_false, if_pos, if_neg, if_true, if_false, Option.bind_some]
  | m + 1, k + 1, i, g, hi, hk, hg => by
    rw [fMo_pack_265]
    obtain ⟨g', a, b⟩ := s_pack_265 (N := N) (f := f) m k (i + 1) (upd g i (f i)) (by omega) (by omega) (fun j hj => by
      by_cases e : j = i
      · rw [e, upd_same]
      · rw [upd_ne e, hg j (by omega)])
    refine ⟨g', ?_, b⟩
    simp (disch := omega) only [nlit, nI_add, nI_mul, nI_sub, nI_leI, nI_ltI, nI_eq, nI_inI', nI_inI, nI_lt0', nI_lt0, nI_clamp, nI_div, nI_rem, nI_shl, nI_shr, upd_same, nI_eqm, nI_m1le, nI_m2le, nI_m1lt, nI_m2lt, nI_m2m1, eq_self, not_false_eq_true, not_true_eq_false, if_pos, if_neg, if_true, if_false, Option.bind_some]
    exact a
/-- the first three bits of a block with codes -/
theorem u_start {N kd : Nat} {cells prod : Nat → Int32} (hN : 20 ≤ N) (hk : kd < 4) : ∃ h b c ce o1 p1 o2 p2, fBitSink_put N (nI (2 * kd + 1)) (3 : Int32) 0 0 0 cells = some (h, b, c, ce) ∧ fMo_bit N (1 : Int32) 0 prod = some (o1, p1) ∧ fMo_low N (nI kd) (2 : Int32) o1 p1 = some (o2, p2) ∧ WR 3 h b c ce o2 p2 := by
  have k1 : sinkC 0 (fun _ => 0) 0 0 0 cells := ⟨rfl, by decide, fun j hj => by omega, fun i hi => by omega⟩
  have k2 : sinkM 0 (fun _ => 0) prod := fun i hi => by omega
  obtain ⟨c1, H1, b1, ce1, a1, a2, a3⟩ := s_put (N := N) (t := 0) (n := 3) (v := 2 * kd + 1) (by omega) (by omega) (by omega) (by omega) (show 0 < 8 by omega) k1
  obtain ⟨p1, r1, r2, -⟩ := s_Mo_bit (N := N) (b := 1) (show 0 < 8 * 66000 by omega) (by omega) k2
  obtain ⟨p2, r3, r4⟩ := s_Mo_low (N := N) (n := 2) (x := nI kd) (by omega) (by omega) (by omega) r2
  refine ⟨nI H1, nI b1, nI c1, ce1, nI 1, p1, nI 3, p2, a1, r1, r3, _, c1, H1, b1, rfl, rfl, rfl, a2, a3, rfl, sinkM_congr r4 (fun i hi => ?_)⟩
  rcases (show i = 0 ∨ i = 1 ∨ i = 2 by omega) with e | e | e <;> subst e
  · show 1 = (2 * kd + 1) / 1 % 2
    omega
  · show bN (nI kd) 0 = (2 * kd + 1) / 2 % 2
    rw [bN_nI kd 0 (by omega)]
    omega
  · show bN (nI kd) 1 = (2 * kd + 1) / 4 % 2
    rw [bN_nI kd 1 (by omega)]
    omega
theorem KD_fx {st fx ow : Nat} (h : KD st fx ow = 1) : fx < st := by
  rw [KD] at h
  by_cases p : fx < st
  · exact p
  · rw [if_neg p] at h
    split at h <;> omega
theorem KD_ow {st fx ow : Nat} (h : KD st fx ow = 2) : ow < st := by
  rw [KD] at h
  by_cases p : fx < st
  · rw [if_pos p] at h
    split at h <;> omega
  · rw [if_neg p] at h
    split at h <;> omega
theorem sy_used {t : Nat} {Lf Df : Nat → Nat} {i : Nat} (hi : i < t) : 0 < CS Lf Df t (sy Lf Df i) := by
  have := cnt_hit (L := sy Lf Df) hi
  rw [CS]
  omega
theorem dy_used {t : Nat} {Lf Df : Nat → Nat} {i : Nat} (hi : i < t) (hl : ¬ Lf i = 0) : 0 < CD Lf Df t (dS (Df i)) := by
  have := cnt_hit (L := dy Lf Df) hi
  rw [dy, if_neg hl] at this
  exact this
