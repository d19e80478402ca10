/-! The fixed codes. -/
def FL (s : Nat) : Nat := if 144 ≤ s then (if 256 ≤ s then (if 280 ≤ s then 8 else 7) else 9) else 8
def FD (_ : Nat) : Nat := 5
theorem FL_r (s : Nat) : 1 ≤ FL s ∧ FL s < 16 := by
  rw [FL]
  split
  · split
    · split <;> omega
    · omega
  · omega
theorem cnt_none {L : Nat → Nat} {l : Nat} : ∀ n, (∀ j, j < n → L j ≠ l) → cnt L n l = 0
  | 0, _ => rfl
  | n + 1, h => by
    rw [cnt, cnt_none n (fun j hj => h j (by omega)), if_neg (h n (by omega))]
theorem FL_all : acc (cnt FL 288) 16 = 288 := by
  have h1 := acc_all (L := FL) 288 (fun j _ => (FL_r j).2)
  rw [cnt_none 288 (fun j _ => by have := (FL_r j).1; omega)] at h1
  omega
theorem FD_all : acc (cnt FD 32) 16 = 32 := by
  have h1 := acc_all (L := FD) 32 (fun j _ => by rw [FD]; omega)
  rw [cnt_none 32 (fun j _ => by rw [FD]; omega)] at h1
  omega
theorem rdy_fixed : rdy (cnt FL 288) (symT FL 288) (cnt FD 32) (symT FD 32) := by
  have h1 := FL_all
  have h2 := FD_all
  exact ⟨by omega, by omega, fun h => by omega, fun h => by omega, fun i hi => (symT_spec hi).1, fun i hi => (symT_spec hi).1⟩
theorem FL_int {i : Nat} (h : i < 2 ^ 31) : (if (144 : Int32) ≤ nI i then (if (256 : Int32) ≤ nI i then (if (280 : Int32) ≤ nI i then (8 : Int32) else (7 : Int32)) else (9 : Int32)) else (8 : Int32)) = nI (FL i) := by
  rw [FL]
  simp (disch := omega) only [nlit, nI_add, nI_mul, nI_sub, nI_leI, nI_ltI, nI_eq, nI_inI', nI_inI, nI_lt0', nI_lt0, nI_clamp, nI_div, nI_rem, nI_shl, nI_shr, upd_same, nI_eqm, nI_m1le, nI_m2le, nI_m1lt, nI_m2lt, nI_m2m1, eq_self, not_false_eq_true, not_true_eq_false]
  split
  · split
    · split <;> rfl
    · rfl
  · rfl
theorem s_fixedLength {N i : Nat} (h : i < 2 ^ 31) : fPB_fixedLength N (nI i) = some (nI (FL i)) := by
  rw [fPB_fixedLength, FL]
  simp (disch := omega) only [nlit, nI_add, nI_mul, nI_sub, nI_leI, nI_ltI, nI_eq, nI_inI', nI_inI, nI_lt0', nI_lt0, nI_clamp, nI_div, nI_rem, nI_shl, nI_shr, upd_same, nI_eqm, nI_m1le, nI_m2le, nI_m1lt, nI_m2lt, nI_m2m1, eq_self, not_false_eq_true, not_true_eq_false]
  split
  · split
    · split <;> rfl
    · rfl
  · rfl
theorem s_fixedLengths_8 {N : Nat} : ∀ (m k i : Nat) (g : Nat → Int32), i + m = 288 → m < k → (∀ j, j < i → g j = nI (FL j)) → ∃ g', fPB_fixedLengths_8 N k (nI i) g = some g' ∧ ∀ j, j < 288 → g' j = nI (FL j)
  | 0, k + 1, i, g, hi, hk, hg => by
    rw [fPB_fixedLengths_8]
    have e : i = 288 := by omega
    subst e
    refine ⟨g, ?_, hg⟩
    simp (disch := omega) only [nlit, nI_add, nI_mul, nI_sub, nI_leI, nI_ltI, nI_eq, nI_inI', nI_inI, nI_lt0', nI_lt0, nI_clamp, nI_div, nI_rem, nI_shl, nI_shr, upd_same, nI_eqm, nI_m1le, nI_m2le, nI_m1lt, nI_m2lt, nI_m2m1, eq_self, not_false_eq_true, not_true_eq_false, if_pos, if_neg, if_true, if_false, Option.bind_some]
  | m + 1, k + 1, i, g, hi, hk, hg => by
    rw [fPB_fixedLengths_8]
    have h1 := s_fixedLength (N := N) (show i < 2 ^ 31 by omega)
    simp (disch := omega) only [nlit, nI_add, nI_mul, nI_sub, nI_leI, nI_ltI, nI_eq, nI_inI', nI_inI, nI_lt0', nI_lt0, nI_clamp, nI_div, nI_rem, nI_shl, nI_shr, upd_same, nI_eqm, nI_m1le, nI_m2le, nI_m1lt, nI_m2lt, nI_m2m1, eq_self, not_false_eq_true, not_true_eq_false, if_pos, if_neg, if_true, if_false, Option.bind_some, h1]
    refine s_fixedLengths_8 m k (i + 1) _ (by omega) (by omega) ?_
    intro j hj
    by_cases e : j = i
    · rw [e, upd_same]
    · rw [upd_ne e]
      exact hg j (by omega)
theorem s_fixedLengths {N : Nat} (hN : 300 ≤ N) : ∃ g, fPB_fixedLengths N = some g ∧ ∀ j, j < 288 → g j = nI (FL j) := by
  obtain ⟨g, h1, h2⟩ := s_fixedLengths_8 (N := N) 288 N 0 (fun _ => 0) (by omega) (by omega) (fun j hj => by omega)
  refine ⟨g, ?_, h2⟩
  rw [fPB_fixedLengths, show fPB_fixedLengths_8 N N (0 : Int32) (fun _ => 0) = some g from h1]
  rfl
theorem s_fixedDist {N : Nat} (hN : 300 ≤ N) : ∃ g, fPB_fixedDistanceLengths N = some g ∧ ∀ j, j < 32 → g j = nI (FD j) := by
  obtain ⟨g, h1, h2⟩ := s_fill (N := N) (x1 := 5) (n := 32) (by omega) (by omega) (fun _ => 0)
  refine ⟨g, ?_, fun j hj => h2 j hj⟩
  rw [fPB_fixedDistanceLengths, h1]
  rfl
theorem s_setFixed_2 {N : Nat} : ∀ (m k i : Nat) (g : Nat → Int32), i + m = 288 → m < k → (∀ j, j < i → g j = nI (FL j)) → ∃ g', fMo_setFixed_2 N k (nI i) g = some g' ∧ ∀ j, j < 288 → g' j = nI (FL j)
  | 0, k + 1, i, g, hi, hk, hg => by
    rw [fMo_setFixed_2]
    have e : i = 288 := by omega
    subst e
    refine ⟨g, ?_, hg⟩
    simp (disch := omega) only [nlit, nI_add, nI_mul, nI_sub, nI_leI, nI_ltI, nI_eq, nI_inI', nI_inI, nI_lt0', nI_lt0, nI_clamp, nI_div, nI_rem, nI_shl, nI_shr, upd_same, nI_eqm, nI_m1le, nI_m2le, nI_m1lt, nI_m2lt, nI_m2m1, eq_self, not_false_eq_true, not_true_eq_false, if_pos, if_neg, if_true, if_false, Option.bind_some]
  | m + 1, k + 1, i, g, hi, hk, hg => by
    rw [fMo_setFixed_2, FL_int (by omega)]
    simp (disch := omega) only [nlit, nI_add, nI_mul, nI_sub, nI_leI, nI_ltI, nI_eq, nI_inI', nI_inI, nI_lt0', nI_lt0, nI_clamp, nI_div, nI_rem, nI_shl, nI_shr, upd_same, nI_eqm, nI_m1le, nI_m2le, nI_m1lt, nI_m2lt, nI_m2m1, eq_self, not_false_eq_true, not_true_eq_false, if_pos, if_neg, if_true, if_false, Option.bind_some]
    refine s_setFixed_2 m k (i + 1) _ (by omega) (by omega) ?_
    intro j hj
    by_cases e : j = i
    · rw [e, upd_same]
    · rw [upd_ne e]
      exact hg j (by omega)
theorem s_setFixed_61 {N : Nat} : ∀ (m k i : Nat) (g : Nat → Int32), i + m = 32 → m < k → (∀ j, j < i → g (288 + j) = nI (FD j)) → ∃ g', fMo_setFixed_61 N k (nI i) g = some g' ∧ (∀ j, j < 32 → g' (288 + j) = nI (FD j)) ∧ ∀ j, j < 288 → g' j = g j
  | 0, k + 1, i, g, hi, hk, hg => by
    rw [fMo_setFixed_61]
    have e : i = 32 := by omega
    subst e
    refine ⟨g, ?_, hg, fun _ _ => rfl⟩
    simp (disch := omega) only [nlit, nI_add, nI_mul, nI_sub, nI_leI, nI_ltI, nI_eq, nI_inI', nI_inI, nI_lt0', nI_lt0, nI_clamp, nI_div, nI_rem, nI_shl, nI_shr, upd_same, nI_eqm, nI_m1le, nI_m2le, nI_m1lt, nI_m2lt, nI_m2m1, eq_self, not_false_eq_true, not_true_eq_false, if_pos, if_neg, if_true, if_false, Option.bind_some]
  | m + 1, k + 1, i, g, hi, hk, hg => by
    rw [fMo_setFixed_61]
    obtain ⟨g', a, b, c⟩ := s_setFixed_61 (N := N) m k (i + 1) (upd g (288 + i) (nI 5)) (by omega) (by omega) (by
      intro j hj
      by_cases e : j = i
      · rw [e, upd_same]
        rfl
      · rw [upd_ne (by omega)]
        exact hg j (by omega))
    refine ⟨g', ?_, b, fun j hj => by rw [c j hj, upd_ne (by omega)]⟩
    simp (disch := omega) only [nlit, nI_add, nI_mul, nI_sub, nI_leI, nI_ltI, nI_eq, nI_inI', nI_inI, nI_lt0', nI_lt0, nI_clamp, nI_div, nI_rem, nI_shl, nI_shr, upd_same, nI_eqm, nI_m1le, nI_m2le, nI_m1lt, nI_m2lt, nI_m2m1, eq_self, not_false_eq_true, not_true_eq_false, if_pos, if_neg, if_true, if_false, Option.bind_some]
    exact a
theorem s_setFixed {N : Nat} (hN : 300 ≤ N) (g : Nat → Int32) : ∃ g', fMo_setFixed N g = some g' ∧ (∀ j, j < 288 → g' j = nI (FL j)) ∧ ∀ j, j < 32 → g' (288 + j) = nI (FD j) := by
  obtain ⟨g1, h1, h2⟩ := s_setFixed_2 (N := N) 288 N 0 g (by omega) (by omega) (fun j hj => by omega)
  obtain ⟨g2, h3, h4, h5⟩ := s_setFixed_61 (N := N) 32 N 0 g1 (by omega) (by omega) (fun j hj => by omega)
  refine ⟨g2, ?_, fun j hj => by rw [h5 j hj, h2 j hj], h4⟩
  rw [fMo_setFixed, show fMo_setFixed_2 N N (0 : Int32) g = some g1 from h1, Option.bind_some, show fMo_setFixed_61 N N (0 : Int32) g1 = some g2 from h3]
  rfl
/-- the reference's tables of the fixed codes -/
theorem s_Mo_fixed {N : Nat} (hN : 300 ≤ N) (M S lens : Nat → Int32) : ∃ L2 M1 S1 M2 S2, fMo_setFixed N lens = some L2 ∧ fMo_sort N (nI 0) (nI 288) (nI 0) M 320 L2 S = some (M1, S1) ∧ fMo_sort N (nI 288) (nI 32) (nI 1) M1 320 L2 S1 = some (M2, S2) ∧ tabM (cnt FL 288) (symT FL 288) 0 M2 S2 ∧ tabM (cnt FD 32) (symT FD 32) 1 M2 S2 := by
  obtain ⟨L2, h1, h2, h3⟩ := s_setFixed hN lens
  obtain ⟨M1, S1, c1, c2, c3, c4, c5⟩ := s_Mo_sort (N := N) (x2 := 0) (n := 288) (t := 0) (n_p1 := 320) (f := L2) (L := FL) (by omega) (by omega) (by omega) (by omega) (by omega) (fun j hj => by rw [Nat.zero_add]; exact h2 j hj) (fun j hj => (FL_r j).2) (by rw [at0]; simp) M S
  obtain ⟨M2, S2, d1, d2, d3, d4, d5⟩ := s_Mo_sort (N := N) (x2 := 288) (n := 32) (t := 1) (n_p1 := 320) (f := L2) (L := FD) (by omega) (by omega) (by omega) (by omega) (by omega) (fun j hj => h3 j hj) (fun j hj => by rw [FD]; omega) (by rw [at0]; simp) M1 S1
  refine ⟨L2, M1, S1, M2, S2, h1, c1, d1, ?_, ?_⟩
  · refine tabM_of (m := 288) (by omega) (fun j h1 h2 => by omega) (fun l h1 h2 => ?_) (fun s h1 h2 => ?_)
    · rw [d3 _ (Or.inl (by omega))]
      exact c2 l h1 h2
    · rw [d5 _ (Or.inl ?_)]
      · exact c4 s h1 h2
      · have := posn_n (L := FL) h1 h2
        show 0 + _ < 288
        omega
  · exact tabM_of (m := 32) (by omega) (fun j h1 h2 => by omega) d2 d4
/-- the class's tables of the fixed codes, as they are made once -/
theorem s_C_fixed {N : Nat} (hN : 300 ≤ N) : ∃ y, fUnpacker_init N = some y ∧ tabC (cnt FL 288) (symT FL 288) y.1 y.2.2.1 y.2.2.2.2.1 ∧ tabC (cnt FD 32) (symT FD 32) y.2.2.2.2.2.1 y.2.2.2.2.2.2.2.1 y.2.2.2.2.2.2.2.2.2.1 := by
  obtain ⟨g1, a1, a2⟩ := s_fixedLengths hN
  obtain ⟨g2, b1, b2⟩ := s_fixedDist hN
  obtain ⟨P, st, S, c1, c2, c3⟩ := s_learn (N := N) hN (x2 := 0) (n := 288) (n_p1 := 288) (f := g1) (L := FL) (by omega) (by omega) (by omega) (fun j hj => by rw [Nat.zero_add]; exact a2 j hj) (fun j hj => (FL_r j).2) (fun _ => 0) (fun _ => 0) (fun _ => 0)
  obtain ⟨P2, st2, S2, d1, d2, d3⟩ := s_learn (N := N) hN (x2 := 0) (n := 32) (n_p1 := 32) (f := g2) (L := FD) (by omega) (by omega) (by omega) (fun j hj => by rw [Nat.zero_add]; exact b2 j hj) (fun j hj => by rw [FD]; omega) (fun _ => 0) (fun _ => 0) (fun _ => 0)
  refine ⟨(nI (acc (cnt FL 288) 16), nI 32768 - nI (kra (cnt FL 288) 16), P, st, S, nI (acc (cnt FD 32) 16), nI 32768 - nI (kra (cnt FD 32) 16), P2, st2, S2, g1, g2), ?_, tabC_of (by omega) c2 c3, tabC_of (by omega) d2 d3⟩
  rw [fUnpacker_init, a1, b1]
  show Option.bind (fDecoder_learn N (nI 0) (nI 288) (fun _ => 0) 288 g1 (fun _ => 0) (fun _ => 0)) _ = _
  rw [c1, Option.bind_some, Option.bind_some]
  show Option.bind (fDecoder_learn N (nI 0) (nI 32) (fun _ => 0) 32 g2 (fun _ => 0) (fun _ => 0)) _ = _
  rw [d1]
  rfl
