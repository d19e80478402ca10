/-! Reading: own codes, both sides. -/
theorem s_414 {N sc : Nat} {line : Nat → Int32} (hsc : sc ≤ 288) : ∀ (m k i : Nat) (g : Nat → Int32), i + m = 288 → m < k → (∀ j, j < i → g j = if j < sc then line j else 0) → ∃ g', fMo_readOwn_414 N (nI sc) line k (nI i) g = some g' ∧ (∀ j, j < 288 → g' j = if j < sc then line j else 0)
  | 0, k + 1, i, g, hi, hk, hg => by
    rw [fMo_readOwn_414]
    have e : i = 288 := by omega
    subst e
    refine ⟨g, ?_, hg⟩
    simp (disch := omega) only [nlit, nI_add, nI_mul, nI_sub, nI_leI, nI_ltI, nI_eq, nI_inI', nI_inI, nI_lt0', nI_lt0, nI_clamp, nI_div, nI_rem, nI_shl, nI_shr, upd_same, nI_eqm, nI_m1le, nI_m2le, nI_m1lt, nI_m2lt, nI_m2m1, eq_self, not_false_eq_true, not_true_eq_false, if_pos, if_neg, if_true, if_false, Option.bind_some]
  | m + 1, k + 1, i, g, hi, hk, hg => by
    rw [fMo_readOwn_414]
    by_cases h : i < sc
    · obtain ⟨g', a, b⟩ := s_414 (N := N) (line := line) hsc m k (i + 1) (upd g i (line i)) (by omega) (by omega) (by
        intro j hj
        by_cases e : j = i
        · rw [e, upd_same, if_pos h]
        · rw [upd_ne e]
          exact hg j (by omega))
      refine ⟨g', ?_, b⟩
      simp (disch := omega) only [nlit, nI_add, nI_mul, nI_sub, nI_leI, nI_ltI, nI_eq, nI_inI', nI_inI, nI_lt0', nI_lt0, nI_clamp, nI_div, nI_rem, nI_shl, nI_shr, upd_same, nI_eqm, nI_m1le, nI_m2le, nI_m1lt, nI_m2lt, nI_m2m1, eq_self, not_false_eq_true, not_true_eq_false, if_pos, if_neg, if_true, if_false, Option.bind_some]
      exact a
    · obtain ⟨g', a, b⟩ := s_414 (N := N) (line := line) hsc m k (i + 1) (upd g i (nI 0)) (by omega) (by omega) (by
        intro j hj
        by_cases e : j = i
        · rw [e, upd_same, if_neg h]
          rfl
        · rw [upd_ne e]
          exact hg j (by omega))
      refine ⟨g', ?_, b⟩
      simp (disch := omega) only [nlit, nI_add, nI_mul, nI_sub, nI_leI, nI_ltI, nI_eq, nI_inI', nI_inI, nI_lt0', nI_lt0, nI_clamp, nI_div, nI_rem, nI_shl, nI_shr, upd_same, nI_eqm, nI_m1le, nI_m2le, nI_m1lt, nI_m2lt, nI_m2m1, eq_self, not_false_eq_true, not_true_eq_false, if_pos, if_neg, if_true, if_false, Option.bind_some]
      exact a
theorem s_455 {N sc dc : Nat} {line : Nat → Int32} (hsc : sc ≤ 286) (hdc : dc ≤ 30) : ∀ (m k i : Nat) (g : Nat → Int32), i + m = 32 → m < k → (∀ j, j < i → g (288 + j) = if j < dc then line (sc + j) else 0) → ∃ g', fMo_readOwn_455 N (nI sc) (nI dc) line k (nI i) g = some g' ∧ (∀ j, j < 32 → g' (288 + j) = if j < dc then line (sc + j) else 0) ∧ ∀ j, j < 288 → g' j = g j
  | 0, k + 1, i, g, hi, hk, hg => by
    rw [fMo_readOwn_455]
    have e : i = 32 := by omega
    subst e
    refine ⟨g, ?_, hg, fun _ _ => rfl⟩
    simp (disch := omega) only [nlit, nI_add, nI_mul, nI_sub, nI_leI, nI_ltI, nI_eq, nI_inI', nI_inI, nI_lt0', nI_lt0, nI_clamp, nI_div, nI_rem, nI_shl, nI_shr, upd_same, nI_eqm, nI_m1le, nI_m2le, nI_m1lt, nI_m2lt, nI_m2m1, eq_self, not_false_eq_true, not_true_eq_false, if_pos, if_neg, if_true, if_false, Option.bind_some]
  | m + 1, k + 1, i, g, hi, hk, hg => by
    rw [fMo_readOwn_455]
    by_cases h : i < dc
    · obtain ⟨g', a, b, c⟩ := s_455 (N := N) (line := line) hsc hdc m k (i + 1) (upd g (288 + i) (line (sc + i))) (by omega) (by omega) (by
        intro j hj
        by_cases e : j = i
        · rw [e, upd_same, if_pos h]
        · rw [upd_ne (by omega)]
          exact hg j (by omega))
      refine ⟨g', ?_, b, fun j hj => by rw [c j hj, upd_ne (by omega)]⟩
      simp (disch := omega) only [nlit, nI_add, nI_mul, nI_sub, nI_leI, nI_ltI, nI_eq, nI_inI', nI_inI, nI_lt0', nI_lt0, nI_clamp, nI_div, nI_rem, nI_shl, nI_shr, upd_same, nI_eqm, nI_m1le, nI_m2le, nI_m1lt, nI_m2lt, nI_m2m1, eq_self, not_false_eq_true, not_true_eq_false, if_pos, if_neg, if_true, if_false, Option.bind_some]
      exact a
    · obtain ⟨g', a, b, c⟩ := s_455 (N := N) (line := line) hsc hdc m k (i + 1) (upd g (288 + i) (nI 0)) (by omega) (by omega) (by
        intro j hj
        by_cases e : j = i
        · rw [e, upd_same, if_neg h]
          rfl
        · rw [upd_ne (by omega)]
          exact hg j (by omega))
      refine ⟨g', ?_, b, fun j hj => by rw [c j hj, upd_ne (by omega)]⟩
      simp (disch := omega) only [nlit, nI_add, nI_mul, nI_sub, nI_leI, nI_ltI, nI_eq, nI_inI', nI_inI, nI_lt0', nI_lt0, nI_clamp, nI_div, nI_rem, nI_shl, nI_shr, upd_same, nI_eqm, nI_m1le, nI_m2le, nI_m1lt, nI_m2lt, nI_m2m1, eq_self, not_false_eq_true, not_true_eq_false, if_pos, if_neg, if_true, if_false, Option.bind_some]
      exact a
theorem s_525 {N : Nat} {M : Nat → Int32} {c : Nat → Nat} (hN : 300 ≤ N) (hM : ∀ l, 1 ≤ l → l < 16 → M (16 * 0 + l) = nI (c l)) (hc : acc c 16 < 2 ^ 31 ∧ c 1 < 2 ^ 31) : fMo_readOwn_525 N M = some (if acc c 16 = 1 ∧ c 1 = 1 then (1 : Int32) else 0) := by
  have h1 : M 1 = nI (c 1) := hM 1 (by omega) (by omega)
  rw [fMo_readOwn_525, show (0 : Int32) = nI 0 from rfl, s_codesIn hN (by omega) hM]
  by_cases ha : acc c 16 = 1
  · by_cases hb : c 1 = 1
    · rw [if_pos (show acc c 16 = 1 ∧ c 1 = 1 from ⟨ha, hb⟩)]
      simp (disch := omega) only [nlit, nI_add, nI_mul, nI_sub, nI_leI, nI_ltI, nI_eq, nI_inI', nI_inI, nI_lt0', nI_lt0, nI_clamp, nI_div, nI_rem, nI_shl, nI_shr, upd_same, nI_eqm, nI_m1le, nI_m2le, nI_m1lt, nI_m2lt, nI_m2m1, eq_self, not_false_eq_true, not_true_eq_false, if_pos, if_neg, if_true, if_false, Option.bind_some, h1, hb]
    · rw [if_neg (show ¬ (acc c 16 = 1 ∧ c 1 = 1) from fun h => hb h.2)]
      simp (disch := omega) only [nlit, nI_add, nI_mul, nI_sub, nI_leI, nI_ltI, nI_eq, nI_inI', nI_inI, nI_lt0', nI_lt0, nI_clamp, nI_div, nI_rem, nI_shl, nI_shr, upd_same, nI_eqm, nI_m1le, nI_m2le, nI_m1lt, nI_m2lt, nI_m2m1, eq_self, not_false_eq_true, not_true_eq_false, if_pos, if_neg, if_true, if_false, Option.bind_some, h1]
  · rw [if_neg (show ¬ (acc c 16 = 1 ∧ c 1 = 1) from fun h => ha h.1)]
    simp (disch := omega) only [nlit, nI_add, nI_mul, nI_sub, nI_leI, nI_ltI, nI_eq, nI_inI', nI_inI, nI_lt0', nI_lt0, nI_clamp, nI_div, nI_rem, nI_shl, nI_shr, upd_same, nI_eqm, nI_m1le, nI_m2le, nI_m1lt, nI_m2lt, nI_m2m1, eq_self, not_false_eq_true, not_true_eq_false, if_pos, if_neg, if_true, if_false, Option.bind_some]
theorem s_551 {N : Nat} {M : Nat → Int32} {c : Nat → Nat} (hN : 300 ≤ N) (hM : ∀ l, 1 ≤ l → l < 16 → M (16 * 1 + l) = nI (c l)) (hc : acc c 16 < 2 ^ 31 ∧ c 1 < 2 ^ 31) : fMo_readOwn_551 N M = some (if acc c 16 = 0 ∨ (acc c 16 = 1 ∧ c 1 = 1) then (1 : Int32) else 0) := by
  have h1 : M 17 = nI (c 1) := hM 1 (by omega) (by omega)
  rw [fMo_readOwn_551, show (1 : Int32) = nI 1 from rfl, s_codesIn hN (by omega) hM]
  by_cases h0 : acc c 16 = 0
  · rw [if_pos (show acc c 16 = 0 ∨ (acc c 16 = 1 ∧ c 1 = 1) from Or.inl h0)]
    simp (disch := omega) only [nlit, nI_add, nI_mul, nI_sub, nI_leI, nI_ltI, nI_eq, nI_inI', nI_inI, nI_lt0', nI_lt0, nI_clamp, nI_div, nI_rem, nI_shl, nI_shr, upd_same, nI_eqm, nI_m1le, nI_m2le, nI_m1lt, nI_m2lt, nI_m2m1, eq_self, not_false_eq_true, not_true_eq_false, if_pos, if_neg, if_true, if_false, Option.bind_some]
  · by_cases ha : acc c 16 = 1
    · by_cases hb : c 1 = 1
      · rw [if_pos (show acc c 16 = 0 ∨ (acc c 16 = 1 ∧ c 1 = 1) from Or.inr ⟨ha, hb⟩)]
        simp (disch := omega) only [nlit, nI_add, nI_mul, nI_sub, nI_leI, nI_ltI, nI_eq, nI_inI', nI_inI, nI_lt0', nI_lt0, nI_clamp, nI_div, nI_rem, nI_shl, nI_shr, upd_same, nI_eqm, nI_m1le, nI_m2le, nI_m1lt, nI_m2lt, nI_m2m1, eq_self, not_false_eq_true, not_true_eq_false, if_pos, if_neg, if_true, if_false, Option.bind_some, h1, hb]
      · rw [if_neg (show ¬ (acc c 16 = 0 ∨ (acc c 16 = 1 ∧ c 1 = 1)) from fun h => h.elim h0 (fun h => hb h.2))]
        simp (disch := omega) only [nlit, nI_add, nI_mul, nI_sub, nI_leI, nI_ltI, nI_eq, nI_inI', nI_inI, nI_lt0', nI_lt0, nI_clamp, nI_div, nI_rem, nI_shl, nI_shr, upd_same, nI_eqm, nI_m1le, nI_m2le, nI_m1lt, nI_m2lt, nI_m2m1, eq_self, not_false_eq_true, not_true_eq_false, if_pos, if_neg, if_true, if_false, Option.bind_some, h1]
    · rw [if_neg (show ¬ (acc c 16 = 0 ∨ (acc c 16 = 1 ∧ c 1 = 1)) from fun h => h.elim h0 (fun h => ha h.1))]
      simp (disch := omega) only [nlit, nI_add, nI_mul, nI_sub, nI_leI, nI_ltI, nI_eq, nI_inI', nI_inI, nI_lt0', nI_lt0, nI_clamp, nI_div, nI_rem, nI_shl, nI_shr, upd_same, nI_eqm, nI_m1le, nI_m2le, nI_m1lt, nI_m2lt, nI_m2m1, eq_self, not_false_eq_true, not_true_eq_false, if_pos, if_neg, if_true, if_false, Option.bind_some]
theorem kra_lt {L : Nat → Nat} {n : Nat} (hn : n ≤ 288) : kra (cnt L n) 16 < 2 ^ 31 ∧ acc (cnt L n) 16 < 2 ^ 31 ∧ cnt L n 1 < 2 ^ 31 := by
  have hc := fun l => cnt_le L l n
  have ha := acc_le L 16 n
  rw [kra16]
  have := hc 1; have := hc 2; have := hc 3; have := hc 4; have := hc 5; have := hc 6; have := hc 7; have := hc 8; have := hc 9; have := hc 10; have := hc 11; have := hc 12; have := hc 13; have := hc 14; have := hc 15
  omega
/-- both tables of a block of symbols -/
def rdy (c T d U : Nat → Nat) : Prop := acc c 16 ≤ 288 ∧ acc d 16 ≤ 32 ∧ (acc c 16 = 1 → c 1 = 1) ∧ (acc d 16 = 1 → d 1 = 1) ∧ (∀ i, i < acc c 16 → T i < 288) ∧ ∀ i, i < acc d 16 → U i < 32
theorem one_of {c : Nat → Nat} (h : tabOK c ∨ acc c 16 = 0) : acc c 16 = 1 → c 1 = 1 := by
  intro h1
  rcases h with (h | h) | h
  · have := full_two h
    omega
  · exact h.2
  · omega
theorem one_kra {c : Nat → Nat} (h : acc c 16 = 1) (h1 : c 1 = 1) : kra c 16 = 16384 := by
  rw [acc16] at h
  rw [kra16]
  omega
theorem zero_kra {c : Nat → Nat} (h : acc c 16 = 0) : kra c 16 = 0 := by
  rw [acc16] at h
  rw [kra16]
  omega
/-- what reading own codes leaves on both sides -/
def ownR (n p : Nat) (f0 p0 : Int32) (x : Bool × Int32 × (Nat → Int32) × (Nat → Int32) × Int32 × Int32 × (Nat → Int32) × (Nat → Int32) × (Nat → Int32) × (Nat → Int32) × Int32 × Int32 × (Nat → Int32) × (Nat → Int32) × (Nat → Int32) × Int32 × Int32 × (Nat → Int32) × (Nat → Int32) × (Nat → Int32)) (y : Bool × Int32 × Int32 × Int32 × (Nat → Int32) × (Nat → Int32) × (Nat → Int32) × (Nat → Int32) × (Nat → Int32)) : Prop :=
  (x.1 = true ∧ y.1 = false ∧ ∃ q c T d U, p ≤ q ∧ q ≤ 8 * n ∧ x.2.1 = nI q ∧ y.2.1 = nI q ∧ y.2.2.1 = f0 ∧ y.2.2.2.1 = p0 ∧ rdy c T d U ∧
    tabC c T x.2.2.2.2.2.2.2.2.2.2.1 x.2.2.2.2.2.2.2.2.2.2.2.2.1 x.2.2.2.2.2.2.2.2.2.2.2.2.2.2.1 ∧ tabC d U x.2.2.2.2.2.2.2.2.2.2.2.2.2.2.2.1 x.2.2.2.2.2.2.2.2.2.2.2.2.2.2.2.2.2.1 x.2.2.2.2.2.2.2.2.2.2.2.2.2.2.2.2.2.2.2 ∧
    tabM c T 0 y.2.2.2.2.2.1 y.2.2.2.2.2.2.1 ∧ tabM d U 1 y.2.2.2.2.2.1 y.2.2.2.2.2.2.1) ∨ (x.1 = false ∧ y.1 = true ∧ repW x.2.2.1 y.2.2.1 y.2.2.2.1)
theorem lenOK_W {n : Nat} {a b : Nat → Int32} (h : lenOK n a b) : ∀ j, j < n → (a j).toNatClampNeg < 16 ∧ a j = nI (a j).toNatClampNeg ∧ b j = nI (a j).toNatClampNeg := by
  intro j hj
  obtain ⟨h1, w, hw, h2⟩ := h j hj
  rw [h1, h2, nI_clamp (by omega)]
  exact ⟨hw, rfl, rfl⟩
/-- the tables behind the lengths, both sides -/
theorem u_tables {N sc dc : Nat} {len line lens M S2 P0 st0 S0 P1 st1 S1 : Nat → Int32} (hN : 400 ≤ N) (hsc : 257 ≤ sc) (hsc2 : sc ≤ 286) (hdc : 1 ≤ dc) (hdc2 : dc ≤ 30) (hlen : lenOK (sc + dc) len line) :
    ∃ (L D : Nat → Nat) (w : Nat), w < 16 ∧ len 256 = nI w ∧
      (∃ P st S Q sq R, fDecoder_learn N (nI 0) (nI sc) P0 316 len st0 S0 = some (nI (acc (cnt L sc) 16), nI 32768 - nI (kra (cnt L sc) 16), P, st, S) ∧ fDecoder_learn N (nI sc) (nI dc) P1 316 len st1 S1 = some (nI (acc (cnt D dc) 16), nI 32768 - nI (kra (cnt D dc) 16), Q, sq, R) ∧
        tabC (cnt L sc) (symT L sc) (nI (acc (cnt L sc) 16)) P S ∧ tabC (cnt D dc) (symT D dc) (nI (acc (cnt D dc) 16)) Q R) ∧
      (∃ L1 L2 M1 S3 M2 S4, fMo_readOwn_414 N (nI sc) line N (nI 0) lens = some L1 ∧ fMo_readOwn_455 N (nI sc) (nI dc) line N (nI 0) L1 = some L2 ∧ fMo_sort N (nI 0) (nI 288) (nI 0) M 320 L2 S2 = some (M1, S3) ∧ fMo_sort N (nI 288) (nI 32) (nI 1) M1 320 L2 S3 = some (M2, S4) ∧
        tabM (cnt L sc) (symT L sc) 0 M2 S4 ∧ tabM (cnt D dc) (symT D dc) 1 M2 S4 ∧ L2 256 = nI w) := by
  have hW := lenOK_W hlen
  refine ⟨fun s => if s < sc then (len s).toNatClampNeg else 0, fun s => if s < dc then (len (sc + s)).toNatClampNeg else 0, (len 256).toNatClampNeg, (hW 256 (by omega)).1, (hW 256 (by omega)).2.1, ?_, ?_⟩
  · obtain ⟨P, st, S, a1, a2, a3⟩ := s_learn (N := N) (by omega) (x2 := 0) (n := sc) (n_p1 := 316) (f := len) (L := fun s => if s < sc then (len s).toNatClampNeg else 0) (by omega) (by omega) (by omega) (fun j hj => by
        show len (0 + j) = nI (if j < sc then (len j).toNatClampNeg else 0)
        rw [if_pos hj, Nat.zero_add]
        exact (hW j (by omega)).2.1) (fun j hj => by
        show (if j < sc then (len j).toNatClampNeg else 0) < 16
        rw [if_pos hj]
        exact (hW j (by omega)).1) P0 st0 S0
    obtain ⟨Q, sq, R, b1, b2, b3⟩ := s_learn (N := N) (by omega) (x2 := sc) (n := dc) (n_p1 := 316) (f := len) (L := fun s => if s < dc then (len (sc + s)).toNatClampNeg else 0) (by omega) (by omega) (by omega) (fun j hj => by
        show len (sc + j) = nI (if j < dc then (len (sc + j)).toNatClampNeg else 0)
        rw [if_pos hj]
        exact (hW (sc + j) (by omega)).2.1) (fun j hj => by
        show (if j < dc then (len (sc + j)).toNatClampNeg else 0) < 16
        rw [if_pos hj]
        exact (hW (sc + j) (by omega)).1) P1 st1 S1
    exact ⟨P, st, S, Q, sq, R, a1, b1, tabC_of (by omega) a2 a3, tabC_of (by omega) b2 b3⟩
  · obtain ⟨L1, a1, a2⟩ := s_414 (N := N) (sc := sc) (line := line) (by omega) 288 N 0 lens (by omega) (by omega) (fun j hj => by omega)
    obtain ⟨L2, b1, b2, b3⟩ := s_455 (N := N) (sc := sc) (dc := dc) (line := line) hsc2 hdc2 32 N 0 L1 (by omega) (by omega) (fun j hj => by omega)
    obtain ⟨M1, S3, c1, c2, c3, c4, c5⟩ := s_Mo_sort (N := N) (x2 := 0) (n := 288) (t := 0) (n_p1 := 320) (f := L2) (L := fun s => if s < sc then (len s).toNatClampNeg else 0) (by omega) (by omega) (by omega) (by omega) (by omega) (fun j hj => by
        show L2 (0 + j) = nI (if j < sc then (len j).toNatClampNeg else 0)
        rw [Nat.zero_add, b3 j hj, a2 j hj]
        by_cases h : j < sc
        · rw [if_pos h, if_pos h]
          exact (hW j (by omega)).2.2
        · rw [if_neg h, if_neg h]
          rfl) (fun j hj => by
        show (if j < sc then (len j).toNatClampNeg else 0) < 16
        by_cases h : j < sc
        · rw [if_pos h]
          exact (hW j (by omega)).1
        · rw [if_neg h]
          omega) (by rw [at0]; simp) M S2
    obtain ⟨M2, S4, d1, d2, d3, d4, d5⟩ := s_Mo_sort (N := N) (x2 := 288) (n := 32) (t := 1) (n_p1 := 320) (f := L2) (L := fun s => if s < dc then (len (sc + s)).toNatClampNeg else 0) (by omega) (by omega) (by omega) (by omega) (by omega) (fun j hj => by
        show L2 (288 + j) = nI (if j < dc then (len (sc + j)).toNatClampNeg else 0)
        rw [b2 j hj]
        by_cases h : j < dc
        · rw [if_pos h, if_pos h]
          exact (hW (sc + j) (by omega)).2.2
        · rw [if_neg h, if_neg h]
          rfl) (fun j hj => by
        show (if j < dc then (len (sc + j)).toNatClampNeg else 0) < 16
        by_cases h : j < dc
        · rw [if_pos h]
          exact (hW (sc + j) (by omega)).1
        · rw [if_neg h]
          omega) (by rw [at0]; simp) M1 S3
    refine ⟨L1, L2, M1, S3, M2, S4, a1, b1, c1, d1, ?_, ?_, ?_⟩
    · refine tabM_of (m := 288) (by omega) (fun j h1 h2 => if_neg (by omega)) (fun l h1 h2 => ?_) (fun s h1 h2 => ?_)
      · rw [d3 _ (Or.inl (by omega))]
        exact c2 l h1 h2
      · rw [d5 _ (Or.inl ?_)]
        · exact c4 s h1 h2
        · have := posn_n (L := fun s => if s < sc then (len s).toNatClampNeg else 0) h1 h2
          show 0 + _ < 288
          omega
    · exact tabM_of (m := 32) (by omega) (fun j h1 h2 => if_neg (by omega)) d2 d4
    · rw [b3 256 (by omega), a2 256 (by omega), if_pos (by omega)]
      exact (hW 256 (by omega)).2.2

/-- the reference's last checks of own codes -/
def own3 (N : Nat) (v_t_fault v_t_place : Int32) (y57 : Int32 × Int32 × (Nat → Int32)) (y15 : Int32 × (Nat → Int32)) (y71 : Nat → Int32) (y73 : (Nat → Int32) × (Nat → Int32)) (y80 y89 : Int32) : Option (Bool × Int32 × Int32 × Int32 × (Nat → Int32) × (Nat → Int32) × (Nat → Int32) × (Nat → Int32) × (Nat → Int32)) :=
    if ¬ ((256 : Int32) < 0 ∨ 320 ≤ (256 : Int32).toNatClampNeg) then
      if (y71 (256 : Int32).toNatClampNeg) = 0 then
        (fMo_wrong N (6 : Int32) y57.1).bind (fun y92 =>
          some (y92.1, y57.2.1, y92.2.1, y92.2.2, y15.2, y73.1, y73.2, y57.2.2, y71))
      else
        (fMo_used N (0 : Int32) y73.1).bind (fun y93 =>
          if (32768 : Int32) < y93 then
            (fMo_wrong N (6 : Int32) y57.1).bind (fun y95 =>
              some (y95.1, y57.2.1, y95.2.1, y95.2.2, y15.2, y73.1, y73.2, y57.2.2, y71))
          else
            (fMo_used N (0 : Int32) y73.1).bind (fun y96 =>
              if (32768 : Int32) ≤ y96 then
                (fMo_used N (1 : Int32) y73.1).bind (fun y98 =>
                  if (32768 : Int32) < y98 then
                    (fMo_wrong N (6 : Int32) y57.1).bind (fun y100 =>
                      some (y100.1, y57.2.1, y100.2.1, y100.2.2, y15.2, y73.1, y73.2, y57.2.2, y71))
                  else
                    (fMo_used N (1 : Int32) y73.1).bind (fun y101 =>
                      if (32768 : Int32) ≤ y101 then
                        some (false, y57.2.1, v_t_fault, v_t_place, y15.2, y73.1, y73.2, y57.2.2, y71)
                      else
                        if y89 = 0 then
                          (fMo_wrong N (6 : Int32) y57.1).bind (fun y104 =>
                            some (y104.1, y57.2.1, y104.2.1, y104.2.2, y15.2, y73.1, y73.2, y57.2.2, y71))
                        else
                          some (false, y57.2.1, v_t_fault, v_t_place, y15.2, y73.1, y73.2, y57.2.2, y71)))
              else
                if y80 = 0 then
                  (fMo_wrong N (6 : Int32) y57.1).bind (fun y106 =>
                    some (y106.1, y57.2.1, y106.2.1, y106.2.2, y15.2, y73.1, y73.2, y57.2.2, y71))
                else
                  (fMo_used N (1 : Int32) y73.1).bind (fun y107 =>
                    if (32768 : Int32) < y107 then
                      (fMo_wrong N (6 : Int32) y57.1).bind (fun y109 =>
                        some (y109.1, y57.2.1, y109.2.1, y109.2.2, y15.2, y73.1, y73.2, y57.2.2, y71))
                    else
                      (fMo_used N (1 : Int32) y73.1).bind (fun y110 =>
                        if (32768 : Int32) ≤ y110 then
                          some (false, y57.2.1, v_t_fault, v_t_place, y15.2, y73.1, y73.2, y57.2.2, y71)
                        else
                          if y89 = 0 then
                            (fMo_wrong N (6 : Int32) y57.1).bind (fun y113 =>
                              some (y113.1, y57.2.1, y113.2.1, y113.2.2, y15.2, y73.1, y73.2, y57.2.2, y71))
                          else
                            some (false, y57.2.1, v_t_fault, v_t_place, y15.2, y73.1, y73.2, y57.2.2, y71)))))
    else none
def own2 (N : Nat) (v_t_fault v_t_place sc dc : Int32) (f_t_lengths : Nat → Int32) (y57 : Int32 × Int32 × (Nat → Int32)) (y15 : Int32 × (Nat → Int32)) (y16 : (Nat → Int32) × (Nat → Int32)) : Option (Bool × Int32 × Int32 × Int32 × (Nat → Int32) × (Nat → Int32) × (Nat → Int32) × (Nat → Int32) × (Nat → Int32)) :=
    (fMo_readOwn_414 N sc y57.2.2 N (0 : Int32) f_t_lengths).bind (fun y64 =>
      (fMo_readOwn_455 N sc dc y57.2.2 N (0 : Int32) y64).bind (fun y71 =>
        (fMo_sort N (0 : Int32) (288 : Int32) (0 : Int32) y16.1 320 y71 y16.2).bind (fun y72 =>
          (fMo_sort N (288 : Int32) (32 : Int32) (1 : Int32) y72.1 320 y71 y72.2).bind (fun y73 =>
            (fMo_readOwn_525 N y73.1).bind (fun y80 =>
              (fMo_readOwn_551 N y73.1).bind (fun y89 =>
                own3 N v_t_fault v_t_place y57 y15 y71 y73 y80 y89))))))
def own1 (N : Nat) (v_t_total v_t_fault v_t_place sc dc st : Int32) (f_t_row f_t_line f_t_lengths : Nat → Int32) (y15 : Int32 × (Nat → Int32)) (y16 : (Nat → Int32) × (Nat → Int32)) : Option (Bool × Int32 × Int32 × Int32 × (Nat → Int32) × (Nat → Int32) × (Nat → Int32) × (Nat → Int32) × (Nat → Int32)) :=
    (fMo_readOwn_180 N v_t_total f_t_row (sc + dc) y16.1 y16.2 N st (0 : Int32) y15.1 f_t_line).bind (fun y57 =>
      Sum.elim (fun y57 => own2 N v_t_fault v_t_place sc dc f_t_lengths y57 y15 y16) (fun y57 =>
        some (y57.1, y57.2.1, y57.2.2.1, y57.2.2.2.1, y15.2, y16.1, y16.2, y57.2.2.2.2, f_t_lengths)) y57)
theorem Mo_own_eq (N : Nat) (v_t_pos : Int32) (v_t_total : Int32) (v_t_fault : Int32) (v_t_place : Int32) (f_t_row : Nat → Int32) (f_t_fewLengths : Nat → Int32) (f_t_many : Nat → Int32) (f_t_sorted : Nat → Int32) (f_t_line : Nat → Int32) (f_t_lengths : Nat → Int32) :
    fMo_readOwn N v_t_pos v_t_total v_t_fault v_t_place f_t_row f_t_fewLengths f_t_many f_t_sorted f_t_line f_t_lengths =
    if (v_t_pos + (14 : Int32)) ≤ v_t_total then
      (fMo_take N (5 : Int32) v_t_pos f_t_row).bind (fun y2 =>
        (fMo_take N (5 : Int32) y2.2 f_t_row).bind (fun y3 =>
          (fMo_take N (4 : Int32) y3.2 f_t_row).bind (fun y4 =>
            if (286 : Int32) < ((257 : Int32) + y2.1) then
              (fMo_wrong N (4 : Int32) v_t_pos).bind (fun y6 =>
                some (y6.1, y4.2, y6.2.1, y6.2.2, f_t_fewLengths, f_t_many, f_t_sorted, f_t_line, f_t_lengths))
            else
              if ((1 : Int32) + y3.1) ≤ (30 : Int32) then
                if (y4.2 + ((3 : Int32) * ((4 : Int32) + y4.1))) ≤ v_t_total then
                  (fMo_readOwn_104 N f_t_row ((4 : Int32) + y4.1) N (0 : Int32) y4.2 f_t_fewLengths).bind (fun y15 =>
                    (fMo_sort N (0 : Int32) (19 : Int32) (2 : Int32) f_t_many 19 y15.2 f_t_sorted).bind (fun y16 =>
                      (fMo_used N (2 : Int32) y16.1).bind (fun y17 =>
                        if y17 = (32768 : Int32) then
                          own1 N v_t_total v_t_fault v_t_place ((257 : Int32) + y2.1) ((1 : Int32) + y3.1) y4.2 f_t_row f_t_line f_t_lengths y15 y16
                        else
                          (fMo_wrong N (5 : Int32) y4.2).bind (fun y114 =>
                            some (y114.1, y15.1, y114.2.1, y114.2.2, y15.2, y16.1, y16.2, f_t_line, f_t_lengths)))))
                else
                  (fMo_wrong N (1 : Int32) y4.2).bind (fun y115 =>
                    some (y115.1, y4.2, y115.2.1, y115.2.2, f_t_fewLengths, f_t_many, f_t_sorted, f_t_line, f_t_lengths))
              else
                (fMo_wrong N (4 : Int32) v_t_pos).bind (fun y116 =>
                  some (y116.1, y4.2, y116.2.1, y116.2.2, f_t_fewLengths, f_t_many, f_t_sorted, f_t_line, f_t_lengths)))))
    else
      (fMo_wrong N (1 : Int32) v_t_pos).bind (fun y117 =>
        some (y117.1, v_t_pos, y117.2.1, y117.2.2, f_t_fewLengths, f_t_many, f_t_sorted, f_t_line, f_t_lengths)) := rfl
theorem s_own3 {N : Nat} {f0 p0 : Int32} {y57 : Int32 × Int32 × (Nat → Int32)} {y15 : Int32 × (Nat → Int32)} {L2 : Nat → Int32} {y73 : (Nat → Int32) × (Nat → Int32)} {c d : Nat → Nat} {w : Nat} (hN : 300 ≤ N) (hw : w < 16) (h256 : L2 256 = nI w) (hM : ∀ l, 1 ≤ l → l < 16 → y73.1 (16 * 0 + l) = nI (c l)) (hD : ∀ l, 1 ≤ l → l < 16 → y73.1 (16 * 1 + l) = nI (d l)) (hc : kra c 16 < 2 ^ 31 ∧ acc c 16 < 2 ^ 31 ∧ c 1 < 2 ^ 31) (hd : kra d 16 < 2 ^ 31 ∧ acc d 16 < 2 ^ 31 ∧ d 1 < 2 ^ 31) :
    own3 N f0 p0 y57 y15 L2 y73 (if acc c 16 = 1 ∧ c 1 = 1 then (1 : Int32) else 0) (if acc d 16 = 0 ∨ (acc d 16 = 1 ∧ d 1 = 1) then (1 : Int32) else 0) = some (if 1 ≤ w ∧ tabOK c ∧ (tabOK d ∨ acc d 16 = 0) then (false, y57.2.1, f0, p0, y15.2, y73.1, y73.2, y57.2.2, L2) else (true, y57.2.1, 6, y57.1, y15.2, y73.1, y73.2, y57.2.2, L2)) := by
  have u0 := s_used (N := N) (t := 0) hN (by omega) hM
  have u1 := s_used (N := N) (t := 1) hN (by omega) hD
  have u0' : fMo_used N (0 : Int32) y73.1 = some (nI (kra c 16)) := u0
  have u1' : fMo_used N (1 : Int32) y73.1 = some (nI (kra d 16)) := u1
  rw [own3, u0', u1', show (256 : Int32).toNatClampNeg = 256 from by decide, h256, if_pos (by decide)]
  have e1 : ((32768 : Int32) < nI (kra c 16)) = (32768 < kra c 16) := propext (nI_ltI (a := 32768) (by omega) hc.1)
  have e2 : ((32768 : Int32) ≤ nI (kra c 16)) = (32768 ≤ kra c 16) := propext (nI_leI (a := 32768) (by omega) hc.1)
  have e3 : ((32768 : Int32) < nI (kra d 16)) = (32768 < kra d 16) := propext (nI_ltI (a := 32768) (by omega) hd.1)
  have e4 : ((32768 : Int32) ≤ nI (kra d 16)) = (32768 ≤ kra d 16) := propext (nI_leI (a := 32768) (by omega) hd.1)
  have e5 : (nI w = (0 : Int32)) = (w = 0) := propext (nI_eq (b := 0) (by omega) (by omega))
  simp only [Option.bind_some, s_Mo_wrong, e1, e2, e3, e4, e5]
  unfold tabOK
  have hone := one_kra (c := c)
  have hone' := one_kra (c := d)
  have hz := zero_kra (c := d)
  by_cases hw0 : w = 0
  · simp [hw0]
  · have hw1 : 1 ≤ w := by omega
    rw [if_neg hw0]
    by_cases h1 : 32768 < kra c 16
    · have a1 : ¬ (kra c 16 = 32768) := by omega
      have a2 : ¬ (acc c 16 = 1 ∧ c 1 = 1) := fun h => by have := hone h.1 h.2; omega
      simp [h1, a1, a2]
    · rw [if_neg h1]
      by_cases h3 : 32768 < kra d 16
      · have a1 : ¬ (kra d 16 = 32768) := by omega
        have a2 : ¬ (acc d 16 = 1 ∧ d 1 = 1) := fun h => by have := hone' h.1 h.2; omega
        have a3 : ¬ (acc d 16 = 0) := fun h => by have := hz h; omega
        by_cases h2 : 32768 ≤ kra c 16
        · simp [h2, h3, a1, a2, a3]
        · by_cases h5 : acc c 16 = 1 ∧ c 1 = 1
          · simp [h2, h3, a1, a2, a3, h5]
          · simp [h2, h3, a1, a2, a3, h5]
      · by_cases h2 : 32768 ≤ kra c 16
        · have b1 : kra c 16 = 32768 := by omega
          by_cases h4 : 32768 ≤ kra d 16
          · have b2 : kra d 16 = 32768 := by omega
            simp [h2, h3, h4, b1, b2, hw1]
          · have b2 : ¬ kra d 16 = 32768 := by omega
            by_cases h6 : acc d 16 = 0 ∨ (acc d 16 = 1 ∧ d 1 = 1)
            · have h7 : (acc d 16 = 1 ∧ d 1 = 1) ∨ acc d 16 = 0 := h6.symm
              simp [h2, h3, h4, b1, b2, hw1, h6, h7]
            · have h7 : ¬ ((acc d 16 = 1 ∧ d 1 = 1) ∨ acc d 16 = 0) := fun h => h6 h.symm
              simp [h2, h3, h4, b1, b2, hw1, h6, h7]
        · have b1 : ¬ kra c 16 = 32768 := by omega
          by_cases h5 : acc c 16 = 1 ∧ c 1 = 1
          · by_cases h4 : 32768 ≤ kra d 16
            · have b2 : kra d 16 = 32768 := by omega
              simp [h2, h3, h4, b1, b2, hw1, h5]
            · have b2 : ¬ kra d 16 = 32768 := by omega
              by_cases h6 : acc d 16 = 0 ∨ (acc d 16 = 1 ∧ d 1 = 1)
              · have h7 : (acc d 16 = 1 ∧ d 1 = 1) ∨ acc d 16 = 0 := h6.symm
                simp [h2, h3, h4, b1, b2, hw1, h5, h6, h7]
              · have h7 : ¬ ((acc d 16 = 1 ∧ d 1 = 1) ∨ acc d 16 = 0) := fun h => h6 h.symm
                simp [h2, h3, h4, b1, b2, hw1, h5, h6, h7]
          · simp [h2, b1, h5]
