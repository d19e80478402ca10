/-! Lengths of codes: both sides, whole. -/
theorem u_rounds {N nC nM x3 n1 n2 lim : Nat} {cf : Nat → Int32} {C : Nat → Nat} (hN : 2000 ≤ N) (hnC : nC ≤ 286) (hCM : nC ≤ nM) (hnM : nM ≤ 288) (h1 : x3 + nM ≤ n1) (h2 : x3 + nM ≤ n2) (hn1 : n1 ≤ 320) (hn2 : n2 ≤ 320) (hcf : ∀ x, x < nM → cf (x3 + x) = nI (C x)) (hC : ∀ x, C x ≤ 2 ^ 17) (hC0 : ∀ x, nC ≤ x → C x = 0) (hl1 : 1 ≤ lim) (hl2 : lim ≤ 15) (hfb : nC < fb (lim + 1)) :
    ∀ (g h k k' : Nat) (sh W S PC DC W2 T P Y : Nat → Int32), h + g = 17 → g < k → g + 1 < k' → (∀ x, x < nC → sh x = nI (hv (C x) h)) →
      ∃ out out', ((fTrees_sortLeaves N (nI nC) sh W S).bind (fun y12 => (fTrees_joinAll N y12.1 y12.2.1 PC DC).bind (fun y13 => fTrees_findLengths_40 N (nI lim) (nI nC) k (nI h) y12.1 y13.1 y13.2.1 y13.2.2.1 sh y13.2.2.2.1 y12.2.2 y13.2.2.2.2.1 y13.2.2.2.2.2))) = some out ∧ fMo_join_30 N (nI x3) (nI nM) (nI lim) n2 n1 cf k' (nI 1) (nI h) W2 T P Y = some out' ∧
        ∃ m c σ D, out.1 = nI m ∧ m ≤ 286 ∧ srt c nC m σ ∧ (∀ x, 0 < c x ↔ 0 < C x) ∧ (∀ i, i < m → out.2.2.2.2.2.2.1 i = nI (σ i)) ∧ (∀ i, i < m → (if m = 1 then (1 : Int32) else out.2.2.2.2.2.2.2.2 i) = nI (lenE m c σ D (σ i))) ∧ (∀ x, lenE m c σ D x ≤ lim) ∧ (∀ x, 0 < C x → 1 ≤ lenE m c σ D x) ∧ (∀ x, x < nM → out'.2.1 (x3 + x) = nI (lenE m c σ D x)) ∧ ∀ j, (j < x3 ∨ x3 + nM ≤ j) → out'.2.1 j = T j := by
  intro g
  induction g using Nat.strongRecOn with
  | _ g ih =>
    intro h k k' sh W S PC DC W2 T P Y hg hk hk' hsh
    obtain ⟨k, rfl⟩ : ∃ j, k = j + 1 := ⟨k - 1, by omega⟩
    obtain ⟨k', rfl⟩ : ∃ j, k' = j + 1 := ⟨k' - 1, by omega⟩
    obtain ⟨c, hc⟩ : ∃ c : Nat → Nat, c = fun x => hv (C x) h := ⟨_, rfl⟩
    have hcv : ∀ x, c x = hv (C x) h := fun x => by rw [hc]
    have hcl : ∀ x, c x ≤ 2 ^ 17 := fun x => by rw [hcv]; exact Nat.le_trans (hv_le _ _) (hC x)
    have hcp : ∀ x, 0 < c x ↔ 0 < C x := fun x => by rw [hcv]; exact hv_pos h
    have hc0 : ∀ x, nC ≤ x → c x = 0 := fun x hx => by
      have := hcp x
      have := hC0 x hx
      omega
    obtain ⟨m, W', S', σ, e1, e2, e3⟩ := s_sortLeaves (N := N) (n := nC) (c := c) (sh := sh) (W := W) (S := S) (by omega) hnC (fun x hx => by rw [hcv]; exact hsh x hx) (fun x => by have := hcl x; omega)
    have hm : m ≤ 286 := by
      have := rk_le c nC
      have := e2.1
      omega
    have hrk : rk c nM = m := by
      obtain ⟨d, rfl⟩ : ∃ d, nM = nC + d := ⟨nM - nC, by omega⟩
      rw [rk_ext d (fun x hx _ => hc0 x hx), e2.1]
    obtain ⟨W2', T', P', Y', f1, f2, f3, f4⟩ := s_join_41 (N := N) (x3 := x3) (n := nM) (h := h) (n1 := n1) (n2 := n2) (cf := cf) (c0 := C) (by omega) (by omega) hnM (by omega) h1 h2 hcf (fun x => by have := hC x; omega) (by omega) (by omega) nM N 0 W2 T P Y (by omega) (by omega) (fun x hx => by omega) (fun x hx => by omega)
    rw [← hc] at f1 f2
    have hsum : sumL (fun i => c (σ i)) 0 m < 2 ^ 30 := by
      have h9 := sumL_le (w := fun i => c (σ i)) (B := 2 ^ 17) m 0 (fun x _ _ => hcl (σ x))
      have h8 : m * 2 ^ 17 ≤ 286 * 2 ^ 17 := Nat.mul_le_mul_right _ hm
      omega
    obtain ⟨D, md, nl, nj, WC', PC', DC', WM', PM', g1, g2, g3⟩ := u_joinAll (N := N) (n := nC) (m := m) (c := c) (σ := σ) (WC := W') (S := S') (PC := PC) (DC := DC) (WM := W2') (PM := P') (YM := Y') hN hnC hsum e2 e3 (fun x hx hcx => f2 x (by omega) hcx)
    obtain ⟨yc, d1, d2, d3⟩ := s_deepest (N := N) (m := m) (lim := lim) (DC := DC') (D := D) (by omega) hm (fun i hi => ⟨(g3 i hi).1, (g3 i hi).2.1⟩)
    have hin : ∀ x, 0 < c x → ∃ i, i < m ∧ σ i = x := fun x hx => by
      refine e2.2.2.2 x ?_ hx
      rcases Nat.lt_or_ge x nC with q | q
      · exact q
      · have := hc0 x q; omega
    obtain ⟨yr, T'', r1, r2, r3, r4, r5⟩ := s_join_223 (N := N) (x3 := x3) (n := nM) (n2 := n2) (m := m) (lim := lim) (c := c) (E := lenE m c σ D) (PM := PM') (Y := Y') (by omega) hrk.symm hnM h2 hn2 (fun x hx hcx => (f2 x hx hcx).2.2) (fun x hx hcx => by
      obtain ⟨i, i1, i2⟩ := hin x hcx
      refine ⟨D i, ?_, (g3 i i1).2.1, ?_⟩
      · rw [← i2]; exact (g3 i i1).2.2.2.2.2
      · rw [← i2, lenE_σ e2 i1]) m N 0 0 T' (by omega) (by omega) (by omega) ⟨fun _ x _ _ q => by omega, fun _ => Nat.zero_le _⟩ (fun x _ _ q => by omega)
    have hgood : (∀ x, x < nM → 0 < c x → lenE m c σ D x ≤ lim) ↔ ∀ q, q < m → D q ≤ lim := by
      constructor
      · intro q i hi
        by_cases h1m : m = 1
        · have := (g3 i hi).2.2.2.1 h1m
          omega
        · have q1 := (e2.2.1 i hi)
          have q2 := q (σ i) (by omega) q1.2
          rw [lenE_σ e2 hi, if_neg h1m] at q2
          exact q2
      · intro q x hx hcx
        obtain ⟨i, i1, i2⟩ := hin x hcx
        rw [← i2, lenE_σ e2 i1]
        split
        · exact hl1
        · exact q i i1
    have hcls : ∀ (kk : Nat), ((fTrees_sortLeaves N (nI nC) sh W S).bind (fun y12 => (fTrees_joinAll N y12.1 y12.2.1 PC DC).bind (fun y13 => fTrees_findLengths_40 N (nI lim) (nI nC) kk (nI h) y12.1 y13.1 y13.2.1 y13.2.2.1 sh y13.2.2.2.1 y12.2.2 y13.2.2.2.2.1 y13.2.2.2.2.2))) = fTrees_findLengths_40 N (nI lim) (nI nC) kk (nI h) (nI m) md nl nj sh WC' S' PC' DC' := by
      intro kk
      rw [e1, Option.bind_some]
      dsimp only
      rw [g1, Option.bind_some]
    have href : fMo_join_30 N (nI x3) (nI nM) (nI lim) n2 n1 cf (k' + 1) (nI 1) (nI h) W2 T P Y = fMo_join_30 N (nI x3) (nI nM) (nI lim) n2 n1 cf k' (if nI yr ≤ nI lim then (0 : Int32) else (1 : Int32)) (nI (h + 1)) WM' T'' PM' Y' := by
      rw [fMo_join_30, if_neg (show ¬ nI 1 = (0 : Int32) by decide)]
      rw [show fMo_join_41 N (nI x3) (nI nM) (nI h) n2 n1 cf N (0 : Int32) (0 : Int32) W2 T P Y = some (nI (rk c nM), W2', T', P', Y') from f1, Option.bind_some]
      dsimp only
      rw [hrk, g2, Option.bind_some]
      dsimp only
      rw [show fMo_join_223 N (nI x3) (nI m) n2 PM' Y' N (0 : Int32) (0 : Int32) T' = some (nI yr, T'') from r1, Option.bind_some, nI_1]
    by_cases good : ∀ q, q < m → D q ≤ lim
    · have hyc : yc ≤ lim := d3.mpr good
      have hyr : yr ≤ lim := r3.mpr (hgood.mpr good)
      obtain ⟨k', rfl⟩ : ∃ j, k' = j + 1 := ⟨k' - 1, by omega⟩
      refine ⟨(nI m, md, nl, nj, sh, WC', S', PC', DC'), (WM', T'', PM', Y'), ?_, ?_, m, c, σ, D, ?_⟩
      · rw [hcls, fTrees_findLengths_40, if_neg (show ¬ (32 : Int32) ≤ nI h from nI_ge (b := 32) (by omega) (by omega)), d1, Option.bind_some, if_pos (nI_le hyc (by omega))]
      · rw [href, if_pos (nI_le hyr (by omega)), fMo_join_30, if_pos rfl]
      · refine ⟨rfl, hm, e2, hcp, fun i hi => (e3 i hi).2, fun i hi => ?_, fun x => ?_, fun x hx => ?_, fun x hx => ?_, fun j hj => ?_⟩
        · rw [lenE_σ e2 hi]
          show (if m = 1 then (1 : Int32) else DC' i) = _
          split
          · rfl
          · exact (g3 i hi).1
        · by_cases hcx : 0 < c x
          · obtain ⟨i, i1, i2⟩ := hin x hcx
            have := (e2.2.1 i i1).1
            exact hgood.mpr good x (by omega) hcx
          · rw [lenE_0 hcx]
            exact Nat.zero_le _
        · obtain ⟨i, i1, i2⟩ := hin x ((hcp x).mpr hx)
          rw [← i2, lenE_σ e2 i1]
          split
          · exact Nat.le_refl _
          · exact (g3 i i1).2.2.1 (by omega)
        · show T'' (x3 + x) = _
          by_cases hcx : 0 < c x
          · exact r4 x hx hcx
          · rw [lenE_0 hcx, r5 _ (fun z z1 z2 q => hcx (by have : x = z := by omega
                                                           rw [this]; exact z2)), f3 x hx]
            rfl
        · show T'' j = T j
          rw [r5 j (fun z z1 z2 => by omega), f4 j hj]
    · have hyc : ¬ yc ≤ lim := fun q => good (d3.mp q)
      have hyr : ¬ yr ≤ lim := fun q => good (hgood.mp (r3.mp q))
      by_cases hg0 : g = 0
      · exfalso
        apply good
        intro q hq
        have hh : h = 17 := by omega
        have h9 := sumL_le (w := fun i => c (σ i)) (B := 1) m 0 (fun x _ _ => by
          show c (σ x) ≤ 1
          rw [hcv, hh]
          exact hv_17 (hC _))
        have h8 := (g3 q hq).2.2.2.2.1
        have h7 := rk_le c nC
        have h6 := e2.1
        rcases Nat.lt_or_ge lim (D q) with s | s
        · have := fb_mono (show lim + 1 ≤ D q from s)
          omega
        · exact s
      · obtain ⟨sh', a1, a2⟩ := s_halve (N := N) (n := nC) (c := c) (sh := sh) (by omega) hnC (fun x => by have := hcl x; omega) (fun x hx => by rw [hcv]; exact hsh x hx)
        obtain ⟨out, out', b1, b2, m9, c9, σ9, D9, b3⟩ := ih (g - 1) (by omega) (h + 1) k k' sh' WC' S' PC' DC' WM' T'' PM' Y' (by omega) (by omega) (by omega) (fun x hx => by rw [a2 x hx, hcv, hv])
        refine ⟨out, out', ?_, ?_, m9, c9, σ9, D9, ?_⟩
        · rw [hcls, fTrees_findLengths_40, if_neg (show ¬ (32 : Int32) ≤ nI h from nI_ge (b := 32) (by omega) (by omega)), d1, Option.bind_some, if_neg (show ¬ nI yc ≤ nI lim from nI_ge (by omega) (by omega)), a1, Option.bind_some, nI_1]
          exact b1
        · rw [href, if_neg (show ¬ nI yr ≤ nI lim from nI_ge (by omega) (by omega))]
          exact b2
        · obtain ⟨s1, s2, s3, s4, s5, s6, s7, s8, s9, s10⟩ := b3
          refine ⟨s1, s2, s3, s4, s5, s6, s7, s8, s9, fun j hj => ?_⟩
          rw [s10 j hj, r5 j (fun z z1 z2 => by omega), f4 j hj]
theorem s_join_6 {N n : Nat} (hn : n ≤ 288) : ∀ (d k i : Nat) (w : Nat → Int32), i + d = n → d < k → ∃ w', fMo_join_6 N (nI n) k (nI i) w = some w'
  | 0, k + 1, i, w, hd, hk => by
    have e : i = n := by omega
    subst e
    exact ⟨w, by rw [fMo_join_6, if_pos (nI_le (Nat.le_refl _) (by omega))]⟩
  | d + 1, k + 1, i, w, hd, hk => by
    rw [fMo_join_6, if_neg (show ¬ nI n ≤ nI i from nI_ge (by omega) (by omega)), if_pos (nI_in (show i < 640 by omega) (by omega)), nI_1]
    exact s_join_6 hn d k (i + 1) _ (by omega) (by omega)
/-- the lengths of a code, the same on both sides -/
theorem u_find {N nC nM x3 n1 n2 lim : Nat} {cf fp p2 sh W S PC DC WM T P Y : Nat → Int32} {C : Nat → Nat} (hN : 2000 ≤ N) (hnC : nC ≤ 286) (hCM : nC ≤ nM) (hnM : nM ≤ 288) (h1 : x3 + nM ≤ n1) (h2 : x3 + nM ≤ n2) (hn1 : n1 ≤ 320) (hn2 : n2 ≤ 320) (hfp : ∀ x, x < nC → fp x = nI (C x)) (hcf : ∀ x, x < nM → cf (x3 + x) = nI (C x)) (hC : ∀ x, C x ≤ 2 ^ 17) (hC0 : ∀ x, nC ≤ x → C x = 0) (hl1 : 1 ≤ lim) (hl2 : lim ≤ 15) (hfb : nC < fb (lim + 1)) :
    ∃ out out' , ∃ LEN : Nat → Nat, fTrees_findLengths N (nI lim) nC fp nC p2 sh W S PC DC = some out ∧ fMo_join N (nI x3) (nI nM) (nI lim) WM n2 T n1 cf P Y = some out' ∧ (∀ x, x < nC → out.2.2.2.2.1 x = nI (LEN x)) ∧ (∀ x, x < nM → out'.2.1 (x3 + x) = nI (LEN x)) ∧ (∀ j, (j < x3 ∨ x3 + nM ≤ j) → out'.2.1 j = T j) ∧ (∀ x, LEN x ≤ lim) ∧ (∀ x, 0 < C x → 1 ≤ LEN x) ∧ ∀ x, ¬ 0 < C x → LEN x = 0 := by
  have en : (if (286 : Int32) < (if (nI nC) < (nI nC) then (nI nC) else (nI nC)) then (286 : Int32) else (if (nI nC) < (nI nC) then (nI nC) else (nI nC))) = nI nC := by
    rw [if_neg (nI_nlt (Nat.le_refl _) (by omega)), if_neg (show ¬ (286 : Int32) < nI nC from nI_nlt (a := 286) hnC (by omega))]
  obtain ⟨w6, a6⟩ := s_join_6 (N := N) hnM nM N 0 WM (by omega) (by omega)
  obtain ⟨out, out', b1, b2, m, c, σ, D, s1, s2, s3, s4, s5, s6, s7, s8, s9, s10⟩ := u_rounds (N := N) (nC := nC) (nM := nM) (x3 := x3) (n1 := n1) (n2 := n2) (lim := lim) (cf := cf) (C := C) hN hnC hCM hnM h1 h2 hn1 hn2 hcf hC hC0 hl1 hl2 hfb 17 0 N N (va_cpy fp sh 0 0 nC) W S PC DC w6 T P Y (by omega) (by omega) (by omega) (fun x hx => by rw [pk_cpy_in (Nat.zero_le _) (by omega), show 0 + (x - 0) = x by omega]; exact hfp x hx)
  obtain ⟨p0, c1, c2⟩ := s_fill (N := N) (x1 := 0) (n := nC) (by omega) (by omega) p2
  have hE0 : ∀ x, ¬ 0 < c x → lenE m c σ D x = 0 := fun x hx => lenE_0 hx
  obtain ⟨p', d1, d2⟩ := s_find_85 (N := N) (m := m) (n := nC) (c := c) (σ := σ) (E := lenE m c σ D) (S := out.2.2.2.2.2.2.1) (DC := out.2.2.2.2.2.2.2.2) s2 hnC s3 s5 s6 hE0 m N 0 p0 (by omega) (by omega) (fun q hq => by omega) (fun x hx _ => c2 x hx)
  refine ⟨(out.1, out.2.1, out.2.2.1, out.2.2.2.1, p', out.2.2.2.2.1, out.2.2.2.2.2.1, out.2.2.2.2.2.2.1, out.2.2.2.2.2.2.2.1, out.2.2.2.2.2.2.2.2), out', lenE m c σ D, ?_, ?_, d2, s9, s10, s7, s8, fun x hx => hE0 x (fun q => hx ((s4 x).mp q))⟩
  · rw [fTrees_findLengths, en, nI_clamp (show nC < 2 ^ 31 by omega), if_pos (by decide), if_pos (by decide), if_pos (show ¬ nI nC < 0 from nI_nlt (a := nC) (b := 0) (by omega) (by omega)), if_pos (show (0 : Int32).toNatClampNeg + nC ≤ nC from by show 0 + nC ≤ nC; omega), if_pos (show (0 : Int32).toNatClampNeg + nC ≤ 286 from by show 0 + nC ≤ 286; omega)]
    cases hx : fTrees_sortLeaves N (nI nC) (va_cpy fp sh 0 0 nC) W S with
    | none => rw [hx] at b1; cases b1
    | some y6 =>
      rw [hx, Option.bind_some] at b1
      rw [show fTrees_sortLeaves N (nI nC) (va_cpy fp sh (0 : Int32).toNatClampNeg (0 : Int32).toNatClampNeg nC) W S = some y6 from hx, Option.bind_some]
      cases hy : fTrees_joinAll N y6.1 y6.2.1 PC DC with
      | none => rw [hy] at b1; cases b1
      | some y7 =>
        rw [hy, Option.bind_some] at b1
        rw [Option.bind_some]
        rw [show fTrees_findLengths_40 N (nI lim) (nI nC) N (0 : Int32) y6.1 y7.1 y7.2.1 y7.2.2.1 (va_cpy fp sh (0 : Int32).toNatClampNeg (0 : Int32).toNatClampNeg nC) y7.2.2.2.1 y6.2.2 y7.2.2.2.2.1 y7.2.2.2.2.2 = some out from b1, Option.bind_some, c1, Option.bind_some, s1]
        rw [show fTrees_findLengths_85 N (nI m) nC out.2.2.2.2.2.2.1 out.2.2.2.2.2.2.2.2 N (0 : Int32) p0 = some p' from d1]
        rfl
  · rw [fMo_join, show fMo_join_6 N (nI nM) N (0 : Int32) WM = some w6 from a6, Option.bind_some]
    rw [show fMo_join_30 N (nI x3) (nI nM) (nI lim) n2 n1 cf N (1 : Int32) (0 : Int32) w6 T P Y = some out' from b2]
    rfl
