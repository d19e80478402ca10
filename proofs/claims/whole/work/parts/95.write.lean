/-! Writing tokens, both sides. -/
/-- a code of n symbols, on both sides -/
def CODE (n off : Nat) (L V : Nat → Nat) (ln bs lens nums : Nat → Int32) : Prop := ∀ s, s < n → ln s = nI (L s) ∧ lens (off + s) = nI (L s) ∧ L s ≤ 15 ∧ (1 ≤ L s → bs s = nI (rvv (V s) (L s)) ∧ nums (off + s) = nI (V s) ∧ V s < 2 ^ 31)
theorem WR_sym {N n off s T : Nat} {L V : Nat → Nat} {ln bs lens nums cells prod : Nat → Int32} {held hb count out : Int32} (hN : 20 ≤ N) (hC : CODE n off L V ln bs lens nums) (hs : s < n) (h1 : 1 ≤ L s) (h : WR T held hb count cells out prod) (ht : T + L s ≤ 8 * 65546) :
    ∃ held' hb' count' cells' out' prod', fBitSink_put N (bs s) (ln s) held hb count cells = some (held', hb', count', cells') ∧ fMo_high N (nums (off + s)) (lens (off + s)) out prod = some (out', prod') ∧ WR (T + L s) held' hb' count' cells' out' prod' := by
  obtain ⟨c1, c2, c3, c4⟩ := hC s hs
  obtain ⟨d1, d2, d3⟩ := c4 h1
  rw [c1, c2, d1, d2]
  exact WR_hi hN h (by omega) ht d3
theorem lf_next : ∀ i, i < 28 → lf (i + 1) ≤ lf i + 2 ^ lb i := by decide +kernel
theorem df_next : ∀ i, i < 29 → df (i + 1) ≤ df i + 2 ^ db i := by decide +kernel
theorem lS_rest {l : Nat} (h : 3 ≤ l) (h2 : l ≤ 258) : lf (lS l) ≤ l ∧ l - lf (lS l) < 2 ^ lb (lS l) := by
  obtain ⟨a, b, c⟩ := ixd_ok (T := lf) (v := l) (show lf 0 ≤ l from h) 28
  rw [show ixd lf l 28 = lS l from rfl] at a b c
  refine ⟨b, ?_⟩
  by_cases e : lS l = 28
  · rw [e] at b ⊢
    have : lf 28 = 258 := rfl
    have h3 : lb 28 = 0 := rfl
    rw [h3]
    omega
  · have q1 := c (lS l + 1) (by omega) (by omega)
    have q2 := lf_next (lS l) (by omega)
    omega
theorem dS_rest {d : Nat} (h : 1 ≤ d) (h2 : d ≤ 32768) : df (dS d) ≤ d ∧ d - df (dS d) < 2 ^ db (dS d) := by
  obtain ⟨a, b, c⟩ := ixd_ok (T := df) (v := d) (show df 0 ≤ d from h) 29
  rw [show ixd df d 29 = dS d from rfl] at a b c
  refine ⟨b, ?_⟩
  by_cases e : dS d = 29
  · rw [e] at b ⊢
    have : df 29 = 24577 := rfl
    have h3 : db 29 = 13 := rfl
    rw [h3]
    omega
  · have q1 := c (dS d + 1) (by omega) (by omega)
    have q2 := df_next (dS d) (by omega)
    omega
theorem u_wtok {N t n1 n2 : Nat} {Lf Df L D V U : Nat → Nat} {tc tm l1 b1 l2 b2 lens nums : Nat → Int32} (hN : 100 ≤ N) (ht : t ≤ 65536) (htok : TOK t Lf Df tc tm) (hn1 : 286 ≤ n1) (hn1b : n1 ≤ 288) (hn2 : 30 ≤ n2) (hn2b : n2 ≤ 32) (hC : CODE n1 0 L V l1 b1 lens nums) (hD : CODE n2 288 D U l2 b2 lens nums) (hLs : ∀ i, i < t → 1 ≤ L (sy Lf Df i)) (hDs : ∀ i, i < t → ¬ Lf i = 0 → 1 ≤ D (dS (Df i))) :
    ∀ (m k i T : Nat) (held hb count out : Int32) (cells prod : Nat → Int32), i + m = t → m < k → WR T held hb count cells out prod → T + sumL (tkb Lf Df L D) i m ≤ 8 * 65546 →
      ∃ held' hb' count' cells' out' prod', fPacker_writeTokens_11 N (nI t) tc n1 b1 n1 l1 n2 b2 n2 l2 k (nI i) held hb count cells = some (held', hb', count', cells') ∧ (∀ kk, fMo_writeTokens_35 N (nI (t + 1)) lens nums tm (m + kk) (nI i) out prod = fMo_writeTokens_35 N (nI (t + 1)) lens nums tm kk (nI t) out' prod') ∧ WR (T + sumL (tkb Lf Df L D) i m) held' hb' count' cells' out' prod'
  | 0, k + 1, i, T, held, hb, count, out, cells, prod, hi, hk, h, hT => by
    have e : i = t := by omega
    subst e
    refine ⟨held, hb, count, cells, out, prod, ?_, fun kk => by rw [Nat.zero_add], ?_⟩
    · rw [fPacker_writeTokens_11, if_pos (nI_le (Nat.le_refl _) (by omega))]
    · rw [sumL, Nat.add_zero]
      exact h
  | m + 1, k + 1, i, T, held, hb, count, out, cells, prod, hi, hk, h, hT => by
    obtain ⟨o1, o2, o3⟩ := htok i (by omega)
    have hL1 := hLs i (by omega)
    rw [sumL] at hT ⊢
    have hin1 : ¬ (nI i < 0 ∨ 65536 ≤ (nI i).toNatClampNeg) := nI_in (by omega) (by omega)
    have hin2 : ¬ (nI i < 0 ∨ 65537 ≤ (nI i).toNatClampNeg) := nI_in (by omega) (by omega)
    by_cases h0 : Lf i = 0
    · obtain ⟨c1, c2⟩ := cTok_lit o1 h0
      obtain ⟨m1, m2, m3⟩ := mTok_lit (N := N) o1 h0
      have es : sy Lf Df i = Df i := if_pos h0
      have et : tkb Lf Df L D i = L (Df i) := by rw [tkb, sy, if_pos h0, if_pos h0, Nat.add_zero]
      rw [es] at hL1
      rw [et] at hT ⊢
      obtain ⟨h1, b9, c9, ce, ou, pr, a1, a2, a3⟩ := WR_sym (N := N) (by omega) hC (show Df i < n1 by omega) hL1 h (by omega)
      rw [Nat.zero_add] at a2
      obtain ⟨held', hb', count', cells', out', prod', g1, g2, g3⟩ := u_wtok hN ht htok hn1 hn1b hn2 hn2b hC hD hLs hDs m k (i + 1) (T + L (Df i)) h1 b9 c9 ou ce pr (by omega) (by omega) a3 (by omega)
      refine ⟨held', hb', count', cells', out', prod', ?_, fun kk => ?_, ?_⟩
      · rw [fPacker_writeTokens_11, if_neg (show ¬ nI t ≤ nI i from nI_ge (by omega) (by omega)), if_pos hin1, nI_clamp (show i < 2 ^ 31 by omega), o2, c1, c2, if_pos rfl, if_pos (nI_in (show Df i < n1 by omega) (by omega)), if_pos (nI_in (show Df i < n1 by omega) (by omega)), nI_clamp (show Df i < 2 ^ 31 by omega), a1, Option.bind_some, nI_1]
        exact g1
      · rw [show m + 1 + kk = (m + kk) + 1 by omega, fMo_writeTokens_35, if_neg (show ¬ nI (t + 1) ≤ nI i from nI_ge (by omega) (by omega)), if_pos hin2, nI_clamp (show i < 2 ^ 31 by omega), o3, m1, Option.bind_some, if_pos (show bI false = 0 from rfl), m2, if_pos (nI_in (show Df i < 320 by omega) (by omega)), if_pos (nI_in (show Df i < 320 by omega) (by omega)), nI_clamp (show Df i < 2 ^ 31 by omega), a2, Option.bind_some, nI_1]
        exact g2 kk
      · rw [← Nat.add_assoc]
        exact g3
    · obtain ⟨c1, c2, c3, c4, c5, c6⟩ := cTok_match o1 h0
      obtain ⟨m1, m2, m3⟩ := mTok_match (N := N) o1 h0
      have es : sy Lf Df i = 257 + lS (Lf i) := if_neg h0
      have et : tkb Lf Df L D i = L (257 + lS (Lf i)) + (lb (lS (Lf i)) + D (dS (Df i)) + db (dS (Df i))) := by rw [tkb, sy, if_neg h0, if_neg h0]
      rw [es] at hL1
      rw [et] at hT ⊢
      have hD1 := hDs i (by omega) h0
      obtain ⟨p1, p2⟩ := lS_rest c3 c4
      obtain ⟨p3, p4⟩ := dS_rest c5 c6
      have p5 := (lS_ok c3 c4).1
      have p6 := (dS_ok c5).1
      obtain ⟨t1, t2, t3, t4, t5, t6, t7⟩ := len_ok (lS (Lf i)) p5
      obtain ⟨s1, s2, s3, s4, s5, s6, s7⟩ := dst_ok (dS (Df i)) p6
      obtain ⟨h1, b9, c9, ce, ou, pr, a1, a2, a3⟩ := WR_sym (N := N) (by omega) hC (show 257 + lS (Lf i) < n1 by omega) hL1 h (by omega)
      rw [Nat.zero_add] at a2
      obtain ⟨h2, b10, c10, ce2, ou2, pr2, a4, a5, a6⟩ := WR_loN (N := N) (by omega) a3 (show lb (lS (Lf i)) ≤ 16 by omega) (by omega) p2
      obtain ⟨h3, b11, c11, ce3, ou3, pr3, a7, a8, a9⟩ := WR_sym (N := N) (by omega) hD (show dS (Df i) < n2 by omega) hD1 a6 (by omega)
      obtain ⟨h4, b12, c12, ce4, ou4, pr4, a10, a11, a12⟩ := WR_loN (N := N) (by omega) a9 (show db (dS (Df i)) ≤ 16 by omega) (by omega) p4
      obtain ⟨held', hb', count', cells', out', prod', g1, g2, g3⟩ := u_wtok hN ht htok hn1 hn1b hn2 hn2b hC hD hLs hDs m k (i + 1) _ h4 b12 c12 ou4 ce4 pr4 (by omega) (by omega) a12 (by omega)
      refine ⟨held', hb', count', cells', out', prod', ?_, fun kk => ?_, ?_⟩
      · have hwm : fPacker_writeMatch N (nI (Lf i)) (nI (Df i)) n1 b1 n1 l1 held hb count cells n2 b2 n2 l2 = some (h4, b12, c12, ce4) := by
          rw [fPacker_writeMatch, s_lna_len (by omega) c3 c4, Option.bind_some, show (257 : Int32) + nI (lS (Lf i)) = nI (257 + lS (Lf i)) from nI_add 257 _, if_pos (nI_in (show 257 + lS (Lf i) < n1 by omega) (by omega)), if_pos (nI_in (show 257 + lS (Lf i) < n1 by omega) (by omega)), nI_clamp (show 257 + lS (Lf i) < 2 ^ 31 by omega), a1, Option.bind_some, if_pos (nI_in (show lS (Lf i) < 29 by omega) (by omega)), if_pos (nI_in (show lS (Lf i) < 29 by omega) (by omega)), nI_clamp (show lS (Lf i) < 2 ^ 31 by omega), t1, t2, nI_sub p1, a4, Option.bind_some, s_lna_dst (by omega) c5 c6, Option.bind_some, if_pos (nI_in (show dS (Df i) < n2 by omega) (by omega)), if_pos (nI_in (show dS (Df i) < n2 by omega) (by omega)), nI_clamp (show dS (Df i) < 2 ^ 31 by omega), a7, Option.bind_some, if_pos (nin (show dS (Df i) < 30 by omega) (by omega)), if_pos (nin (show dS (Df i) < 30 by omega) (by omega)), s1, s2, nI_sub p3, a10]
          rfl
        rw [fPacker_writeTokens_11, if_neg (show ¬ nI t ≤ nI i from nI_ge (by omega) (by omega)), if_pos hin1, nI_clamp (show i < 2 ^ 31 by omega), o2, c1, c2, if_neg (show ¬ nI (Df i) = (0 : Int32) by rw [show (0 : Int32) = nI 0 from rfl, nI_eq (by omega) (by omega)]; omega), hwm, Option.bind_some, nI_1]
        exact g1
      · rw [show m + 1 + kk = (m + kk) + 1 by omega, fMo_writeTokens_35, if_neg (show ¬ nI (t + 1) ≤ nI i from nI_ge (by omega) (by omega)), if_pos hin2, nI_clamp (show i < 2 ^ 31 by omega), o3, m1, Option.bind_some, if_neg (show ¬ bI true = 0 by decide), m2, Option.bind_some, s_symbolOf (by omega) c3 c4, Option.bind_some, m3, Option.bind_some, s_symbolOfD (by omega) c5 c6, Option.bind_some, show (257 : Int32) + nI (lS (Lf i)) = nI (257 + lS (Lf i)) from nI_add 257 _, if_pos (nI_in (show 257 + lS (Lf i) < 320 by omega) (by omega)), if_pos (nI_in (show 257 + lS (Lf i) < 320 by omega) (by omega)), nI_clamp (show 257 + lS (Lf i) < 2 ^ 31 by omega), a2, Option.bind_some, Option.bind_some, s_lengthOf p5, Option.bind_some, s_moreOf p5, Option.bind_some, nI_sub p1, a5, Option.bind_some, show (288 : Int32) + nI (dS (Df i)) = nI (288 + dS (Df i)) from nI_add 288 _, if_pos (nI_in (show 288 + dS (Df i) < 320 by omega) (by omega)), if_pos (nI_in (show 288 + dS (Df i) < 320 by omega) (by omega)), nI_clamp (show 288 + dS (Df i) < 2 ^ 31 by omega), a8, Option.bind_some, Option.bind_some, s_distanceOf p6, Option.bind_some, s_moreOfD p6, Option.bind_some, nI_sub p3, a11, Option.bind_some, nI_1]
        exact g2 kk
      · have ee : T + (L (257 + lS (Lf i)) + (lb (lS (Lf i)) + D (dS (Df i)) + db (dS (Df i))) + sumL (tkb Lf Df L D) (i + 1) m) = T + L (257 + lS (Lf i)) + lb (lS (Lf i)) + D (dS (Df i)) + db (dS (Df i)) + sumL (tkb Lf Df L D) (i + 1) m := by omega
        rw [ee]
        exact g3
