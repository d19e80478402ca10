/-! Reading: symbols and matches. -/
def lbL : List Nat := [0, 0, 0, 0, 0, 0, 0, 0, 1, 1, 1, 1, 2, 2, 2, 2, 3, 3, 3, 3, 4, 4, 4, 4, 5, 5, 5, 5, 0]
def lfL : List Nat := [3, 4, 5, 6, 7, 8, 9, 10, 11, 13, 15, 17, 19, 23, 27, 31, 35, 43, 51, 59, 67, 83, 99, 115, 131, 163, 195, 227, 258]
def dbL : List Nat := [0, 0, 0, 0, 1, 1, 2, 2, 3, 3, 4, 4, 5, 5, 6, 6, 7, 7, 8, 8, 9, 9, 10, 10, 11, 11, 12, 12, 13, 13]
def dfL : List Nat := [1, 2, 3, 4, 5, 7, 9, 13, 17, 25, 33, 49, 65, 97, 129, 193, 257, 385, 513, 769, 1025, 1537, 2049, 3073, 4097, 6145, 8193, 12289, 16385, 24577]
def lb (i : Nat) : Nat := lbL.getD i 0
def lf (i : Nat) : Nat := lfL.getD i 0
def db (i : Nat) : Nat := dbL.getD i 0
def df (i : Nat) : Nat := dfL.getD i 0
theorem len_ok : ∀ i, i < 29 → S_LENGTH_BITS i = nI (lb i) ∧ S_LENGTH_FIRST i = nI (lf i) ∧ fMo_moreOf 0 (nI i) = some (nI (lb i)) ∧ fMo_lengthOf 0 (nI i) = some (nI (lf i)) ∧ lb i ≤ 5 ∧ 3 ≤ lf i ∧ lf i ≤ 258 := by decide +kernel
theorem dst_ok : ∀ i, i < 30 → S_DISTANCE_BITS i = nI (db i) ∧ S_DISTANCE_FIRST i = nI (df i) ∧ fMo_moreOfDistance 0 (nI i) = some (nI (db i)) ∧ fMo_distanceOf 0 (nI i) = some (nI (df i)) ∧ db i ≤ 13 ∧ 1 ≤ df i ∧ df i ≤ 24577 := by decide +kernel
theorem s_moreOf {N i : Nat} (h : i < 29) : fMo_moreOf N (nI i) = some (nI (lb i)) := (len_ok i h).2.2.1
theorem s_lengthOf {N i : Nat} (h : i < 29) : fMo_lengthOf N (nI i) = some (nI (lf i)) := (len_ok i h).2.2.2.1
theorem s_moreOfD {N i : Nat} (h : i < 30) : fMo_moreOfDistance N (nI i) = some (nI (db i)) := (dst_ok i h).2.2.1
theorem s_distanceOf {N i : Nat} (h : i < 30) : fMo_distanceOf N (nI i) = some (nI (df i)) := (dst_ok i h).2.2.2.1
theorem match_again (N : Nat) (m c d : Int32) : ∀ (k : Nat) (i : Int32) (g : Nat → Int32), fMo_readMatch_122 N m c d k i g = fMo_again_57 N m d c k i g
  | 0, _, _ => rfl
  | k + 1, i, g => by
    rw [fMo_readMatch_122, fMo_again_57, match_again N m c d k]
theorem nI_m1z : (-1 : Int32) = -nI 1 := rfl
theorem nI_m2z : (-2 : Int32) = -nI 2 := rfl
/-- a match's distance and its copy, both sides -/
theorem u_match {N n lim made p len : Nat} {f g to fr rp Q R M S : Nat → Int32} {c T : Nat → Nat} {codes f0 p0 : Int32} (hN : 70000 ≤ N) (hn : n ≤ 65536) (hlim : lim ≤ 65536) (hp : p ≤ 8 * n) (hm : made ≤ lim) (hl : len ≤ 300) (hfg : rowEq n f g) (hto : rowEq made to fr) (hC : tabC c T codes Q R) (hM : tabM c T 1 M S) (hc : acc c 16 ≤ 32) (hone : acc c 16 = 1 → c 1 = 1) (hb : ∀ s p1, dec f c T (8 * n) p = some (some (s, p1)) → s < 2 ^ 20) :
    ∃ x y, (fUnpacker_readDistance N (nI p) codes (nI p) (nI n) f Q R rp).bind (fun y5 =>
              if (1 : Int32) ≤ y5.1 then
                if y5.1 ≤ nI made then
                  if nI len ≤ (nI lim - nI made) then
                    (fRow_repeat N y5.1 (nI len) (nI made) to).bind (fun y9 =>
                      some (true, y5.2.1, y5.2.2, y9.1, y9.2))
                  else
                    (fUnpacker_wrong N (9 : Int32) (nI p) y5.2.2).bind (fun y10 =>
                      some (y10.1, y5.2.1, y10.2, nI made, to))
                else
                  (fUnpacker_wrong N (8 : Int32) (nI p) y5.2.2).bind (fun y11 =>
                    some (y11.1, y5.2.1, y11.2, nI made, to))
              else
                some (false, y5.2.1, y5.2.2, nI made, to)) = some x ∧ fMo_readMatch N (nI len) (nI p) (nI (8 * n)) f0 p0 (nI made) (nI lim) M g S fr = some y ∧ stepR n lim p f0 p0 (x.1, x.2.1, x.2.2.2.1, x.2.2.2.2, x.2.2.1) y := by
  have hd := s_decode (N := N) (f := f) (by omega) hn hp hC
  obtain ⟨q, hs⟩ := s_symbol (N := N) (f := g) (by omega) (show 1 ≤ 2 by omega) hn hp hM (by rw [at0]; simp; omega) hone
  rw [← dec_eq hfg c T (Nat.le_refl _) p] at hs
  have h01 : ¬ (1 : Int32) ≤ 0 := by decide
  cases hdec : dec f c T (8 * n) p with
  | none =>
    rw [hdec] at hs hd
    obtain ⟨r, w1, w2⟩ := s_wrong (N := N) 1 (nI p) rp
    have hd' : fDecoder_decode N codes (nI p) (nI n) f Q R = some (-1, nI p) := hd
    have hs' : fMo_symbol N (1 : Int32) (nI p) (nI (8 * n)) M g S = some (-1, q) := hs
    rw [fUnpacker_readDistance, hd', fMo_readMatch, hs', Option.bind_some, Option.bind_some, if_pos rfl, if_pos rfl, w1]
    refine ⟨_, _, rfl, rfl, Or.inr ⟨rfl, rfl, w2⟩⟩
  | some z =>
    cases z with
    | none =>
      rw [hdec] at hs hd
      obtain ⟨r, w1, w2⟩ := s_wrong (N := N) (nI 7) (nI p) rp
      have hd' : fDecoder_decode N codes (nI p) (nI n) f Q R = some (-2, nI p) := hd
      have hs' : fMo_symbol N (1 : Int32) (nI p) (nI (8 * n)) M g S = some (-2, q) := hs
      have hrd : fUnpacker_readDistance N (nI p) codes (nI p) (nI n) f Q R rp = some (0, nI p, r) := by
        rw [fUnpacker_readDistance, hd']
        simp (disch := omega) only [nlit, nI_add, nI_mul, nI_sub, nI_leI, nI_ltI, nI_eq, nI_inI', nI_inI, nI_lt0', nI_lt0, nI_clamp, nI_div, nI_rem, nI_shl, nI_shr, upd_same, nI_eqm, nI_m1le, nI_m2le, nI_m1lt, nI_m2lt, nI_m2m1, eq_self, not_false_eq_true, not_true_eq_false, if_pos, if_neg, if_true, if_false, Option.bind_some, w1]
      have hrf : fMo_readMatch N (nI len) (nI p) (nI (8 * n)) f0 p0 (nI made) (nI lim) M g S fr = some (true, q, nI 7, nI p, nI made, fr) := by
        rw [fMo_readMatch, hs']
        simp (disch := omega) only [nlit, nI_add, nI_mul, nI_sub, nI_leI, nI_ltI, nI_eq, nI_inI', nI_inI, nI_lt0', nI_lt0, nI_clamp, nI_div, nI_rem, nI_shl, nI_shr, upd_same, nI_eqm, nI_m1le, nI_m2le, nI_m1lt, nI_m2lt, nI_m2m1, eq_self, not_false_eq_true, not_true_eq_false, if_pos, if_neg, if_true, if_false, Option.bind_some, s_Mo_wrong]
      rw [hrd, hrf]
      refine ⟨_, _, rfl, rfl, Or.inr ⟨rfl, rfl, w2⟩⟩
    | some sp =>
      obtain ⟨s, p1⟩ := sp
      rw [hdec] at hs hd
      obtain ⟨d1, d2, -⟩ := dec_some hdec
      have hd' : fDecoder_decode N codes (nI p) (nI n) f Q R = some (nI s, nI p1) := hd
      have hs' : fMo_symbol N (1 : Int32) (nI p) (nI (8 * n)) M g S = some (nI s, nI p1) := hs
      have hs288 : s < 2 ^ 20 := hb s p1 hdec
      by_cases h30 : s < 30
      · obtain ⟨t1, t2, t3, t4, t5, t6, t7⟩ := dst_ok s h30
        have t3' := s_moreOfD (N := N) h30
        have t4' := s_distanceOf (N := N) h30
        by_cases hbits : p1 + db s ≤ 8 * n
        · have ht := s_take (N := N) (by omega) f (p := p1) (bits := db s) (n := n) (by omega) hn hbits
          have ht2 := s_Mo_take (N := N) (by omega) g (p := p1) (bits := db s) (by omega) (by omega)
          rw [← tk_eq hfg _ _ hbits] at ht2
          have hlt := tk_lt f p1 (db s)
          have hpw : 2 ^ db s ≤ 2 ^ 13 := Nat.pow_le_pow_right (by decide) t5
          generalize tk f p1 (db s) = v at *
          have hrd : fUnpacker_readDistance N (nI p) codes (nI p) (nI n) f Q R rp = some (nI (df s + v), nI (p1 + db s), rp) := by
            rw [fUnpacker_readDistance, hd']
            simp (disch := omega) only [nlit, nI_add, nI_mul, nI_sub, nI_leI, nI_ltI, nI_eq, nI_inI', nI_inI, nI_lt0', nI_lt0, nI_clamp, nI_div, nI_rem, nI_shl, nI_shr, upd_same, nI_eqm, nI_m1le, nI_m2le, nI_m1lt, nI_m2lt, nI_m2m1, eq_self, not_false_eq_true, not_true_eq_false, if_pos, if_neg, if_true, if_false, Option.bind_some, t1, t2, ht]
          have k1 : (1 : Int32) ≤ nI (df s + v) := nI_le (a := 1) (by omega) (by omega)
          by_cases hfar : df s + v ≤ made
          · have k2 : nI (df s + v) ≤ nI made := nI_le hfar (by omega)
            by_cases hlm : made + len ≤ lim
            · obtain ⟨f', g', a1, a2, a3⟩ := again_same (N := N) (n := made) (d := df s + v) (c := len) (by omega) hfar (by omega) (by omega) hto
              rw [← match_again] at a2
              have hrf : fMo_readMatch N (nI len) (nI p) (nI (8 * n)) f0 p0 (nI made) (nI lim) M g S fr = some (false, nI (p1 + db s), f0, p0, nI (made + len), g') := by
                rw [fMo_readMatch, hs']
                simp (disch := omega) only [nlit, nI_add, nI_mul, nI_sub, nI_leI, nI_ltI, nI_eq, nI_inI', nI_inI, nI_lt0', nI_lt0, nI_clamp, nI_div, nI_rem, nI_shl, nI_shr, upd_same, nI_eqm, nI_m1le, nI_m2le, nI_m1lt, nI_m2lt, nI_m2m1, eq_self, not_false_eq_true, not_true_eq_false, if_pos, if_neg, if_true, if_false, Option.bind_some, t3', t4', ht2, show fMo_readMatch_122 N (nI made) (nI len) (nI (df s + v)) N (nI 0) fr = some g' from a2]
              have k3 : nI len ≤ nI lim - nI made := by rw [nI_sub hm, nI_leI (by omega) (by omega)]; omega
              rw [hrd, hrf, Option.bind_some]
              dsimp only
              rw [if_pos k1, if_pos k2, if_pos k3, a1]
              refine ⟨_, _, rfl, rfl, ?_⟩
              exact Or.inl ⟨rfl, rfl, p1 + db s, made + len, by omega, hbits, hlm, rfl, rfl, rfl, rfl, a3, rfl, rfl⟩
            · obtain ⟨r, w1, w2⟩ := s_wrong (N := N) (9 : Int32) (nI p) rp
              have hrf : fMo_readMatch N (nI len) (nI p) (nI (8 * n)) f0 p0 (nI made) (nI lim) M g S fr = some (true, nI (p1 + db s), nI 9, nI p, nI made, fr) := by
                rw [fMo_readMatch, hs']
                simp (disch := omega) only [nlit, nI_add, nI_mul, nI_sub, nI_leI, nI_ltI, nI_eq, nI_inI', nI_inI, nI_lt0', nI_lt0, nI_clamp, nI_div, nI_rem, nI_shl, nI_shr, upd_same, nI_eqm, nI_m1le, nI_m2le, nI_m1lt, nI_m2lt, nI_m2m1, eq_self, not_false_eq_true, not_true_eq_false, if_pos, if_neg, if_true, if_false, Option.bind_some, t3', t4', ht2, s_Mo_wrong]
              have k3 : ¬ nI len ≤ nI lim - nI made := by rw [nI_sub hm, nI_leI (by omega) (by omega)]; omega
              rw [hrd, hrf, Option.bind_some]
              dsimp only
              rw [if_pos k1, if_pos k2, if_neg k3, w1]
              refine ⟨_, _, rfl, rfl, ?_⟩
              exact Or.inr ⟨rfl, rfl, w2⟩
          · obtain ⟨r, w1, w2⟩ := s_wrong (N := N) (8 : Int32) (nI p) rp
            have k2 : ¬ nI (df s + v) ≤ nI made := by rw [nI_leI (by omega) (by omega)]; omega
            have hrf : fMo_readMatch N (nI len) (nI p) (nI (8 * n)) f0 p0 (nI made) (nI lim) M g S fr = some (true, nI (p1 + db s), nI 8, nI p, nI made, fr) := by
              rw [fMo_readMatch, hs']
              simp (disch := omega) only [nlit, nI_add, nI_mul, nI_sub, nI_leI, nI_ltI, nI_eq, nI_inI', nI_inI, nI_lt0', nI_lt0, nI_clamp, nI_div, nI_rem, nI_shl, nI_shr, upd_same, nI_eqm, nI_m1le, nI_m2le, nI_m1lt, nI_m2lt, nI_m2m1, eq_self, not_false_eq_true, not_true_eq_false, if_pos, if_neg, if_true, if_false, Option.bind_some, t3', t4', ht2, s_Mo_wrong]
            rw [hrd, hrf, Option.bind_some]
            dsimp only
            rw [if_pos k1, if_neg k2, w1]
            refine ⟨_, _, rfl, rfl, ?_⟩
            exact Or.inr ⟨rfl, rfl, w2⟩
        · have ht := s_take_no (N := N) f (p := p1) (bits := db s) (n := n) (by omega) hn d2 (by omega)
          obtain ⟨r, w1, w2⟩ := s_wrong (N := N) (nI 1) (nI p) rp
          have ht' : fBitSource_take N (nI (db s)) (nI p1) (nI n) f = some (-nI 1, nI p1) := ht
          have hrd : fUnpacker_readDistance N (nI p) codes (nI p) (nI n) f Q R rp = some (0, nI p1, r) := by
            rw [fUnpacker_readDistance, hd']
            simp (disch := omega) only [nlit, nI_add, nI_mul, nI_sub, nI_leI, nI_ltI, nI_eq, nI_inI', nI_inI, nI_lt0', nI_lt0, nI_clamp, nI_div, nI_rem, nI_shl, nI_shr, upd_same, nI_eqm, nI_m1le, nI_m2le, nI_m1lt, nI_m2lt, nI_m2m1, eq_self, not_false_eq_true, not_true_eq_false, if_pos, if_neg, if_true, if_false, Option.bind_some, t1, t2, ht', w1]
          have hrf : fMo_readMatch N (nI len) (nI p) (nI (8 * n)) f0 p0 (nI made) (nI lim) M g S fr = some (true, nI p1, nI 1, nI p, nI made, fr) := by
            rw [fMo_readMatch, hs']
            simp (disch := omega) only [nlit, nI_add, nI_mul, nI_sub, nI_leI, nI_ltI, nI_eq, nI_inI', nI_inI, nI_lt0', nI_lt0, nI_clamp, nI_div, nI_rem, nI_shl, nI_shr, upd_same, nI_eqm, nI_m1le, nI_m2le, nI_m1lt, nI_m2lt, nI_m2m1, eq_self, not_false_eq_true, not_true_eq_false, if_pos, if_neg, if_true, if_false, Option.bind_some, t3', t4', s_Mo_wrong]
          rw [hrd, hrf]
          refine ⟨_, _, rfl, rfl, Or.inr ⟨rfl, rfl, w2⟩⟩
      · obtain ⟨r, w1, w2⟩ := s_wrong (N := N) (nI 7) (nI p) rp
        have hrd : fUnpacker_readDistance N (nI p) codes (nI p) (nI n) f Q R rp = some (0, nI p1, r) := by
          rw [fUnpacker_readDistance, hd']
          simp (disch := omega) only [nlit, nI_add, nI_mul, nI_sub, nI_leI, nI_ltI, nI_eq, nI_inI', nI_inI, nI_lt0', nI_lt0, nI_clamp, nI_div, nI_rem, nI_shl, nI_shr, upd_same, nI_eqm, nI_m1le, nI_m2le, nI_m1lt, nI_m2lt, nI_m2m1, eq_self, not_false_eq_true, not_true_eq_false, if_pos, if_neg, if_true, if_false, Option.bind_some, w1]
        have hrf : fMo_readMatch N (nI len) (nI p) (nI (8 * n)) f0 p0 (nI made) (nI lim) M g S fr = some (true, nI p1, nI 7, nI p, nI made, fr) := by
          rw [fMo_readMatch, hs']
          simp (disch := omega) only [nlit, nI_add, nI_mul, nI_sub, nI_leI, nI_ltI, nI_eq, nI_inI', nI_inI, nI_lt0', nI_lt0, nI_clamp, nI_div, nI_rem, nI_shl, nI_shr, upd_same, nI_eqm, nI_m1le, nI_m2le, nI_m1lt, nI_m2lt, nI_m2m1, eq_self, not_false_eq_true, not_true_eq_false, if_pos, if_neg, if_true, if_false, Option.bind_some, s_Mo_wrong]
        rw [hrd, hrf]
        refine ⟨_, _, rfl, rfl, Or.inr ⟨rfl, rfl, w2⟩⟩
