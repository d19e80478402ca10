/-! Reading: the symbols of a block. -/
/-- what the reference's loop of symbols comes to -/
def nrmT : ((Int32 × Int32 × Int32 × Int32 × (Nat → Int32)) ⊕ (Bool × Int32 × Int32 × Int32 × Int32 × (Nat → Int32))) → Bool × Int32 × Int32 × Int32 × Int32 × (Nat → Int32)
  | .inl y => (false, y.1, y.2.1, y.2.2.1, y.2.2.2.1, y.2.2.2.2)
  | .inr y => (y.1, y.2.1, y.2.2.1, y.2.2.2.1, y.2.2.2.2.1, y.2.2.2.2.2)
theorem stepR_le {n lim a b : Nat} {f0 p0 : Int32} {x : Bool × Int32 × Int32 × (Nat → Int32) × (Nat → Int32)} {y : Bool × Int32 × Int32 × Int32 × Int32 × (Nat → Int32)} (h : stepR n lim b f0 p0 x y) (hab : a ≤ b) : stepR n lim a f0 p0 x y := by
  rcases h with ⟨h1, h2, p, m, h3, h4⟩ | h
  · exact Or.inl ⟨h1, h2, p, m, by omega, h4⟩
  · exact Or.inr h
theorem u_tokens_loop {N n lim : Nat} {f g P S Q R M S2 : Nat → Int32} {c T d U : Nat → Nat} {codes dcodes f0 p0 : Int32} (hN : 600000 ≤ N) (hn : n ≤ 65536) (hlim : lim ≤ 65536) (hfg : rowEq n f g) (hr : rdy c T d U) (hC : tabC c T codes P S) (hD : tabC d U dcodes Q R) (hM : tabM c T 0 M S2) (hE : tabM d U 1 M S2) :
    ∀ (m k k' i pos made : Nat) (rp to fr : Nat → Int32), pos + m = 8 * n → m + 2 < k → m + 3 < k' → i ≤ pos → made ≤ lim → rowEq made to fr →
      ∃ x y, fUnpacker_readTokens_14 N (nI lim) (nI n) (nI (8 * n)) codes f P S dcodes Q R k (nI i) (nI pos) rp (nI made) to = some (.inr x) ∧ fMo_readTokens_2 N (nI (8 * n)) (nI lim) M g S2 k' (nI 1) (nI pos) f0 p0 (nI made) fr = some y ∧ stepR n lim pos f0 p0 (x.1, x.2.1, x.2.2.2.1, x.2.2.2.2, x.2.2.1) (nrmT y) := by
  obtain ⟨r1, r2, r3, r4, r5, r6⟩ := hr
  intro m
  induction m using Nat.strongRecOn with
  | _ m ih =>
    intro k k' i pos made rp to fr hm hk hk' hi hmade hto
    obtain ⟨k, rfl⟩ : ∃ j, k = j + 1 := ⟨k - 1, by omega⟩
    obtain ⟨k', rfl⟩ : ∃ j, k' = j + 1 := ⟨k' - 1, by omega⟩
    have hp : pos ≤ 8 * n := by omega
    have hd := s_decode (N := N) (f := f) (by omega) hn hp hC
    obtain ⟨q, hs⟩ := s_symbol (N := N) (f := g) (by omega) (show 0 ≤ 2 by omega) hn hp hM (by rw [at0]; simp; omega) r3
    rw [← dec_eq hfg c T (Nat.le_refl _) pos] at hs
    cases hdec : dec f c T (8 * n) pos with
    | none =>
      rw [hdec] at hs hd
      obtain ⟨r, w1, w2⟩ := s_wrong (N := N) (nI 1) (nI pos) rp
      have hd' : fDecoder_decode N codes (nI pos) (nI n) f P S = some (-nI 1, nI pos) := hd
      have hs' : fMo_symbol N (nI 0) (nI pos) (nI (8 * n)) M g S2 = some (-nI 1, q) := hs
      refine ⟨(false, nI pos, r, nI made, to), .inr (true, q, nI 1, nI pos, nI made, fr), ?_, ?_, Or.inr ⟨rfl, rfl, w2⟩⟩
      · rw [fUnpacker_readTokens_14]
        simp (disch := omega) only [nlit, nI_add, nI_mul, nI_sub, nI_leI, nI_ltI, nI_eq, nI_inI', nI_inI, nI_lt0', nI_lt0, nI_clamp, nI_div, nI_rem, nI_shl, nI_shr, upd_same, nI_eqm, nI_m1le, nI_m2le, nI_m1lt, nI_m2lt, nI_m2m1, eq_self, not_false_eq_true, not_true_eq_false, if_pos, if_neg, if_true, if_false, Option.bind_some, hd', w1, nI_m256]
      · rw [fMo_readTokens_2]
        simp (disch := omega) only [nlit, nI_add, nI_mul, nI_sub, nI_leI, nI_ltI, nI_eq, nI_inI', nI_inI, nI_lt0', nI_lt0, nI_clamp, nI_div, nI_rem, nI_shl, nI_shr, upd_same, nI_eqm, nI_m1le, nI_m2le, nI_m1lt, nI_m2lt, nI_m2m1, eq_self, not_false_eq_true, not_true_eq_false, if_pos, if_neg, if_true, if_false, Option.bind_some, hs', s_Mo_wrong]
    | some z =>
      cases z with
      | none =>
        rw [hdec] at hs hd
        obtain ⟨r, w1, w2⟩ := s_wrong (N := N) (nI 7) (nI pos) rp
        have hd' : fDecoder_decode N codes (nI pos) (nI n) f P S = some (-nI 2, nI pos) := hd
        have hs' : fMo_symbol N (nI 0) (nI pos) (nI (8 * n)) M g S2 = some (-nI 2, q) := hs
        refine ⟨(false, nI pos, r, nI made, to), .inr (true, q, nI 7, nI pos, nI made, fr), ?_, ?_, Or.inr ⟨rfl, rfl, w2⟩⟩
        · rw [fUnpacker_readTokens_14]
          simp (disch := omega) only [nlit, nI_add, nI_mul, nI_sub, nI_leI, nI_ltI, nI_eq, nI_inI', nI_inI, nI_lt0', nI_lt0, nI_clamp, nI_div, nI_rem, nI_shl, nI_shr, upd_same, nI_eqm, nI_m1le, nI_m2le, nI_m1lt, nI_m2lt, nI_m2m1, eq_self, not_false_eq_true, not_true_eq_false, if_pos, if_neg, if_true, if_false, Option.bind_some, hd', w1, nI_m256']
        · rw [fMo_readTokens_2]
          simp (disch := omega) only [nlit, nI_add, nI_mul, nI_sub, nI_leI, nI_ltI, nI_eq, nI_inI', nI_inI, nI_lt0', nI_lt0, nI_clamp, nI_div, nI_rem, nI_shl, nI_shr, upd_same, nI_eqm, nI_m1le, nI_m2le, nI_m1lt, nI_m2lt, nI_m2m1, eq_self, not_false_eq_true, not_true_eq_false, if_pos, if_neg, if_true, if_false, Option.bind_some, hs', s_Mo_wrong]
      | some sp =>
        obtain ⟨s, p1⟩ := sp
        rw [hdec] at hs hd
        obtain ⟨d1, d2, ii, d3, d4⟩ := dec_some hdec
        have hs288 := r5 ii d3
        rw [← d4] at hs288
        have hd' : fDecoder_decode N codes (nI pos) (nI n) f P S = some (nI s, nI p1) := hd
        have hs' : fMo_symbol N (nI 0) (nI pos) (nI (8 * n)) M g S2 = some (nI s, nI p1) := hs
        by_cases h256 : s = 256
        · obtain ⟨k', rfl⟩ : ∃ j, k' = j + 1 := ⟨k' - 1, by omega⟩
          refine ⟨(true, nI p1, rp, nI made, to), .inl (nI p1, f0, p0, nI made, fr), ?_, ?_, Or.inl ⟨rfl, rfl, p1, made, by omega, d2, hmade, rfl, rfl, rfl, rfl, hto, rfl, rfl⟩⟩
          · rw [fUnpacker_readTokens_14]
            simp (disch := omega) only [nlit, nI_add, nI_mul, nI_sub, nI_leI, nI_ltI, nI_eq, nI_inI', nI_inI, nI_lt0', nI_lt0, nI_clamp, nI_div, nI_rem, nI_shl, nI_shr, upd_same, nI_eqm, nI_m1le, nI_m2le, nI_m1lt, nI_m2lt, nI_m2m1, eq_self, not_false_eq_true, not_true_eq_false, if_pos, if_neg, if_true, if_false, Option.bind_some, hd']
          · rw [fMo_readTokens_2]
            simp (disch := omega) only [nlit, nI_add, nI_mul, nI_sub, nI_leI, nI_ltI, nI_eq, nI_inI', nI_inI, nI_lt0', nI_lt0, nI_clamp, nI_div, nI_rem, nI_shl, nI_shr, upd_same, nI_eqm, nI_m1le, nI_m2le, nI_m1lt, nI_m2lt, nI_m2m1, eq_self, not_false_eq_true, not_true_eq_false, if_pos, if_neg, if_true, if_false, Option.bind_some, hs']
            rw [fMo_readTokens_2]
            simp (disch := omega) only [nlit, nI_add, nI_mul, nI_sub, nI_leI, nI_ltI, nI_eq, nI_inI', nI_inI, nI_lt0', nI_lt0, nI_clamp, nI_div, nI_rem, nI_shl, nI_shr, upd_same, nI_eqm, nI_m1le, nI_m2le, nI_m1lt, nI_m2lt, nI_m2m1, eq_self, not_false_eq_true, not_true_eq_false, if_pos, if_neg, if_true, if_false, Option.bind_some]
        · by_cases h286 : 286 ≤ s
          · obtain ⟨r, w1, w2⟩ := s_wrong (N := N) (nI 7) (nI pos) rp
            refine ⟨(false, nI p1, r, nI made, to), .inr (true, nI p1, nI 7, nI pos, nI made, fr), ?_, ?_, Or.inr ⟨rfl, rfl, w2⟩⟩
            · rw [fUnpacker_readTokens_14]
              simp (disch := omega) only [nlit, nI_add, nI_mul, nI_sub, nI_leI, nI_ltI, nI_eq, nI_inI', nI_inI, nI_lt0', nI_lt0, nI_clamp, nI_div, nI_rem, nI_shl, nI_shr, upd_same, nI_eqm, nI_m1le, nI_m2le, nI_m1lt, nI_m2lt, nI_m2m1, eq_self, not_false_eq_true, not_true_eq_false, if_pos, if_neg, if_true, if_false, Option.bind_some, hd', w1]
            · rw [fMo_readTokens_2]
              simp (disch := omega) only [nlit, nI_add, nI_mul, nI_sub, nI_leI, nI_ltI, nI_eq, nI_inI', nI_inI, nI_lt0', nI_lt0, nI_clamp, nI_div, nI_rem, nI_shl, nI_shr, upd_same, nI_eqm, nI_m1le, nI_m2le, nI_m1lt, nI_m2lt, nI_m2m1, eq_self, not_false_eq_true, not_true_eq_false, if_pos, if_neg, if_true, if_false, Option.bind_some, hs', s_Mo_wrong]
          · by_cases hlit : s < 256
            · by_cases hfull : made = lim
              · obtain ⟨r, w1, w2⟩ := s_wrong (N := N) (nI 9) (nI pos) rp
                refine ⟨(false, nI p1, r, nI made, to), .inr (true, nI p1, nI 9, nI pos, nI made, fr), ?_, ?_, Or.inr ⟨rfl, rfl, w2⟩⟩
                · rw [fUnpacker_readTokens_14]
                  simp (disch := omega) only [nlit, nI_add, nI_mul, nI_sub, nI_leI, nI_ltI, nI_eq, nI_inI', nI_inI, nI_lt0', nI_lt0, nI_clamp, nI_div, nI_rem, nI_shl, nI_shr, upd_same, nI_eqm, nI_m1le, nI_m2le, nI_m1lt, nI_m2lt, nI_m2m1, eq_self, not_false_eq_true, not_true_eq_false, if_pos, if_neg, if_true, if_false, Option.bind_some, hd', w1]
                · rw [fMo_readTokens_2]
                  simp (disch := omega) only [nlit, nI_add, nI_mul, nI_sub, nI_leI, nI_ltI, nI_eq, nI_inI', nI_inI, nI_lt0', nI_lt0, nI_clamp, nI_div, nI_rem, nI_shl, nI_shr, upd_same, nI_eqm, nI_m1le, nI_m2le, nI_m1lt, nI_m2lt, nI_m2m1, eq_self, not_false_eq_true, not_true_eq_false, if_pos, if_neg, if_true, if_false, Option.bind_some, hs', s_Mo_wrong]
              · have hadd := s_Row_add (N := N) (p := nI s) (f := to) (n := made) (by omega)
                obtain ⟨x, y, e1, e2, e3⟩ := ih (8 * n - p1) (by omega) k k' (i + 1) p1 (made + 1) rp (upd to made (nI s).toInt8.toInt32) (upd fr made (nI s).toInt8.toInt32) (by omega) (by omega) (by omega) (by omega) (by omega) (hto.upd rfl)
                refine ⟨x, y, ?_, ?_, stepR_le e3 (by omega)⟩
                · rw [fUnpacker_readTokens_14]
                  simp (disch := omega) only [nlit, nI_add, nI_mul, nI_sub, nI_leI, nI_ltI, nI_eq, nI_inI', nI_inI, nI_lt0', nI_lt0, nI_clamp, nI_div, nI_rem, nI_shl, nI_shr, upd_same, nI_eqm, nI_m1le, nI_m2le, nI_m1lt, nI_m2lt, nI_m2m1, eq_self, not_false_eq_true, not_true_eq_false, if_pos, if_neg, if_true, if_false, Option.bind_some, hd', hadd]
                  exact e1
                · rw [fMo_readTokens_2]
                  simp (disch := omega) only [nlit, nI_add, nI_mul, nI_sub, nI_leI, nI_ltI, nI_eq, nI_inI', nI_inI, nI_lt0', nI_lt0, nI_clamp, nI_div, nI_rem, nI_shl, nI_shr, upd_same, nI_eqm, nI_m1le, nI_m2le, nI_m1lt, nI_m2lt, nI_m2m1, eq_self, not_false_eq_true, not_true_eq_false, if_pos, if_neg, if_true, if_false, Option.bind_some, hs']
                  exact e2
            · have h29 : s - 257 < 29 := by omega
              obtain ⟨t1, t2, t3, t4, t5, t6, t7⟩ := len_ok (s - 257) h29
              have t3' := s_moreOf (N := N) h29
              have t4' := s_lengthOf (N := N) h29
              have z1 : ¬ nI (8 * n) < nI i := nI_nlt (by omega) (by omega)
              have z2 : ¬ nI s = (256 : Int32) := by
                rw [show (256 : Int32) = nI 256 from rfl, nI_eq (by omega) (by omega)]
                exact h256
              have z3 : ¬ nI s = (-1 : Int32) := nI_ne_neg1 (by omega)
              have z4 : ¬ nI s < (0 : Int32) := nI_nlt (a := s) (b := 0) (by omega) (by omega)
              have z5 : nI s < (286 : Int32) := nI_lt (b := 286) (by omega) (by omega)
              have z6 : ¬ nI s ≤ (256 : Int32) := nI_ge (a := 256) (by omega) (by omega)
              have z7 : nI s - (257 : Int32) = nI (s - 257) := nI_sub (b := 257) (by omega)
              have z8 : ¬ nI 1 = (0 : Int32) := by decide
              have z9 : nI s ≤ (285 : Int32) := nI_le (b := 285) (by omega) (by omega)
              have z13 : ¬ (nI (s - 257) < 0 ∨ 29 ≤ s - 257) := by
                rw [nI_lt0 (by omega), false_or]
                omega
              have z10 : (256 : Int32) ≤ nI s := nI_le (a := 256) (by omega) (by omega)
              by_cases hbits : p1 + lb (s - 257) ≤ 8 * n
              · have z11 : nI (p1 + lb (s - 257)) ≤ nI (8 * n) := nI_le hbits (by omega)
                have ht := s_take (N := N) (by omega) f (p := p1) (bits := lb (s - 257)) (n := n) (by omega) hn hbits
                have ht2 := s_Mo_take (N := N) (by omega) g (p := p1) (bits := lb (s - 257)) (by omega) (by omega)
                rw [← tk_eq hfg _ _ hbits] at ht2
                have hlt := tk_lt f p1 (lb (s - 257))
                have hpw : 2 ^ lb (s - 257) ≤ 2 ^ 5 := Nat.pow_le_pow_right (by decide) t5
                generalize tk f p1 (lb (s - 257)) = v at *
                obtain ⟨x, y, e1, e2, e3⟩ := u_match (N := N) (n := n) (lim := lim) (made := made) (p := p1 + lb (s - 257)) (len := lf (s - 257) + v) (f := f) (g := g) (to := to) (fr := fr) (rp := rp) (f0 := f0) (p0 := p0) (by omega) hn hlim hbits hmade (by omega) hfg hto hD hE r2 r4 (fun s9 p9 h9 => by
                  obtain ⟨-, -, j9, h10, h11⟩ := dec_some h9
                  have := r6 j9 h10
                  omega)
                have hmt : fUnpacker_readMatch N (nI (s - 257)) (nI pos) (nI lim) (nI p1) (nI n) f dcodes Q R rp (nI made) to = some x := by
                  rw [fUnpacker_readMatch, nI_clamp (show s - 257 < 2 ^ 31 by omega), if_pos z13, t1, ht, Option.bind_some]
                  dsimp only
                  rw [if_neg (nI_ne_neg1 (show v < 2 ^ 31 by omega)), if_pos z13, t2, nI_add]
                  exact e1
                have hcl : fUnpacker_readTokens_14 N (nI lim) (nI n) (nI (8 * n)) codes f P S dcodes Q R (k + 1) (nI i) (nI pos) rp (nI made) to = (if (bI x.1) = 0 then some (.inr (false, x.2.1, x.2.2.1, x.2.2.2.1, x.2.2.2.2)) else fUnpacker_readTokens_14 N (nI lim) (nI n) (nI (8 * n)) codes f P S dcodes Q R k (nI (i + 1)) x.2.1 x.2.2.1 x.2.2.2.1 x.2.2.2.2) := by
                  rw [fUnpacker_readTokens_14, if_neg z1, hd', Option.bind_some]
                  dsimp only
                  rw [if_neg z2, if_neg z3, if_neg z4, if_pos z5, if_neg z6, z7, hmt, Option.bind_some, nI_1]
                have hrf : fMo_readTokens_2 N (nI (8 * n)) (nI lim) M g S2 (k' + 1) (nI 1) (nI pos) f0 p0 (nI made) fr = (if (bI y.1) = 0 then fMo_readTokens_2 N (nI (8 * n)) (nI lim) M g S2 k' (nI 1) y.2.1 y.2.2.1 y.2.2.2.1 y.2.2.2.2.1 y.2.2.2.2.2 else some (.inr (true, y.2.1, y.2.2.1, y.2.2.2.1, y.2.2.2.2.1, y.2.2.2.2.2))) := by
                  rw [fMo_readTokens_2, if_neg z8, show fMo_symbol N (0 : Int32) (nI pos) (nI (8 * n)) M g S2 = some (nI s, nI p1) from hs', Option.bind_some]
                  dsimp only
                  rw [if_neg z3, if_neg z4, if_pos z9, if_pos z10, if_neg z6, z7, t3', Option.bind_some, nI_add, if_pos z11, t4', Option.bind_some, ht2, Option.bind_some]
                  dsimp only
                  rw [nI_add, e2, Option.bind_some, if_neg z2]
                  rfl
                rw [hcl, hrf]
                rcases e3 with ⟨a1, a2, p9, m9, a3, a4, a5, a6, a7, a8, a9, a10, a11, a12⟩ | ⟨a1, a2, a3⟩
                · have b1 : ¬ bI x.1 = 0 := by rw [show x.1 = true from a1]; decide
                  have b2 : bI y.1 = 0 := by rw [a2]; rfl
                  rw [if_neg b1, if_pos b2, show x.2.1 = nI p9 from a6, show x.2.2.2.1 = nI m9 from a8, a7, a9, a11, a12]
                  obtain ⟨x2, y2, g1, g2, g3⟩ := ih (8 * n - p9) (by omega) k k' (i + 1) p9 m9 x.2.2.1 x.2.2.2.2 y.2.2.2.2.2 (by omega) (by omega) (by omega) (by omega) a5 a10
                  exact ⟨x2, y2, g1, g2, stepR_le g3 (by omega)⟩
                · have b1 : bI x.1 = 0 := by rw [show x.1 = false from a1]; rfl
                  have b2 : ¬ bI y.1 = 0 := by rw [a2]; decide
                  rw [if_pos b1, if_neg b2]
                  exact ⟨_, _, rfl, rfl, Or.inr ⟨rfl, rfl, a3⟩⟩
              · have ht := s_take_no (N := N) f (p := p1) (bits := lb (s - 257)) (n := n) (by omega) hn d2 (by omega)
                obtain ⟨r, w1, w2⟩ := s_wrong (N := N) (1 : Int32) (nI pos) rp
                have hmt : fUnpacker_readMatch N (nI (s - 257)) (nI pos) (nI lim) (nI p1) (nI n) f dcodes Q R rp (nI made) to = some (false, nI p1, r, nI made, to) := by
                  rw [fUnpacker_readMatch, nI_clamp (show s - 257 < 2 ^ 31 by omega), if_pos z13, t1, ht, Option.bind_some, if_pos rfl, w1]
                  rfl
                refine ⟨(false, nI p1, r, nI made, to), .inr (true, nI p1, nI 1, nI pos, nI made, fr), ?_, ?_, Or.inr ⟨rfl, rfl, w2⟩⟩
                · rw [fUnpacker_readTokens_14, if_neg z1, hd', Option.bind_some]
                  dsimp only
                  rw [if_neg z2, if_neg z3, if_neg z4, if_pos z5, if_neg z6, z7, hmt]
                  rfl
                · have z12 : ¬ nI (p1 + lb (s - 257)) ≤ nI (8 * n) := by rw [nI_leI (by omega) (by omega)]; omega
                  rw [fMo_readTokens_2, if_neg z8, show fMo_symbol N (0 : Int32) (nI pos) (nI (8 * n)) M g S2 = some (nI s, nI p1) from hs', Option.bind_some]
                  dsimp only
                  rw [if_neg z3, if_neg z4, if_pos z9, if_pos z10, if_neg z6, z7, t3', Option.bind_some, nI_add, if_neg z12]
                  rfl
theorem u_tokens {N n lim pos made : Nat} {f g P S Q R M S2 rp to fr : Nat → Int32} {c T d U : Nat → Nat} {codes dcodes f0 p0 : Int32} (hN : 600000 ≤ N) (hn : n ≤ 65536) (hlim : lim ≤ 65536) (hfg : rowEq n f g) (hr : rdy c T d U) (hC : tabC c T codes P S) (hD : tabC d U dcodes Q R) (hM : tabM c T 0 M S2) (hE : tabM d U 1 M S2) (hp : pos ≤ 8 * n) (hmade : made ≤ lim) (hto : rowEq made to fr) :
    ∃ x y, fUnpacker_readTokens N (nI lim) (nI n) (nI pos) codes f P S rp (nI made) to dcodes Q R = some x ∧ fMo_readTokens N (nI pos) (nI (8 * n)) f0 p0 (nI made) (nI lim) M g S2 fr = some y ∧ stepR n lim pos f0 p0 (x.1, x.2.1, x.2.2.2.1, x.2.2.2.2, x.2.2.1) y := by
  obtain ⟨x, y, e1, e2, e3⟩ := u_tokens_loop (f0 := f0) (p0 := p0) hN hn hlim hfg hr hC hD hM hE (8 * n - pos) N N 0 pos made rp to fr (by omega) (by omega) (by omega) (by omega) hmade hto
  refine ⟨x, nrmT y, ?_, ?_, e3⟩
  · rw [fUnpacker_readTokens, show nI n * (8 : Int32) = nI (8 * n) by rw [Nat.mul_comm]; exact pk_mul n 8]
    rw [show fUnpacker_readTokens_14 N (nI lim) (nI n) (nI (8 * n)) codes f P S dcodes Q R N (0 : Int32) (nI pos) rp (nI made) to = some (.inr x) from e1]
    rfl
  · rw [fMo_readTokens, show fMo_readTokens_2 N (nI (8 * n)) (nI lim) M g S2 N (1 : Int32) (nI pos) f0 p0 (nI made) fr = some y from e2]
    cases y <;> rfl
