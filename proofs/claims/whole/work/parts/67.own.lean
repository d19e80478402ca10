/-! Reading: own codes, both sides, whole. -/
theorem u_own {N n p : Nat} {f g rp cl lcP lcS lcT len oP oS oT dP dS dT few M S line lens : Nat → Int32} {lcc lcl oc ol dc0 dl f0 p0 : Int32} (hN : 400 ≤ N) (hn : n ≤ 65536) (hp : p ≤ 8 * n) (hfg : rowEq n f g) :
    ∃ x y, fUnpacker_readOwnCodes N (nI p) (nI n) f rp cl lcc lcl lcP lcS lcT len oc ol oP oS oT dc0 dl dP dS dT = some x ∧ fMo_readOwn N (nI p) (nI (8 * n)) f0 p0 g few M S line lens = some y ∧ ownR n p f0 p0 x y := by
  by_cases h14 : p + 14 ≤ 8 * n
  · have ht := s_take (N := N) (by omega) f (p := p) (bits := 14) (n := n) (by omega) hn h14
    have g1 := s_Mo_take (N := N) (by omega) g (p := p) (bits := 5) (by omega) (by omega)
    have g2 := s_Mo_take (N := N) (by omega) g (p := p + 5) (bits := 5) (by omega) (by omega)
    have g3 := s_Mo_take (N := N) (by omega) g (p := p + 10) (bits := 4) (by omega) (by omega)
    rw [← tk_eq hfg _ _ (by omega)] at g1 g2 g3
    obtain ⟨k1, k2, k3⟩ := tk14 f p
    have l0 := tk_lt f p 14
    have l1 := tk_lt f p 5
    have l2 := tk_lt f (p + 5) 5
    have l3 := tk_lt f (p + 10) 4
    generalize tk f p 14 = z at *
    rw [← k1] at g1 l1
    rw [← k2] at g2 l2
    rw [← k3] at g3 l3
    have a1 : nI z &&& (31 : Int32) = nI (z % 32) := pk_andN (by omega) 5 (by decide)
    have a2 : (nI z >>> ((5 : Int32) &&& 31)) &&& (31 : Int32) = nI (z / 32 % 32) := by
      rw [pk_shrN (by omega) ((5 : Int32) &&& 31) 5 (by decide), pk_andN (by omega) 5 (by decide)]
    have a3 : nI z >>> ((10 : Int32) &&& 31) = nI (z / 1024) := pk_shrN (by omega) ((10 : Int32) &&& 31) 10 (by decide)
    generalize z % 32 = zs at *
    generalize z / 32 % 32 = zd at *
    generalize z / 1024 = zf at *
    rw [fUnpacker_readOwnCodes, show fBitSource_take N (14 : Int32) (nI p) (nI n) f = some (nI z, nI (p + 14)) from ht, Option.bind_some]
    rw [Mo_own_eq, show nI p + (14 : Int32) = nI (p + 14) from nI_add p 14, if_pos (nI_le h14 (by omega)), show fMo_take N (5 : Int32) (nI p) g = some (nI zs, nI (p + 5)) from g1, Option.bind_some]
    have hm1 : nI z ≠ (-1 : Int32) := by
      intro e
      rw [show (-1 : Int32) = -nI 1 from rfl, nI_eqm (by omega) (by omega) (by omega)] at e
      exact e
    have b1 : (nI z &&& (31 : Int32)) + (257 : Int32) = nI (zs + 257) := by rw [a1]; exact nI_add zs 257
    have b2 : ((nI z >>> ((5 : Int32) &&& 31)) &&& (31 : Int32)) + (1 : Int32) = nI (zd + 1) := by rw [a2]; exact nI_add zd 1
    have b3 : (nI z >>> ((10 : Int32) &&& 31)) + (4 : Int32) = nI (zf + 4) := by rw [a3]; exact nI_add zf 4
    have c1 : (257 : Int32) + nI zs = nI (zs + 257) := by rw [Nat.add_comm]; exact nI_add 257 zs
    have c2 : (1 : Int32) + nI zd = nI (zd + 1) := by rw [Nat.add_comm]; exact nI_add 1 zd
    have c3 : (4 : Int32) + nI zf = nI (zf + 4) := by rw [Nat.add_comm]; exact nI_add 4 zf
    have g2' : fMo_take N (5 : Int32) (nI (p + 5)) g = some (nI zd, nI (p + 10)) := g2
    have g3' : fMo_take N (4 : Int32) (nI (p + 10)) g = some (nI zf, nI (p + 14)) := g3
    simp only [if_neg hm1, b1, b2, b3, g2', g3', c1, c2, c3, Option.bind_some]
    obtain ⟨r4, w41, w42⟩ := s_wrong (N := N) 4 (nI p) rp
    by_cases hA : 286 < zs + 257
    · have hA' : (286 : Int32) < nI (zs + 257) := nI_lt (a := 286) hA (by omega)
      simp only [if_pos hA', w41, s_Mo_wrong, Option.bind_some]
      exact ⟨_, _, rfl, rfl, Or.inr ⟨rfl, rfl, w42⟩⟩
    · have hA' : ¬ (286 : Int32) < nI (zs + 257) := nI_nlt (a := 286) (by omega) (by omega)
      by_cases hB : zd + 1 ≤ 30
      · have hB' : nI (zd + 1) ≤ (30 : Int32) := nI_le (b := 30) hB (by omega)
        simp only [if_neg hA', if_pos hB']
        obtain ⟨q1, q2⟩ := s_readCodeLengths (N := N) (n := n) (p := p + 14) (few := zf + 4) (f := f) (cl := cl) (P := lcP) (st := lcS) (S := lcT) (rp := rp) (codes := lcc) (left := lcl) hN hn h14 (by omega)
        have c4 : nI (p + 14) + (3 : Int32) * nI (zf + 4) = nI (p + 14 + 3 * (zf + 4)) := by
          rw [show (3 : Int32) * nI (zf + 4) = nI (3 * (zf + 4)) from pk_mul 3 _, nI_add]
        simp only [c4]
        by_cases hC : p + 14 + 3 * (zf + 4) ≤ 8 * n
        · have hC' : nI (p + 14 + 3 * (zf + 4)) ≤ nI (8 * n) := nI_le hC (by omega)
          simp only [if_pos hC']
          obtain ⟨q3, q4⟩ := q2 hC
          obtain ⟨F', e1, e2⟩ := s_few (N := N) (g := g) (pos := p + 14) (few := zf + 4) (by omega) (by omega) (by omega) few
          have e2' : ∀ s, s < 19 → F' s = nI (clen f (p + 14) (zf + 4) s) := fun s hs => by rw [clen_eq hfg hC]; exact e2 s hs
          obtain ⟨M1, S1, m1, m2, m3, m4, m5⟩ := s_Mo_sort (N := N) (x2 := 0) (n := 19) (t := 2) (n_p1 := 19) (f := F') (L := clen f (p + 14) (zf + 4)) (by omega) (by omega) (by omega) (by omega) (by omega) (fun j hj => by rw [Nat.zero_add]; exact e2' j hj) (fun j hj => by have := clen_lt f (p + 14) (zf + 4) j; omega) (by rw [at0]; simp) M S
          have hu := s_used (N := N) (t := 2) (M := M1) (by omega) (by omega) m2
          have e1' : fMo_readOwn_104 N g (nI (zf + 4)) N (0 : Int32) (nI (p + 14)) few = some (nI (p + 14 + 3 * (zf + 4)), F') := e1
          have m1' : fMo_sort N (0 : Int32) (19 : Int32) (2 : Int32) M 19 F' S = some (M1, S1) := m1
          have hu' : fMo_used N (2 : Int32) M1 = some (nI (kra (cnt (clen f (p + 14) (zf + 4)) 19) 16)) := hu
          have hkl := kra_lt (L := clen f (p + 14) (zf + 4)) (n := 19) (by omega)
          simp only [e1', m1', hu', Option.bind_some]
          by_cases hD : kra (cnt (clen f (p + 14) (zf + 4)) 19) 16 = 32768
          · have hD' : nI (kra (cnt (clen f (p + 14) (zf + 4)) 19) 16) = (32768 : Int32) := by rw [hD]; rfl
            obtain ⟨cl', left', P', st', S', x1, x2⟩ := q4 hD
            simp only [x1, if_pos hD', Option.bind_some]
            have hbt : ¬ bI true = 0 := by decide
            simp only [if_neg hbt]
            have hM2 : tabM (cnt (clen f (p + 14) (zf + 4)) 19) (symT (clen f (p + 14) (zf + 4)) 19) 2 M1 S1 := tabM_of (m := 19) (Nat.le_refl _) (fun j h1 h2 => by omega) m2 m4
            have hacc := acc_le (clen f (p + 14) (zf + 4)) 16 19
            have hTT : ∀ i, i < acc (cnt (clen f (p + 14) (zf + 4)) 19) 16 → symT (clen f (p + 14) (zf + 4)) 19 i < 19 := fun i hi => (symT_spec hi).1
            generalize cnt (clen f (p + 14) (zf + 4)) 19 = c9 at *
            generalize symT (clen f (p + 14) (zf + 4)) 19 = T9 at *
            have hz1 : 257 ≤ zs + 257 := by omega
            have hz2 : zs + 257 ≤ 286 := by omega
            have hz3 : 1 ≤ zd + 1 := by omega
            have hq : p ≤ p + 14 + 3 * (zf + 4) := by omega
            generalize zs + 257 = sc at *
            generalize zd + 1 = dc at *
            generalize p + 14 + 3 * (zf + 4) = q at *
            rcases u_lengths (all := sc + dc) hN hn hfg x2 hM2 hacc hTT hD (by omega) (sc + dc) N N 0 q (nI q) (nI (p + 14)) rp len line (by omega) (by omega) (by omega) (by omega) hC (fun j hj => by omega) with ⟨st9, p9, len', line', v1, v2, v3, v4, v5⟩ | ⟨a, r, b, a', fl, qq, b', v4, v5, v6⟩
            · obtain ⟨L, D, w, hw, h256, ⟨P, st, S, Q, sq, R, t1, t2, t3, t4⟩, ⟨L1, L2, M2, S3, M3, S4, t5, t6, t7, t8, t9, t10, t11⟩⟩ := u_tables (N := N) (lens := lens) (M := M1) (S2 := S1) (P0 := oP) (st0 := oS) (S0 := oT) (P1 := dP) (st1 := dS) (S1 := dT) hN hz1 hz2 hz3 hB v3
              have kc := kra_lt (L := L) (n := sc) (by omega)
              have kd := kra_lt (L := D) (n := dc) (by omega)
              obtain ⟨z9, y1, y2⟩ := s_84 (N := N) (len := len') (P := P) (Q := Q) (c := cnt L sc) (d := cnt D dc) hw h256 (t3.2.2.1 1 (by omega) (by omega)) (t4.2.2.1 1 (by omega) (by omega)) kc kd
              have hcl : fUnpacker_readLengths N (nI sc) (nI dc) (nI q) (nI (acc c9 16)) (nI n) f P' S' rp len oc ol oP oS oT dc0 dl dP dS dT = if z9 = 0 then (fUnpacker_wrong N (6 : Int32) st9 rp).bind (fun y31 => some ((if (bI y31.1) = 0 then false else true), nI p9, y31.2, len', nI (acc (cnt L sc) 16), nI 32768 - nI (kra (cnt L sc) 16), P, st, S, nI (acc (cnt D dc) 16), nI 32768 - nI (kra (cnt D dc) 16), Q, sq, R)) else some (true, nI p9, rp, len', nI (acc (cnt L sc) 16), nI 32768 - nI (kra (cnt L sc) 16), P, st, S, nI (acc (cnt D dc) 16), nI 32768 - nI (kra (cnt D dc) 16), Q, sq, R) := by
                rw [fUnpacker_readLengths, nI_add]
                rw [show fUnpacker_readLengths_16 N (nI (sc + dc)) (nI (acc c9 16)) (nI n) f P' S' N (nI q) (0 : Int32) (nI q) rp len = some (.inl (st9, nI p9, rp, len')) from v4, Option.bind_some]
                show (fDecoder_learn N (0 : Int32) (nI sc) oP 316 len' oS oT).bind _ = _
                rw [show fDecoder_learn N (0 : Int32) (nI sc) oP 316 len' oS oT = _ from t1, Option.bind_some]
                show (fDecoder_learn N (nI sc) (nI dc) dP 316 len' dS dT).bind _ = _
                rw [t2, Option.bind_some]
                show (fUnpacker_readLengths_84 N len' (nI (acc (cnt L sc) 16)) (nI 32768 - nI (kra (cnt L sc) 16)) P (nI (acc (cnt D dc) 16)) (nI 32768 - nI (kra (cnt D dc) 16)) Q).bind _ = _
                rw [y1]
                rfl
              have hrf : own1 N (nI (8 * n)) f0 p0 (nI sc) (nI dc) (nI (p + 14)) g line lens (nI q, F') (M1, S1) = some (if 1 ≤ w ∧ tabOK (cnt L sc) ∧ (tabOK (cnt D dc) ∨ acc (cnt D dc) 16 = 0) then (false, nI p9, f0, p0, F', M3, S4, line', L2) else (true, nI p9, 6, st9, F', M3, S4, line', L2)) := by
                rw [own1, nI_add]
                show (fMo_readOwn_180 N (nI (8 * n)) g (nI (sc + dc)) M1 S1 N (nI (p + 14)) (nI 0) (nI q) line).bind _ = _
                rw [v5, Option.bind_some]
                show own2 N f0 p0 (nI sc) (nI dc) lens (st9, nI p9, line') (nI q, F') (M1, S1) = _
                rw [own2]
                show (fMo_readOwn_414 N (nI sc) line' N (nI 0) lens).bind _ = _
                rw [t5, Option.bind_some]
                show (fMo_readOwn_455 N (nI sc) (nI dc) line' N (nI 0) L1).bind _ = _
                rw [t6, Option.bind_some]
                show (fMo_sort N (nI 0) (nI 288) (nI 0) M1 320 L2 S1).bind _ = _
                rw [t7, Option.bind_some]
                show (fMo_sort N (nI 288) (nI 32) (nI 1) M2 320 L2 S3).bind _ = _
                rw [t8, Option.bind_some]
                show (fMo_readOwn_525 N M3).bind _ = _
                rw [s_525 (by omega) t9.1 kc.2, Option.bind_some]
                show (fMo_readOwn_551 N M3).bind _ = _
                rw [s_551 (by omega) t10.1 kd.2, Option.bind_some]
                exact s_own3 (y73 := (M3, S4)) (by omega) hw t11 t9.1 t10.1 kc kd
              rw [hcl, hrf]
              by_cases hgood : 1 ≤ w ∧ tabOK (cnt L sc) ∧ (tabOK (cnt D dc) ∨ acc (cnt D dc) 16 = 0)
              · have hz9 : ¬ z9 = 0 := fun h => (y2.mp h) hgood
                rw [if_neg hz9, if_pos hgood]
                refine ⟨_, _, rfl, rfl, ?_⟩
                refine Or.inl ⟨rfl, rfl, p9, cnt L sc, symT L sc, cnt D dc, symT D dc, by omega, v2, rfl, rfl, rfl, rfl, ?_, t3, t4, t9, t10⟩
                have ha := acc_le L 16 sc
                have hb := acc_le D 16 dc
                exact ⟨by omega, by omega, one_of (Or.inl hgood.2.1), one_of hgood.2.2, fun i hi => by have := (symT_spec hi).1; omega, fun i hi => by have := (symT_spec hi).1; omega⟩
              · have hz9 : z9 = 0 := y2.mpr hgood
                obtain ⟨r6, w61, w62⟩ := s_wrong (N := N) 6 st9 rp
                rw [if_pos hz9, if_neg hgood, w61]
                refine ⟨_, _, rfl, rfl, ?_⟩
                exact Or.inr ⟨rfl, rfl, w62⟩
            · have hcl : fUnpacker_readLengths N (nI sc) (nI dc) (nI q) (nI (acc c9 16)) (nI n) f P' S' rp len oc ol oP oS oT dc0 dl dP dS dT = some (false, a, r, b, oc, ol, oP, oS, oT, dc0, dl, dP, dS, dT) := by
                rw [fUnpacker_readLengths, nI_add]
                rw [show fUnpacker_readLengths_16 N (nI (sc + dc)) (nI (acc c9 16)) (nI n) f P' S' N (nI q) (0 : Int32) (nI q) rp len = some (.inr (false, a, r, b)) from v4]
                rfl
              have hrf : own1 N (nI (8 * n)) f0 p0 (nI sc) (nI dc) (nI (p + 14)) g line lens (nI q, F') (M1, S1) = some (true, a', fl, qq, F', M1, S1, b', lens) := by
                rw [own1, nI_add]
                show (fMo_readOwn_180 N (nI (8 * n)) g (nI (sc + dc)) M1 S1 N (nI (p + 14)) (nI 0) (nI q) line).bind _ = _
                rw [v5]
                rfl
              rw [hcl, hrf]
              refine ⟨_, _, rfl, rfl, ?_⟩
              exact Or.inr ⟨rfl, rfl, v6⟩
          · have hD' : ¬ nI (kra (cnt (clen f (p + 14) (zf + 4)) 19) 16) = (32768 : Int32) := by
              rw [show (32768 : Int32) = nI 32768 from rfl, nI_eq hkl.1 (by omega)]
              exact hD
            obtain ⟨x, x1, x2, x3⟩ := q3 hD
            simp only [x1, if_neg hD', s_Mo_wrong, Option.bind_some, x2, if_pos (show bI false = 0 from rfl)]
            exact ⟨_, _, rfl, rfl, Or.inr ⟨rfl, rfl, x3⟩⟩
        · have hC' : ¬ nI (p + 14 + 3 * (zf + 4)) ≤ nI (8 * n) := by rw [nI_leI (by omega) (by omega)]; omega
          obtain ⟨x, x1, x2, x3⟩ := q1 (by omega)
          simp only [if_neg hC', x1, s_Mo_wrong, Option.bind_some, x2, if_pos (show bI false = 0 from rfl)]
          exact ⟨_, _, rfl, rfl, Or.inr ⟨rfl, rfl, x3⟩⟩
      · have hB' : ¬ nI (zd + 1) ≤ (30 : Int32) := nI_ge (a := 30) (by omega) (by omega)
        simp only [if_neg hA', if_neg hB', w41, s_Mo_wrong, Option.bind_some]
        exact ⟨_, _, rfl, rfl, Or.inr ⟨rfl, rfl, w42⟩⟩
  · have ht := s_take_no (N := N) f (p := p) (bits := 14) (n := n) (by omega) hn hp (by omega)
    obtain ⟨r, w1, w2⟩ := s_wrong (N := N) 1 (nI p) rp
    refine ⟨(false, nI p, r, cl, lcc, lcl, lcP, lcS, lcT, len, oc, ol, oP, oS, oT, dc0, dl, dP, dS, dT), (true, nI p, 1, nI p, few, M, S, line, lens), ?_, ?_, Or.inr ⟨rfl, rfl, w2⟩⟩
    · rw [fUnpacker_readOwnCodes, show fBitSource_take N (14 : Int32) (nI p) (nI n) f = some (-1, nI p) from ht, Option.bind_some, if_pos rfl, w1]
      rfl
    · rw [Mo_own_eq, show nI p + (14 : Int32) = nI (p + 14) from nI_add p 14, if_neg (by rw [nI_leI (by omega) (by omega)]; omega)]
      rfl
