/-! Reading: a block, and the stream. -/
theorem tk3 (f : Nat → Int32) (p : Nat) : tk f p 3 % 2 = tk f p 1 ∧ tk f p 3 / 2 = tk f (p + 1) 2 ∧ tk f p 1 < 2 ∧ tk f (p + 1) 2 < 4 := by
  have h1 := tk_add f p 1 2
  have l1 := tk_lt f p 1
  have l2 := tk_lt f (p + 1) 2
  rw [show (1 + 2 : Nat) = 3 from rfl] at h1
  omega
theorem bI_last (b : Nat) (h : b < 2) : bI (if nI b = (1 : Int32) then true else false) = nI b := by
  rcases (show b = 0 ∨ b = 1 by omega) with e | e <;> subst e <;> rfl
theorem ite_last (b : Nat) (h : b < 2) : (if nI b = (1 : Int32) then (1 : Int32) else (0 : Int32)) = nI b := by
  rcases (show b = 0 ∨ b = 1 by omega) with e | e <;> subst e <;> rfl
theorem u_block {N n lim pos made : Nat} {f g to fr rp P S Q R cl lcP lcS lcT len oP oS oT dP dS dT few M S2 line lens : Nat → Int32} {codes dcodes lcc lcl oc ol dc0 dl f0 p0 last : Int32} (hN : 600000 ≤ N) (hn : n ≤ 65536) (hlim : lim ≤ 65536) (hfg : rowEq n f g) (hC : tabC (cnt FL 288) (symT FL 288) codes P S) (hD : tabC (cnt FD 32) (symT FD 32) dcodes Q R) (hp : pos ≤ 8 * n) (hmade : made ≤ lim) (hto : rowEq made to fr) :
    ∃ x, fUnpacker_readBlock N (nI lim) last (nI pos) (nI n) f (nI made) to rp codes P S dcodes Q R cl lcc lcl lcP lcS lcT len oc ol oP oS oT dc0 dl dP dS dT = some x ∧
      ((x.1 = true ∧ ∃ p m b few' M' S' line' lens' fr', pos < p ∧ p ≤ 8 * n ∧ m ≤ lim ∧ b < 2 ∧ x.2.1 = nI b ∧ x.2.2.1 = nI p ∧ x.2.2.2.1 = nI m ∧ rowEq m x.2.2.2.2.1 fr' ∧ ∀ k, fMo_readBlocks_2 N (nI (8 * n)) (nI lim) g (k + 1) 0 (nI pos) f0 p0 (nI made) few M S2 line lens fr = fMo_readBlocks_2 N (nI (8 * n)) (nI lim) g k (nI b) (nI p) f0 p0 (nI m) few' M' S' line' lens' fr') ∨
      (x.1 = false ∧ ∃ fl q, repW x.2.2.2.2.2.1 fl q ∧ ∀ k, ∃ Y, fMo_readBlocks_2 N (nI (8 * n)) (nI lim) g (k + 1) 0 (nI pos) f0 p0 (nI made) few M S2 line lens fr = some (.inr Y) ∧ Y.1 = true ∧ Y.2.2.1 = fl ∧ Y.2.2.2.1 = q)) := by
  by_cases h3 : pos + 3 ≤ 8 * n
  · have ht := s_take (N := N) (by omega) f (p := pos) (bits := 3) (n := n) (by omega) hn h3
    have g1 := s_Mo_take (N := N) (by omega) g (p := pos) (bits := 1) (by omega) (by omega)
    have g2 := s_Mo_take (N := N) (by omega) g (p := pos + 1) (bits := 2) (by omega) (by omega)
    rw [← tk_eq hfg _ _ (by omega)] at g1 g2
    obtain ⟨k1, k2, k3, k4⟩ := tk3 f pos
    have l0 := tk_lt f pos 3
    generalize tk f pos 3 = z at *
    have a1 : nI z &&& (1 : Int32) = nI (tk f pos 1) := by rw [← k1]; exact pk_andN (by omega) 1 (by decide)
    have a2 : nI z >>> ((1 : Int32) &&& 31) = nI (tk f (pos + 1) 2) := by rw [← k2]; exact pk_shrN (by omega) ((1 : Int32) &&& 31) 1 (by decide)
    generalize tk f pos 1 = b at *
    generalize tk f (pos + 1) 2 = kd at *
    have ht' : fBitSource_take N (3 : Int32) (nI pos) (nI n) f = some (nI z, nI (pos + 3)) := ht
    have g1' : fMo_take N (1 : Int32) (nI pos) g = some (nI b, nI (pos + 1)) := g1
    have g2' : fMo_take N (2 : Int32) (nI (pos + 1)) g = some (nI kd, nI (pos + 3)) := g2
    have hm1 : ¬ nI z = (-1 : Int32) := nI_ne_neg1 (by omega)
    have c3 : nI pos + (3 : Int32) = nI (pos + 3) := nI_add pos 3
    have c3' : nI (pos + 3) ≤ nI (8 * n) := nI_le h3 (by omega)
    have href : ∀ k, fMo_readBlocks_2 N (nI (8 * n)) (nI lim) g (k + 1) 0 (nI pos) f0 p0 (nI made) few M S2 line lens fr = (if nI kd = (3 : Int32) then
              (fMo_wrong N (2 : Int32) (nI pos)).bind (fun y22 =>
                some (.inr (y22.1, nI (pos + 3), y22.2.1, y22.2.2, nI made, few, M, S2, line, lens, fr)))
            else
              if nI kd = 0 then
                (fMo_readStored N (nI (pos + 3)) (nI (8 * n)) f0 p0 (nI made) (nI lim) g fr).bind (fun y20 =>
                  if (bI y20.1) = 0 then
                    fMo_readBlocks_2 N (nI (8 * n)) (nI lim) g k (nI b) y20.2.1 y20.2.2.1 y20.2.2.2.1 y20.2.2.2.2.1 few M S2 line lens y20.2.2.2.2.2
                  else
                    some (.inr (true, y20.2.1, y20.2.2.1, y20.2.2.2.1, y20.2.2.2.2.1, few, M, S2, line, lens, y20.2.2.2.2.2)))
              else
                if nI kd = (1 : Int32) then
                  (fMo_setFixed N lens).bind (fun y15 =>
                    (fMo_sort N (0 : Int32) (288 : Int32) (0 : Int32) M 320 y15 S2).bind (fun y16 =>
                      (fMo_sort N (288 : Int32) (32 : Int32) (1 : Int32) y16.1 320 y15 y16.2).bind (fun y17 =>
                        (fMo_readTokens N (nI (pos + 3)) (nI (8 * n)) f0 p0 (nI made) (nI lim) y17.1 g y17.2 fr).bind (fun y18 =>
                          if (bI y18.1) = 0 then
                            fMo_readBlocks_2 N (nI (8 * n)) (nI lim) g k (nI b) y18.2.1 y18.2.2.1 y18.2.2.2.1 y18.2.2.2.2.1 few y17.1 y17.2 line y15 y18.2.2.2.2.2
                          else
                            some (.inr (true, y18.2.1, y18.2.2.1, y18.2.2.2.1, y18.2.2.2.2.1, few, y17.1, y17.2, line, y15, y18.2.2.2.2.2))))))
                else
                  (fMo_readOwn N (nI (pos + 3)) (nI (8 * n)) f0 p0 g few M S2 line lens).bind (fun y11 =>
                    if (bI y11.1) = 0 then
                      (fMo_readTokens N y11.2.1 (nI (8 * n)) y11.2.2.1 y11.2.2.2.1 (nI made) (nI lim) y11.2.2.2.2.2.1 g y11.2.2.2.2.2.2.1 fr).bind (fun y13 =>
                        if (bI y13.1) = 0 then
                          fMo_readBlocks_2 N (nI (8 * n)) (nI lim) g k (nI b) y13.2.1 y13.2.2.1 y13.2.2.2.1 y13.2.2.2.2.1 y11.2.2.2.2.1 y11.2.2.2.2.2.1 y11.2.2.2.2.2.2.1 y11.2.2.2.2.2.2.2.1 y11.2.2.2.2.2.2.2.2 y13.2.2.2.2.2
                        else
                          some (.inr (true, y13.2.1, y13.2.2.1, y13.2.2.2.1, y13.2.2.2.2.1, y11.2.2.2.2.1, y11.2.2.2.2.2.1, y11.2.2.2.2.2.2.1, y11.2.2.2.2.2.2.2.1, y11.2.2.2.2.2.2.2.2, y13.2.2.2.2.2)))
                    else
                      some (.inr (true, y11.2.1, y11.2.2.1, y11.2.2.2.1, nI made, y11.2.2.2.2.1, y11.2.2.2.2.2.1, y11.2.2.2.2.2.2.1, y11.2.2.2.2.2.2.2.1, y11.2.2.2.2.2.2.2.2, fr)))) := by
      intro k
      rw [fMo_readBlocks_2, if_pos rfl, c3, if_pos c3', g1', Option.bind_some]
      dsimp only
      rw [g2', Option.bind_some]
      dsimp only
      rw [ite_last b k3]
    rw [fUnpacker_readBlock, ht', Option.bind_some]
    dsimp only
    rw [if_neg hm1, a1, a2, bI_last b k3]
    have bt0 : ¬ bI true = 0 := by decide
    have bf0 : bI false = 0 := rfl
    by_cases q0 : kd = 0
    · subst q0
      obtain ⟨x, y, e1, e2, e3⟩ := u_stored (N := N) (n := n) (lim := lim) (made := made) (p := pos + 3) (f := f) (g := g) (to := to) (fr := fr) (rp := rp) (f0 := f0) (p0 := p0) (by omega) hn hlim h3 hmade hfg hto
      rw [if_pos (show nI 0 = (0 : Int32) from rfl), e1]
      refine ⟨_, rfl, ?_⟩
      have hr2 : ∀ k, fMo_readBlocks_2 N (nI (8 * n)) (nI lim) g (k + 1) 0 (nI pos) f0 p0 (nI made) few M S2 line lens fr = (if (bI y.1) = 0 then fMo_readBlocks_2 N (nI (8 * n)) (nI lim) g k (nI b) y.2.1 y.2.2.1 y.2.2.2.1 y.2.2.2.2.1 few M S2 line lens y.2.2.2.2.2 else some (.inr (true, y.2.1, y.2.2.1, y.2.2.2.1, y.2.2.2.2.1, few, M, S2, line, lens, y.2.2.2.2.2))) := by
        intro k
        rw [href, if_neg (by decide), if_pos (show nI 0 = (0 : Int32) from rfl), e2]
        rfl
      rcases e3 with ⟨b1, b2, p9, m9, b3, b4, b5, b6, b7, b8, b9, b10, b11, b12⟩ | ⟨b1, b2, b3⟩
      · refine Or.inl ⟨b1, p9, m9, b, few, M, S2, line, lens, y.2.2.2.2.2, by omega, b4, b5, k3, rfl, b6, b8, b10, ?_⟩
        intro k
        rw [hr2, b2, if_pos bf0, b7, b9, b11, b12]
      · refine Or.inr ⟨b1, _, _, b3, ?_⟩
        intro k
        rw [hr2, b2, if_neg bt0]
        exact ⟨_, rfl, rfl, rfl, rfl⟩
    · have q0' : ¬ nI kd = (0 : Int32) := by
        rw [show (0 : Int32) = nI 0 from rfl, nI_eq (by omega) (by omega)]
        exact q0
      rw [if_neg q0']
      by_cases q1 : kd = 1
      · subst q1
        obtain ⟨L2, M1, S1, M2, S3, t1, t2, t3, t4, t5⟩ := s_Mo_fixed (N := N) (by omega) M S2 lens
        obtain ⟨x, y, e1, e2, e3⟩ := u_tokens (N := N) (n := n) (lim := lim) (pos := pos + 3) (made := made) (f := f) (g := g) (rp := rp) (to := to) (fr := fr) (f0 := f0) (p0 := p0) hN hn hlim hfg rdy_fixed hC hD t4 t5 h3 hmade hto
        rw [if_pos (show nI 1 = (1 : Int32) from rfl), e1]
        refine ⟨_, rfl, ?_⟩
        have hr2 : ∀ k, fMo_readBlocks_2 N (nI (8 * n)) (nI lim) g (k + 1) 0 (nI pos) f0 p0 (nI made) few M S2 line lens fr = (if (bI y.1) = 0 then fMo_readBlocks_2 N (nI (8 * n)) (nI lim) g k (nI b) y.2.1 y.2.2.1 y.2.2.2.1 y.2.2.2.2.1 few M2 S3 line L2 y.2.2.2.2.2 else some (.inr (true, y.2.1, y.2.2.1, y.2.2.2.1, y.2.2.2.2.1, few, M2, S3, line, L2, y.2.2.2.2.2))) := by
          intro k
          rw [href, if_neg (by decide), if_neg (by decide), if_pos (show nI 1 = (1 : Int32) from rfl), t1, Option.bind_some]
          rw [show fMo_sort N (0 : Int32) (288 : Int32) (0 : Int32) M 320 L2 S2 = some (M1, S1) from t2, Option.bind_some]
          dsimp only
          rw [show fMo_sort N (288 : Int32) (32 : Int32) (1 : Int32) M1 320 L2 S1 = some (M2, S3) from t3, Option.bind_some]
          dsimp only
          rw [e2]
          rfl
        rcases e3 with ⟨b1, b2, p9, m9, b3, b4, b5, b6, b7, b8, b9, b10, b11, b12⟩ | ⟨b1, b2, b3⟩
        · refine Or.inl ⟨b1, p9, m9, b, few, M2, S3, line, L2, y.2.2.2.2.2, by omega, b4, b5, k3, rfl, b6, b8, b10, ?_⟩
          intro k
          rw [hr2, b2, if_pos bf0, b7, b9, b11, b12]
        · refine Or.inr ⟨b1, _, _, b3, ?_⟩
          intro k
          rw [hr2, b2, if_neg bt0]
          exact ⟨_, rfl, rfl, rfl, rfl⟩
      · have q1' : ¬ nI kd = (1 : Int32) := by
          rw [show (1 : Int32) = nI 1 from rfl, nI_eq (by omega) (by omega)]
          exact q1
        rw [if_neg q1']
        by_cases q2 : kd = 2
        · subst q2
          obtain ⟨x, y, e1, e2, e3⟩ := u_own (N := N) (n := n) (p := pos + 3) (f := f) (g := g) (rp := rp) (cl := cl) (lcP := lcP) (lcS := lcS) (lcT := lcT) (len := len) (oP := oP) (oS := oS) (oT := oT) (dP := dP) (dS := dS) (dT := dT) (few := few) (M := M) (S := S2) (line := line) (lens := lens) (lcc := lcc) (lcl := lcl) (oc := oc) (ol := ol) (dc0 := dc0) (dl := dl) (f0 := f0) (p0 := p0) (by omega) hn h3 hfg
          rw [if_pos (show nI 2 = (2 : Int32) from rfl), e1, Option.bind_some]
          have hr1 : ∀ k, fMo_readBlocks_2 N (nI (8 * n)) (nI lim) g (k + 1) 0 (nI pos) f0 p0 (nI made) few M S2 line lens fr = (if (bI y.1) = 0 then
                      (fMo_readTokens N y.2.1 (nI (8 * n)) y.2.2.1 y.2.2.2.1 (nI made) (nI lim) y.2.2.2.2.2.1 g y.2.2.2.2.2.2.1 fr).bind (fun y13 =>
                        if (bI y13.1) = 0 then
                          fMo_readBlocks_2 N (nI (8 * n)) (nI lim) g k (nI b) y13.2.1 y13.2.2.1 y13.2.2.2.1 y13.2.2.2.2.1 y.2.2.2.2.1 y.2.2.2.2.2.1 y.2.2.2.2.2.2.1 y.2.2.2.2.2.2.2.1 y.2.2.2.2.2.2.2.2 y13.2.2.2.2.2
                        else
                          some (.inr (true, y13.2.1, y13.2.2.1, y13.2.2.2.1, y13.2.2.2.2.1, y.2.2.2.2.1, y.2.2.2.2.2.1, y.2.2.2.2.2.2.1, y.2.2.2.2.2.2.2.1, y.2.2.2.2.2.2.2.2, y13.2.2.2.2.2)))
                    else
                      some (.inr (true, y.2.1, y.2.2.1, y.2.2.2.1, nI made, y.2.2.2.2.1, y.2.2.2.2.2.1, y.2.2.2.2.2.2.1, y.2.2.2.2.2.2.2.1, y.2.2.2.2.2.2.2.2, fr))) := by
            intro k
            rw [href, if_neg (by decide), if_neg (by decide), if_neg (by decide), e2]
            rfl
          rcases e3 with ⟨b1, b2, p9, c9, T9, d9, U9, b3, b4, b5, b6, b7, b8, b9, b10, b11, b12, b13⟩ | ⟨b1, b2, b3⟩
          · obtain ⟨x', y', v1, v2, v3⟩ := u_tokens (N := N) (n := n) (lim := lim) (pos := p9) (made := made) (f := f) (g := g) (rp := x.2.2.1) (to := to) (fr := fr) (f0 := f0) (p0 := p0) hN hn hlim hfg b9 b10 b11 b12 b13 b4 hmade hto
            rw [b1, if_neg bt0, b5, v1, Option.bind_some]
            refine ⟨_, rfl, ?_⟩
            have hr2 : ∀ k, fMo_readBlocks_2 N (nI (8 * n)) (nI lim) g (k + 1) 0 (nI pos) f0 p0 (nI made) few M S2 line lens fr = (if (bI y'.1) = 0 then fMo_readBlocks_2 N (nI (8 * n)) (nI lim) g k (nI b) y'.2.1 y'.2.2.1 y'.2.2.2.1 y'.2.2.2.2.1 y.2.2.2.2.1 y.2.2.2.2.2.1 y.2.2.2.2.2.2.1 y.2.2.2.2.2.2.2.1 y.2.2.2.2.2.2.2.2 y'.2.2.2.2.2 else some (.inr (true, y'.2.1, y'.2.2.1, y'.2.2.2.1, y'.2.2.2.2.1, y.2.2.2.2.1, y.2.2.2.2.2.1, y.2.2.2.2.2.2.1, y.2.2.2.2.2.2.2.1, y.2.2.2.2.2.2.2.2, y'.2.2.2.2.2))) := by
              intro k
              rw [hr1, b2, if_pos bf0, b6, b7, b8, v2]
              rfl
            rcases v3 with ⟨a1, a2, p8, m8, a3, a4, a5, a6, a7, a8, a9, a10, a11, a12⟩ | ⟨a1, a2, a3⟩
            · refine Or.inl ⟨?_, p8, m8, b, y.2.2.2.2.1, y.2.2.2.2.2.1, y.2.2.2.2.2.2.1, y.2.2.2.2.2.2.2.1, y.2.2.2.2.2.2.2.2, y'.2.2.2.2.2, by omega, a4, a5, k3, rfl, a6, a8, a10, ?_⟩
              · show (if bI x'.1 = 0 then false else true) = true
                rw [show x'.1 = true from a1]
                rfl
              · intro k
                rw [hr2, a2, if_pos bf0, a7, a9, a11, a12]
            · refine Or.inr ⟨?_, _, _, a3, ?_⟩
              · show (if bI x'.1 = 0 then false else true) = false
                rw [show x'.1 = false from a1]
                rfl
              · intro k
                rw [hr2, a2, if_neg bt0]
                exact ⟨_, rfl, rfl, rfl, rfl⟩
          · rw [b1, if_pos bf0]
            refine ⟨_, rfl, Or.inr ⟨rfl, _, _, b3, ?_⟩⟩
            intro k
            rw [hr1, b2, if_neg bt0]
            exact ⟨_, rfl, rfl, rfl, rfl⟩
        · have q3 : kd = 3 := by omega
          subst q3
          obtain ⟨r, w1, w2⟩ := s_wrong (N := N) 2 (nI pos) rp
          rw [if_neg (show ¬ nI 3 = (2 : Int32) by decide), w1]
          refine ⟨_, rfl, Or.inr ⟨rfl, _, _, w2, ?_⟩⟩
          intro k
          rw [href, if_pos (show nI 3 = (3 : Int32) from rfl)]
          exact ⟨_, rfl, rfl, rfl, rfl⟩
  · have ht := s_take_no (N := N) f (p := pos) (bits := 3) (n := n) (by omega) hn hp (by omega)
    obtain ⟨r, w1, w2⟩ := s_wrong (N := N) 1 (nI pos) rp
    have ht' : fBitSource_take N (3 : Int32) (nI pos) (nI n) f = some (-1, nI pos) := ht
    rw [fUnpacker_readBlock, ht', Option.bind_some, if_pos rfl, w1]
    refine ⟨_, rfl, Or.inr ⟨rfl, _, _, w2, ?_⟩⟩
    intro k
    have c3 : nI pos + (3 : Int32) = nI (pos + 3) := nI_add pos 3
    rw [fMo_readBlocks_2, if_pos rfl, c3, if_neg (by rw [nI_leI (by omega) (by omega)]; omega)]
    exact ⟨_, rfl, rfl, rfl, rfl⟩
