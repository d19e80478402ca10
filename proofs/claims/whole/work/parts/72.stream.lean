/-! Reading: the stream whole, and unpack. -/
theorem u_stream {N n lim : Nat} {f g P S Q R : Nat → Int32} {codes dcodes f0 p0 : Int32} (hN : 600000 ≤ N) (hn : n ≤ 65536) (hlim : lim ≤ 65536) (hfg : rowEq n f g) (hC : tabC (cnt FL 288) (symT FL 288) codes P S) (hD : tabC (cnt FD 32) (symT FD 32) dcodes Q R) :
    ∀ (m k k' i pos made b : Nat) (to fr rp cl lcP lcS lcT len oP oS oT dP dS dT few M S2 line lens : Nat → Int32) (lcc lcl oc ol dc0 dl : Int32), pos + m = 8 * n → m + 3 < k → m + 3 < k' → i ≤ pos → made ≤ lim → b < 2 → rowEq made to fr →
      ∃ x y, fUnpacker_readStream_39 N (nI lim) (nI n) (nI (8 * n)) f codes P S dcodes Q R k (nI i) (nI b) (nI made) (nI pos) to rp cl lcc lcl lcP lcS lcT len oc ol oP oS oT dc0 dl dP dS dT = some x ∧ fMo_readBlocks_2 N (nI (8 * n)) (nI lim) g k' (nI b) (nI pos) f0 p0 (nI made) few M S2 line lens fr = some y ∧
        ((∃ X Y p9 m9, x = .inl X ∧ y = .inl Y ∧ p9 ≤ 8 * n ∧ m9 ≤ lim ∧ X.2.1 = nI m9 ∧ X.2.2.1 = nI p9 ∧ Y.1 = nI p9 ∧ Y.2.1 = f0 ∧ Y.2.2.1 = p0 ∧ Y.2.2.2.1 = nI m9 ∧ rowEq m9 X.2.2.2.1 Y.2.2.2.2.2.2.2.2.2) ∨
         (∃ X Y, x = .inr X ∧ y = .inr Y ∧ X.1 = false ∧ Y.1 = true ∧ repW X.2.2.2.2.2.1 Y.2.2.1 Y.2.2.2.1)) := by
  intro m
  induction m using Nat.strongRecOn with
  | _ m ih =>
    intro k k' i pos made b to fr rp cl lcP lcS lcT len oP oS oT dP dS dT few M S2 line lens lcc lcl oc ol dc0 dl hm hk hk' hi hmade hb hto
    obtain ⟨k, rfl⟩ : ∃ j, k = j + 1 := ⟨k - 1, by omega⟩
    obtain ⟨k', rfl⟩ : ∃ j, k' = j + 1 := ⟨k' - 1, by omega⟩
    have z1 : ¬ nI (8 * n) < nI i := nI_nlt (by omega) (by omega)
    rcases (show b = 0 ∨ b = 1 by omega) with rfl | rfl
    · obtain ⟨x, e1, e2⟩ := u_block (N := N) (n := n) (lim := lim) (pos := pos) (made := made) (f := f) (g := g) (to := to) (fr := fr) (rp := rp) (P := P) (S := S) (Q := Q) (R := R) (cl := cl) (lcP := lcP) (lcS := lcS) (lcT := lcT) (len := len) (oP := oP) (oS := oS) (oT := oT) (dP := dP) (dS := dS) (dT := dT) (few := few) (M := M) (S2 := S2) (line := line) (lens := lens) (codes := codes) (dcodes := dcodes) (lcc := lcc) (lcl := lcl) (oc := oc) (ol := ol) (dc0 := dc0) (dl := dl) (f0 := f0) (p0 := p0) (last := nI 0) hN hn hlim hfg hC hD (by omega) hmade hto
      have hcl : fUnpacker_readStream_39 N (nI lim) (nI n) (nI (8 * n)) f codes P S dcodes Q R (k + 1) (nI i) (nI 0) (nI made) (nI pos) to rp cl lcc lcl lcP lcS lcT len oc ol oP oS oT dc0 dl dP dS dT = (if (bI x.1) = 0 then
            some (.inr (false, x.2.1, x.2.2.2.1, x.2.2.1, x.2.2.2.2.1, x.2.2.2.2.2.1, x.2.2.2.2.2.2.1, x.2.2.2.2.2.2.2.1, x.2.2.2.2.2.2.2.2.1, x.2.2.2.2.2.2.2.2.2.1, x.2.2.2.2.2.2.2.2.2.2.1, x.2.2.2.2.2.2.2.2.2.2.2.1, x.2.2.2.2.2.2.2.2.2.2.2.2.1, x.2.2.2.2.2.2.2.2.2.2.2.2.2.1, x.2.2.2.2.2.2.2.2.2.2.2.2.2.2.1, x.2.2.2.2.2.2.2.2.2.2.2.2.2.2.2.1, x.2.2.2.2.2.2.2.2.2.2.2.2.2.2.2.2.1, x.2.2.2.2.2.2.2.2.2.2.2.2.2.2.2.2.2.1, x.2.2.2.2.2.2.2.2.2.2.2.2.2.2.2.2.2.2.1, x.2.2.2.2.2.2.2.2.2.2.2.2.2.2.2.2.2.2.2.1, x.2.2.2.2.2.2.2.2.2.2.2.2.2.2.2.2.2.2.2.2.1, x.2.2.2.2.2.2.2.2.2.2.2.2.2.2.2.2.2.2.2.2.2.1, x.2.2.2.2.2.2.2.2.2.2.2.2.2.2.2.2.2.2.2.2.2.2))
          else
            fUnpacker_readStream_39 N (nI lim) (nI n) (nI (8 * n)) f codes P S dcodes Q R k (nI (i + 1)) x.2.1 x.2.2.2.1 x.2.2.1 x.2.2.2.2.1 x.2.2.2.2.2.1 x.2.2.2.2.2.2.1 x.2.2.2.2.2.2.2.1 x.2.2.2.2.2.2.2.2.1 x.2.2.2.2.2.2.2.2.2.1 x.2.2.2.2.2.2.2.2.2.2.1 x.2.2.2.2.2.2.2.2.2.2.2.1 x.2.2.2.2.2.2.2.2.2.2.2.2.1 x.2.2.2.2.2.2.2.2.2.2.2.2.2.1 x.2.2.2.2.2.2.2.2.2.2.2.2.2.2.1 x.2.2.2.2.2.2.2.2.2.2.2.2.2.2.2.1 x.2.2.2.2.2.2.2.2.2.2.2.2.2.2.2.2.1 x.2.2.2.2.2.2.2.2.2.2.2.2.2.2.2.2.2.1 x.2.2.2.2.2.2.2.2.2.2.2.2.2.2.2.2.2.2.1 x.2.2.2.2.2.2.2.2.2.2.2.2.2.2.2.2.2.2.2.1 x.2.2.2.2.2.2.2.2.2.2.2.2.2.2.2.2.2.2.2.2.1 x.2.2.2.2.2.2.2.2.2.2.2.2.2.2.2.2.2.2.2.2.2.1 x.2.2.2.2.2.2.2.2.2.2.2.2.2.2.2.2.2.2.2.2.2.2) := by
        rw [fUnpacker_readStream_39, if_neg z1, if_pos (show nI 0 = (0 : Int32) from rfl), e1, Option.bind_some, nI_1]
      rcases e2 with ⟨b1, p9, m9, b9, few', M', S', line', lens', fr', b2, b3, b4, b5, b6, b7, b8, b10, b11⟩ | ⟨b1, fl, q, b2, b3⟩
      · have bt0 : ¬ bI true = 0 := by decide
        rw [hcl, b1, if_neg bt0, b6, b7, b8]
        rw [show nI 0 = (0 : Int32) from rfl, b11]
        exact ih (8 * n - p9) (by omega) k k' (i + 1) p9 m9 b9 _ fr' _ _ _ _ _ _ _ _ _ _ _ _ few' M' S' line' lens' _ _ _ _ _ _ (by omega) (by omega) (by omega) (by omega) b4 b5 b10
      · obtain ⟨Y, c1, c2, c3, c4⟩ := b3 k'
        rw [hcl, b1, if_pos (show bI false = 0 from rfl), show nI 0 = (0 : Int32) from rfl, c1]
        refine ⟨_, _, rfl, rfl, Or.inr ⟨_, Y, rfl, rfl, rfl, c2, ?_⟩⟩
        rw [c3, c4]
        exact b2
    · have z2 : ¬ nI 1 = (0 : Int32) := by decide
      rw [fUnpacker_readStream_39, if_neg z1, if_neg z2, fMo_readBlocks_2, if_neg z2]
      exact ⟨_, _, rfl, rfl, Or.inl ⟨_, _, pos, made, rfl, rfl, by omega, hmade, rfl, rfl, rfl, rfl, rfl, rfl, hto⟩⟩
