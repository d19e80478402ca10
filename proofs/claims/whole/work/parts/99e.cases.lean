/-! The law's cases, one by one, over the pure functions. -/
theorem i_nat {p : Int32} (h : ¬ p < 0) : ∃ m, m < 2 ^ 31 ∧ p = nI m := by
  have h0 : 0 ≤ p.toInt := Int.not_lt.mp (fun e => h (Int32.lt_iff_toInt_lt.mpr (show p.toInt < (0 : Int32).toInt from e)))
  have h1 := Int32.toInt_lt p
  refine ⟨p.toInt.toNat, by omega, ?_⟩
  apply Int32.toInt_inj.mp
  rw [nI_toInt (by omega)]
  omega
theorem sc_in {n_sc a : Nat} (hs : n_sc < 2 ^ 30) (ha : a + 6 ≤ n_sc) (j : Nat) (hj : j ≤ 5) : ¬ (nI a + nI j < 0 ∨ n_sc ≤ (nI a + nI j).toNatClampNeg) := by
  rw [nI_add]
  exact nI_in (by omega) (by omega)
theorem jus0 (p : Int32) : (jus p (nI 0)).toInt8 = p.toInt8 := bt8 (fun i hi => by rw [b_jus 0 (by omega), Nat.zero_add])
theorem s_addNum {N n : Nat} {p : Int32} {f : Nat → Int32} (h : n + 4 ≤ 65546) : ∃ F, fRow_addNumber N p (nI n) f = some (nI (n + 4), F) ∧ (∀ j, j < n → F j = f j) ∧ ∀ k, k < 4 → (F (n + k)).toInt8 = wByte p k := by
  refine ⟨_, s_Row_addNumber h, fun j hj => by rw [upd_ne (by omega), upd_ne (by omega), upd_ne (by omega), upd_ne (by omega)], fun k hk => ?_⟩
  rcases (show k = 0 ∨ k = 1 ∨ k = 2 ∨ k = 3 by omega) with e | e | e | e <;> subst e
  · rw [upd_ne (by omega), upd_ne (by omega), upd_ne (by omega)]
    rw [Nat.add_zero, upd_same, by8_id]; rfl
  · rw [upd_ne (by omega), upd_ne (by omega), upd_same, by8_id]; rfl
  · rw [upd_ne (by omega), upd_same, by8_id]; rfl
  · rw [upd_same, by8_id]
    exact (jus0 p).symm
theorem feed_same {N n : Nat} (a b c d e : Int32) {f g : Nat → Int32} (hN : 30 ≤ N) (hn : n + 20 ≤ 65536) (h0 : rowEq n f g) : ∃ F G, fPB_feed N a b c d e (nI n) f = some (.inl (nI (n + 20), F)) ∧ fMo_feed N a b c d e (nI n) g = some (0, nI (n + 20), G) ∧ rowEq (n + 20) F G := by
  obtain ⟨F1, a1, a2, a3⟩ := s_addNum (N := N) (n := n) (p := a) (f := f) (by omega)
  obtain ⟨F2, b1, b2, b3⟩ := s_addNum (N := N) (n := n + 4) (p := b) (f := F1) (by omega)
  obtain ⟨F3, c1, c2, c3⟩ := s_addNum (N := N) (n := n + 4 + 4) (p := c) (f := F2) (by omega)
  obtain ⟨F4, d1, d2, d3⟩ := s_addNum (N := N) (n := n + 4 + 4 + 4) (p := d) (f := F3) (by omega)
  obtain ⟨F5, e1, e2, e3⟩ := s_addNum (N := N) (n := n + 4 + 4 + 4 + 4) (p := e) (f := F4) (by omega)
  obtain ⟨G, g1, g2, g3⟩ := s_Mo_feed_32 (N := N) a b c d e (n := n) hn 20 N g (by omega) (by omega)
  have hle : nI n + (20 : Int32) ≤ (65536 : Int32) := by
    rw [show (20 : Int32) = nI 20 from rfl, nI_add]
    exact nI_le (b := 65536) hn (by omega)
  refine ⟨F5, G, ?_, ?_, fun j hj => ?_⟩
  · rw [fPB_feed, if_pos hle, a1, Option.bind_some, b1, Option.bind_some, c1, Option.bind_some, d1, Option.bind_some, e1, Option.bind_some]
  · rw [fMo_feed, if_pos hle, if_pos (show (0 : Int32) ≤ 0 by decide), show fMo_feed_32 N (nI n) a b c d e N (0 : Int32) g = some G from g1, Option.bind_some, show nI n + (20 : Int32) = nI (n + 20) from nI_add n 20]
  · by_cases q : j < n
    · rw [e2 j (by omega), d2 j (by omega), c2 j (by omega), b2 j (by omega), a2 j q, g2 j (by omega), h0 j q]
    · obtain ⟨i, rfl⟩ : ∃ i, j = n + i := ⟨j - n, by omega⟩
      rw [g3 i (by omega) (by omega), feedWord]
      by_cases q1 : i < 4
      · rw [if_pos q1, e2 _ (by omega), d2 _ (by omega), c2 _ (by omega), b2 _ (by omega), a3 i q1, show i % 4 = i by omega]
      · rw [if_neg q1]
        by_cases q2 : i < 8
        · rw [if_pos q2, e2 _ (by omega), d2 _ (by omega), c2 _ (by omega), show n + i = n + 4 + (i - 4) by omega, b3 _ (by omega), show i % 4 = i - 4 by omega]
        · rw [if_neg q2]
          by_cases q3 : i < 12
          · rw [if_pos q3, e2 _ (by omega), d2 _ (by omega), show n + i = n + 4 + 4 + (i - 8) by omega, c3 _ (by omega), show i % 4 = i - 8 by omega]
          · rw [if_neg q3]
            by_cases q4 : i < 16
            · rw [if_pos q4, e2 _ (by omega), show n + i = n + 4 + 4 + 4 + (i - 12) by omega, d3 _ (by omega), show i % 4 = i - 12 by omega]
            · rw [if_neg q4, show n + i = n + 4 + 4 + 4 + 4 + (i - 16) by omega, e3 _ (by omega), show i % 4 = i - 16 by omega]
theorem kk_112 {N n_sc a n : Nat} {f_sc f g : Nat → Int32} (hN : 70000 ≤ N) (hs : n_sc < 2 ^ 30) (ha : a + 6 ≤ n_sc) (hn : n ≤ 65536) (hfg : rowEq n f g) : ∃ o n', fLa_law_112 N n_sc f_sc (nI n) (nI a) (nI n) f g = some o ∧ n' ≤ 65536 ∧ o.2.1 = nI n' ∧ o.2.2.1 = nI n' ∧ rowEq n' o.2.2.2.1 o.2.2.2.2 := by
  have i1 : ¬ (nI a + (1 : Int32) < 0 ∨ n_sc ≤ (nI a + (1 : Int32)).toNatClampNeg) := sc_in hs ha 1 (by omega)
  have i2 : ¬ (nI a + (2 : Int32) < 0 ∨ n_sc ≤ (nI a + (2 : Int32)).toNatClampNeg) := sc_in hs ha 2 (by omega)
  have i3 : ¬ (nI a + (3 : Int32) < 0 ∨ n_sc ≤ (nI a + (3 : Int32)).toNatClampNeg) := sc_in hs ha 3 (by omega)
  have i4 : ¬ (nI a + (4 : Int32) < 0 ∨ n_sc ≤ (nI a + (4 : Int32)).toNatClampNeg) := sc_in hs ha 4 (by omega)
  have i5 : ¬ (nI a + (5 : Int32) < 0 ∨ n_sc ≤ (nI a + (5 : Int32)).toNatClampNeg) := sc_in hs ha 5 (by omega)
  rw [fLa_law_112, if_pos i1, if_pos i2, if_pos i3, if_pos i4, if_pos i5]
  generalize f_sc (nI a + (1 : Int32)).toNatClampNeg = p1
  generalize f_sc (nI a + (2 : Int32)).toNatClampNeg = p2
  generalize f_sc (nI a + (3 : Int32)).toNatClampNeg = p3
  generalize f_sc (nI a + (4 : Int32)).toNatClampNeg = p4
  generalize f_sc (nI a + (5 : Int32)).toNatClampNeg = p5
  by_cases q : n + 20 ≤ 65536
  · obtain ⟨F, G, b1, b2, b3⟩ := feed_same (N := N) p1 p2 p3 p4 p5 (by omega) q hfg
    rw [fLa_feed, b1, Option.bind_some, Sum.elim_inl, Option.bind_some, if_pos i1, if_pos i2, if_pos i3, if_pos i4, if_pos i5, b2, Option.bind_some, fMo_thrown, Option.bind_some, if_pos rfl]
    exact ⟨_, n + 20, rfl, q, rfl, rfl, b3⟩
  · have hle : ¬ nI n + (20 : Int32) ≤ (65536 : Int32) := by
      rw [show (20 : Int32) = nI 20 from rfl, nI_add]
      exact nI_ge (a := 65536) (show 65536 < n + 20 by omega) (by omega)
    rw [fLa_feed, fPB_feed, if_neg hle, Option.bind_some, Sum.elim_inr, if_pos rfl, Option.bind_some, if_pos i1, if_pos i2, if_pos i3, if_pos i4, if_pos i5, fMo_feed, if_neg hle, if_neg (show ¬ (1 : Int32) ≤ 0 by decide), Option.bind_some, fMo_thrown, Option.bind_some, if_pos rfl]
    exact ⟨_, n, rfl, hn, rfl, rfl, hfg⟩
theorem kk_196 {N n_sc a n : Nat} {f_sc f g : Nat → Int32} (hs : n_sc < 2 ^ 30) (ha : a + 6 ≤ n_sc) (hn : n ≤ 65536) (hfg : rowEq n f g) : ∃ o n', fLa_law_196 N n_sc f_sc (nI n) (nI a) (nI n) = some o ∧ n' ≤ 65536 ∧ o.2.1 = nI n' ∧ o.2.2 = nI n' ∧ rowEq n' f g := by
  have i1 : ¬ (nI a + (1 : Int32) < 0 ∨ n_sc ≤ (nI a + (1 : Int32)).toNatClampNeg) := sc_in hs ha 1 (by omega)
  rw [fLa_law_196, if_pos i1]
  generalize f_sc (nI a + (1 : Int32)).toNatClampNeg = p
  rw [fLa_end, fPB_end]
  by_cases q : p < 0
  · rw [if_pos q, Option.bind_some, Sum.elim_inr, if_pos rfl, Option.bind_some, if_pos i1, fMo_end, if_pos q, if_neg (show ¬ (1 : Int32) = 0 by decide), Option.bind_some, fMo_thrown, Option.bind_some, if_pos rfl]
    exact ⟨_, n, rfl, hn, rfl, rfl, hfg⟩
  · obtain ⟨m, hm, rfl⟩ := i_nat q
    rw [if_neg q]
    by_cases q2 : m ≤ n
    · rw [if_pos (nI_le q2 (by omega)), Option.bind_some, Sum.elim_inl, Option.bind_some, if_pos i1, fMo_end, if_neg q, if_pos (nI_le q2 (by omega)), if_pos (show (0 : Int32) = 0 from rfl), Option.bind_some, fMo_thrown, Option.bind_some, if_pos rfl]
      exact ⟨_, m, rfl, by omega, rfl, rfl, hfg.le q2⟩
    · rw [if_neg (nI_ge (show n < m by omega) (by omega)), Option.bind_some, Sum.elim_inr, if_pos rfl, Option.bind_some, if_pos i1, fMo_end, if_neg q, if_neg (nI_ge (show n < m by omega) (by omega)), if_neg (show ¬ (1 : Int32) = 0 by decide), Option.bind_some, fMo_thrown, Option.bind_some, if_pos rfl]
      exact ⟨_, n, rfl, hn, rfl, rfl, hfg⟩
theorem kk_280 {N n : Nat} : ∃ o, fLa_law_280 N (nI n) (nI n) = some o := ⟨_, by rw [fLa_law_280, fPB_length, Option.bind_some, fMo_length, Option.bind_some, if_pos rfl]⟩
theorem kk_614 {N n : Nat} : ∃ o, fLa_law_614 N (nI n) (nI n) = some o := ⟨_, by rw [fLa_law_614, fPB_size, Option.bind_some, fMo_size, Option.bind_some, if_pos rfl]⟩
theorem kk_683 {N n : Nat} {f g T : Nat → Int32} (hN : 70000 ≤ N) (hn : n ≤ 65536) (hfg : rowEq n f g) (hT : crcT T) : ∃ o, fLa_law_683 N (nI n) (nI n) f g T = some o := by
  obtain ⟨r, h1, h2⟩ := crc_same N hT hn (by omega) hfg
  exact ⟨_, by rw [fLa_law_683, h1, Option.bind_some, h2, Option.bind_some, if_pos (xlc_eq rfl)]⟩
theorem kk_232 {N n_sc a n : Nat} {f_sc f g : Nat → Int32} (hN : 70000 ≤ N) (hs : n_sc < 2 ^ 30) (ha : a + 6 ≤ n_sc) (hn : n ≤ 65536) (hfg : rowEq n f g) : ∃ o n', fLa_law_232 N n_sc f_sc (nI n) (nI a) (nI n) f g = some o ∧ n' ≤ 65536 ∧ o.2.1 = nI n' ∧ o.2.2.1 = nI n' ∧ rowEq n' o.2.2.2.1 o.2.2.2.2 := by
  have i1 : ¬ (nI a + (1 : Int32) < 0 ∨ n_sc ≤ (nI a + (1 : Int32)).toNatClampNeg) := sc_in hs ha 1 (by omega)
  have i2 : ¬ (nI a + (2 : Int32) < 0 ∨ n_sc ≤ (nI a + (2 : Int32)).toNatClampNeg) := sc_in hs ha 2 (by omega)
  rw [fLa_law_232, if_pos i1, if_pos i2]
  generalize f_sc (nI a + (1 : Int32)).toNatClampNeg = p1
  generalize f_sc (nI a + (2 : Int32)).toNatClampNeg = p2
  have key : ∀ {y23 : Int32 × Int32 × (Nat → Int32)} {y26 : Int32 × Int32 × (Nat → Int32)} {n' : Nat}, fLa_again N p1 p2 (nI n) f = some y23 → fMo_again N p1 p2 (nI n) g = some y26 → y26.1 = y23.1 → n' ≤ 65536 → y23.2.1 = nI n' → y26.2.1 = nI n' → rowEq n' y23.2.2 y26.2.2 →
      ∃ o n', ((fLa_again N p1 p2 (nI n) f).bind (fun y23 => if ¬ (nI a + (1 : Int32) < 0 ∨ n_sc ≤ (nI a + (1 : Int32)).toNatClampNeg) then (if ¬ (nI a + (2 : Int32) < 0 ∨ n_sc ≤ (nI a + (2 : Int32)).toNatClampNeg) then ((fMo_again N p1 p2 (nI n) g).bind (fun y26 => (fMo_thrown N y26.1).bind (fun y27 => if y27 = y23.1 then some (y26.1, y26.2.1, y23.2.1, y23.2.2, y26.2.2) else none))) else none) else none)) = some o ∧ n' ≤ 65536 ∧ o.2.1 = nI n' ∧ o.2.2.1 = nI n' ∧ rowEq n' o.2.2.2.1 o.2.2.2.2 := by
    intro y23 y26 n' h1 h2 h3 h4 h5 h6 h7
    rw [h1, Option.bind_some, if_pos i1, if_pos i2, h2, Option.bind_some, fMo_thrown, Option.bind_some, if_pos h3]
    exact ⟨_, n', rfl, h4, h6, h5, h7⟩
  by_cases q1 : p1 < (1 : Int32)
  · refine key (y23 := (1, nI n, f)) (y26 := (1, nI n, g)) (n' := n) ?_ ?_ rfl hn rfl rfl hfg
    · rw [fLa_again, fPB_again, if_pos q1]; rfl
    · rw [fMo_again, if_pos q1, if_neg (show ¬ (1 : Int32) ≤ 0 by decide)]
  have q1' : ¬ p1 < 0 := fun e => q1 (Int32.lt_trans e (by decide))
  obtain ⟨m, hm, rfl⟩ := i_nat q1'
  have hm1 : 1 ≤ m := by
    rcases Nat.lt_or_ge m 1 with e | e
    · exact absurd (nI_lt (b := 1) e (by omega)) q1
    · exact e
  by_cases q2 : m ≤ n
  · by_cases q3 : p2 < 0
    · refine key (y23 := (1, nI n, f)) (y26 := (1, nI n, g)) (n' := n) ?_ ?_ rfl hn rfl rfl hfg
      · rw [fLa_again, fPB_again, if_neg q1, if_pos (nI_le q2 (by omega)), if_pos q3]; rfl
      · rw [fMo_again, if_neg q1, if_neg (nI_nlt q2 (by omega)), if_pos q3, if_neg (show ¬ (1 : Int32) ≤ 0 by decide)]
    obtain ⟨c, hc, rfl⟩ := i_nat q3
    by_cases q4 : c ≤ 65536
    · by_cases q5 : n + c ≤ 65536
      · obtain ⟨f', g', a1, a2, a3⟩ := again_same (N := N) hm1 q2 q5 (by omega) hfg
        have e5 : nI n + nI c ≤ (65536 : Int32) := by rw [nI_add]; exact nI_le (b := 65536) q5 (by omega)
        refine key (y23 := (0, nI (n + c), f')) (y26 := (0, nI (n + c), g')) (n' := n + c) ?_ ?_ rfl q5 rfl rfl a3
        · rw [fLa_again, fPB_again, if_neg q1, if_pos (nI_le q2 (by omega)), if_neg q3, if_pos (show nI c ≤ (65536 : Int32) from nI_le (b := 65536) q4 (by omega)), if_pos e5, a1]; rfl
        · rw [fMo_again, if_neg q1, if_neg (nI_nlt q2 (by omega)), if_neg q3, if_pos (show nI c ≤ (65536 : Int32) from nI_le (b := 65536) q4 (by omega)), if_pos e5, if_pos (show (0 : Int32) ≤ 0 by decide), a2, Option.bind_some, nI_add]
      · have e5 : ¬ nI n + nI c ≤ (65536 : Int32) := by rw [nI_add]; exact nI_ge (a := 65536) (show 65536 < n + c by omega) (by omega)
        refine key (y23 := (2, nI n, f)) (y26 := (2, nI n, g)) (n' := n) ?_ ?_ rfl hn rfl rfl hfg
        · rw [fLa_again, fPB_again, if_neg q1, if_pos (nI_le q2 (by omega)), if_neg q3, if_pos (show nI c ≤ (65536 : Int32) from nI_le (b := 65536) q4 (by omega)), if_neg e5]; rfl
        · rw [fMo_again, if_neg q1, if_neg (nI_nlt q2 (by omega)), if_neg q3, if_pos (show nI c ≤ (65536 : Int32) from nI_le (b := 65536) q4 (by omega)), if_neg e5, if_neg (show ¬ (2 : Int32) ≤ 0 by decide)]
    · have e4 : ¬ nI c ≤ (65536 : Int32) := nI_ge (a := 65536) (show 65536 < c by omega) (by omega)
      refine key (y23 := (1, nI n, f)) (y26 := (1, nI n, g)) (n' := n) ?_ ?_ rfl hn rfl rfl hfg
      · rw [fLa_again, fPB_again, if_neg q1, if_pos (nI_le q2 (by omega)), if_neg q3, if_neg e4]; rfl
      · rw [fMo_again, if_neg q1, if_neg (nI_nlt q2 (by omega)), if_neg q3, if_neg e4, if_neg (show ¬ (1 : Int32) ≤ 0 by decide)]
  · refine key (y23 := (1, nI n, f)) (y26 := (1, nI n, g)) (n' := n) ?_ ?_ rfl hn rfl rfl hfg
    · rw [fLa_again, fPB_again, if_neg q1, if_neg (nI_ge (show n < m by omega) (by omega))]; rfl
    · rw [fMo_again, if_neg q1, if_pos (nI_lt (show n < m by omega) (by omega)), if_neg (show ¬ (1 : Int32) ≤ 0 by decide)]
theorem kk_293 {N n_sc a n : Nat} {f_sc f g : Nat → Int32} (hs : n_sc < 2 ^ 30) (ha : a + 6 ≤ n_sc) (hn : n ≤ 65536) (hfg : rowEq n f g) : ∃ o, fLa_law_293 N n_sc f_sc (nI n) (nI a) (nI n) f g = some o ∧ rowEq n o.2.1 o.2.2 := by
  have i1 : ¬ (nI a + (1 : Int32) < 0 ∨ n_sc ≤ (nI a + (1 : Int32)).toNatClampNeg) := sc_in hs ha 1 (by omega)
  have i2 : ¬ (nI a + (2 : Int32) < 0 ∨ n_sc ≤ (nI a + (2 : Int32)).toNatClampNeg) := sc_in hs ha 2 (by omega)
  rw [fLa_law_293, if_pos i1, if_pos i2]
  generalize f_sc (nI a + (1 : Int32)).toNatClampNeg = p1
  generalize f_sc (nI a + (2 : Int32)).toNatClampNeg = p2
  have key : ∀ {y34 : Int32 × (Nat → Int32)} {y37 : Int32 × (Nat → Int32)}, fLa_alter N p1 p2 (nI n) f = some y34 → fMo_alter N p1 p2 (nI n) g = some y37 → y37.1 = y34.1 → rowEq n y34.2 y37.2 →
      ∃ o, ((fLa_alter N p1 p2 (nI n) f).bind (fun y34 => if ¬ (nI a + (1 : Int32) < 0 ∨ n_sc ≤ (nI a + (1 : Int32)).toNatClampNeg) then (if ¬ (nI a + (2 : Int32) < 0 ∨ n_sc ≤ (nI a + (2 : Int32)).toNatClampNeg) then ((fMo_alter N p1 p2 (nI n) g).bind (fun y37 => (fMo_thrown N y37.1).bind (fun y38 => if y38 = y34.1 then some (y37.1, y34.2, y37.2) else none))) else none) else none)) = some o ∧ rowEq n o.2.1 o.2.2 := by
    intro y34 y37 h1 h2 h3 h4
    rw [h1, Option.bind_some, if_pos i1, if_pos i2, h2, Option.bind_some, fMo_thrown, Option.bind_some, if_pos h3]
    exact ⟨_, rfl, h4⟩
  by_cases q1 : p1 < 0
  · refine key (y34 := (1, f)) (y37 := (1, g)) ?_ ?_ rfl hfg
    · rw [fLa_alter, fPB_alter, if_pos q1]; rfl
    · rw [fMo_alter, if_pos q1, if_neg (show ¬ (1 : Int32) = 0 by decide)]
  obtain ⟨m, hm, rfl⟩ := i_nat q1
  by_cases q2 : m < n
  · have e2 : nI m < nI n := nI_lt q2 (by omega)
    by_cases q3 : p2 < 0
    · refine key (y34 := (2, f)) (y37 := (2, g)) ?_ ?_ rfl hfg
      · rw [fLa_alter, fPB_alter, if_neg q1, if_pos e2, if_pos q3]; rfl
      · rw [fMo_alter, if_neg q1, if_pos e2, if_pos q3, if_neg (show ¬ (2 : Int32) = 0 by decide)]
    by_cases q4 : p2 ≤ (255 : Int32)
    · refine key (y34 := (0, upd f m p2.toInt8.toInt32)) (y37 := (0, upd g m p2.toInt8.toInt32)) ?_ ?_ rfl (fun j hj => ?_)
      · rw [fLa_alter, fPB_alter, if_neg q1, if_pos e2, if_neg q3, if_pos q4, if_pos (nI_in (show m < 65546 by omega) (by omega)), nI_clamp hm]; rfl
      · rw [fMo_alter, if_neg q1, if_pos e2, if_neg q3, if_pos q4, if_pos (show (0 : Int32) = 0 from rfl), if_pos (nI_in (show m < 65536 by omega) (by omega)), nI_clamp hm]
      · show (upd f m _ j).toInt8 = (upd g m _ j).toInt8
        by_cases e : j = m
        · rw [e, upd_same, upd_same]
        · rw [upd_ne e, upd_ne e, hfg j hj]
    · refine key (y34 := (2, f)) (y37 := (2, g)) ?_ ?_ rfl hfg
      · rw [fLa_alter, fPB_alter, if_neg q1, if_pos e2, if_neg q3, if_neg q4]; rfl
      · rw [fMo_alter, if_neg q1, if_pos e2, if_neg q3, if_neg q4, if_neg (show ¬ (2 : Int32) = 0 by decide)]
  · have e2 : ¬ nI m < nI n := nI_nlt (by omega) hm
    refine key (y34 := (1, f)) (y37 := (1, g)) ?_ ?_ rfl hfg
    · rw [fLa_alter, fPB_alter, if_neg q1, if_neg e2]; rfl
    · rw [fMo_alter, if_neg q1, if_neg e2, if_neg (show ¬ (1 : Int32) = 0 by decide)]
