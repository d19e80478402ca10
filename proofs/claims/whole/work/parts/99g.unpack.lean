/-! unpack, both sides. -/
theorem u_read {N n lim : Nat} {f g P S Q R to rp cl lcP lcS lcT len oP oS oT dP dS dT few M S2 line lens fr : Nat → Int32} {codes dcodes lcc lcl oc ol dc0 dl : Int32} (hN : 600000 ≤ N) (hn : n ≤ 65536) (hlim : lim ≤ 65536) (hfg : rowEq n f g) (hC : tabC (cnt FL 288) (symT FL 288) codes P S) (hD : tabC (cnt FD 32) (symT FD 32) dcodes Q R) :
    ∃ yc ym, fUnpacker_readStream N (nI lim) (nI n) f to rp codes P S dcodes Q R cl lcc lcl lcP lcS lcT len oc ol oP oS oT dc0 dl dP dS dT = some yc ∧ fMo_readBlocks N (0 : Int32) ((8 : Int32) * nI n) (0 : Int32) (-1 : Int32) (0 : Int32) (nI lim) g few M S2 line lens fr = some ym ∧
      ((∃ m9, yc.1 = true ∧ ym.1 = false ∧ m9 ≤ lim ∧ yc.2.2.2.1 = nI m9 ∧ ym.2.2.2.2.1 = nI m9 ∧ rowEq m9 yc.2.2.2.2.2.1 ym.2.2.2.2.2.2.2.2.2.2 ∧ yc.2.2.2.2.2.2.1 0 = ym.2.2.1 ∧ yc.2.2.2.2.2.2.1 1 = ym.2.2.2.1 ∧ yc.2.2.2.2.2.2.1 2 = (ym.2.1 + (7 : Int32)) / (8 : Int32)) ∨
       (yc.1 = false ∧ ym.1 = true ∧ repW yc.2.2.2.2.2.2.1 ym.2.2.1 ym.2.2.2.1)) := by
  obtain ⟨x, y, h1, h2, h3⟩ := u_stream (N := N) (f0 := 0) (p0 := -1) hN hn hlim hfg hC hD (8 * n) N N 0 0 0 0 to fr rp cl lcP lcS lcT len oP oS oT dP dS dT few M S2 line lens lcc lcl oc ol dc0 dl (by omega) (by omega) (by omega) (by omega) (by omega) (by omega) (fun j hj => by omega)
  rw [fUnpacker_readStream, fMo_readBlocks, show nI n * (8 : Int32) = nI (8 * n) by rw [show (8 : Int32) = nI 8 from rfl, nI_mul, Nat.mul_comm], show (8 : Int32) * nI n = nI (8 * n) from nI_mul 8 n]
  rw [show fUnpacker_readStream_39 N (nI lim) (nI n) (nI (8 * n)) f codes P S dcodes Q R N (0 : Int32) (0 : Int32) (0 : Int32) (0 : Int32) to rp cl lcc lcl lcP lcS lcT len oc ol oP oS oT dc0 dl dP dS dT = _ from h1, Option.bind_some, show fMo_readBlocks_2 N (nI (8 * n)) (nI lim) g N (0 : Int32) (0 : Int32) (0 : Int32) (-1 : Int32) (0 : Int32) few M S2 line lens fr = _ from h2, Option.bind_some]
  rcases h3 with ⟨X, Y, p9, m9, rfl, rfl, e1, e2, e3, e4, e5, e6, e7, e8, e9⟩ | ⟨X, Y, rfl, rfl, e1, e2, e3⟩
  · rw [Sum.elim_inl, Sum.elim_inl, if_pos (show ¬ ((0 : Int32) < 0 ∨ 3 ≤ (0 : Int32).toNatClampNeg) by decide), if_pos (show ¬ ((1 : Int32) < 0 ∨ 3 ≤ (1 : Int32).toNatClampNeg) by decide), fBitSource_bytesTaken, Option.bind_some, if_pos (show ¬ ((2 : Int32) < 0 ∨ 3 ≤ (2 : Int32).toNatClampNeg) by decide)]
    refine ⟨_, _, rfl, rfl, Or.inl ⟨m9, rfl, rfl, e2, e3, e8, e9, ?_, ?_, ?_⟩⟩
    · show (0 : Int32) = Y.2.1
      rw [e6]
    · show (-1 : Int32) = Y.2.2.1
      rw [e7]
    · show (X.2.2.1 + (7 : Int32)) >>> ((3 : Int32) &&& 31) = (Y.1 + (7 : Int32)) / (8 : Int32)
      rw [e4, e5, show nI p9 + (7 : Int32) = nI (p9 + 7) from nI_add p9 7, show (8 : Int32) = nI 8 from rfl, nI_div (by omega) (by omega) (by omega), show (3 : Int32) &&& 31 = nI 3 &&& nI 31 from rfl, nI_shr (by omega) (by omega)]
  · rw [Sum.elim_inr, Sum.elim_inr]
    exact ⟨_, _, rfl, rfl, Or.inr ⟨e1, e2, e3⟩⟩
theorem s_unpack_102 {N k : Nat} {f : Nat → Int32} (hk : k ≤ 65536) : ∀ (m u i : Nat) (g : Nat → Int32), i + m = k → m < u → rowEq i f g → ∃ g', fMo_unpack_102 N (nI k) f u (nI i) g = some g' ∧ rowEq k f g'
  | 0, u + 1, i, g, hi, hu, hg => by
    have e : i = k := by omega
    subst e
    rw [fMo_unpack_102, if_pos (nI_le (Nat.le_refl _) (by omega))]
    exact ⟨g, rfl, hg⟩
  | m + 1, u + 1, i, g, hi, hu, hg => by
    rw [fMo_unpack_102, if_neg (nI_ge (show i < k by omega) (by omega)), if_pos (nI_in (show i < 65536 by omega) (by omega)), if_pos (nI_in (show i < 66000 by omega) (by omega)), nI_clamp (show i < 2 ^ 31 by omega), nI_1]
    refine s_unpack_102 hk m u (i + 1) _ (by omega) (by omega) (fun j hj => ?_)
    by_cases e : j = i
    · rw [e, upd_same, by8_id]
    · rw [upd_ne e, hg j (by omega)]
theorem la_ok {N : Nat} {f to rp P S Q R cl lcP lcS lcT len oP oS oT dP dS dT pf : Nat → Int32} {p1 xl xb xc xp rc codes dcodes lcc lcl oc ol dc0 dl pc : Int32} {f_o : Nat → Int64} {y} {z} (h0 : ¬ p1 < 0) (h1 : p1 ≤ (65536 : Int32)) (h : fUnpacker_readStream N p1 rc f to rp codes P S dcodes Q R cl lcc lcl lcP lcS lcT len oc ol oP oS oT dc0 dl dP dS dT = some y) (hb : y.1 = true) (hz : fRow_become N y.2.2.2.1 pf y.2.2.2.2.2.1 = some z) : ∃ out, fLa_unpack N p1 xl xb xc xp rc f to rp codes P S dcodes Q R cl lcc lcl lcP lcS lcT len oc ol oP oS oT dc0 dl dP dS dT pc pf f_o = some out ∧ out.1 = 0 ∧ out.2.2.2.2.2.2.1 = y.2.2.2.2.2.2.1 ∧ out.2.2.2.2.2.2.2.2.2.2.2.2.2.2.2.2.2.2.2.2.2.2.2.2.1 = z.1 ∧ out.2.2.2.2.2.2.2.2.2.2.2.2.2.2.2.2.2.2.2.2.2.2.2.2.2.1 = z.2 ∧ out.2.2.2.2.2.2.2.2.2.2.2.2.2.2.2.2.2.2.2.2.2.2.2.2.2.2 0 = z.1.toInt64 := by
  rw [fLa_unpack, fPB_unpack, if_neg h0, if_pos h1, h, Option.bind_some, hb, if_neg (show ¬ bI true = 0 by decide), hz, Option.bind_some, Option.bind_some, Sum.elim_inl, if_pos (show ¬ ((0 : Int32) < 0 ∨ 1 ≤ (0 : Int32).toNatClampNeg) by decide)]
  exact ⟨_, rfl, rfl, rfl, rfl, rfl, rfl⟩
theorem la_no {N : Nat} {f to rp P S Q R cl lcP lcS lcT len oP oS oT dP dS dT pf : Nat → Int32} {p1 xl xb xc xp rc codes dcodes lcc lcl oc ol dc0 dl pc : Int32} {f_o : Nat → Int64} {y} (h0 : ¬ p1 < 0) (h1 : p1 ≤ (65536 : Int32)) (h : fUnpacker_readStream N p1 rc f to rp codes P S dcodes Q R cl lcc lcl lcP lcS lcT len oc ol oP oS oT dc0 dl dP dS dT = some y) (hb : y.1 = false) : ∃ out, fLa_unpack N p1 xl xb xc xp rc f to rp codes P S dcodes Q R cl lcc lcl lcP lcS lcT len oc ol oP oS oT dc0 dl dP dS dT pc pf f_o = some out ∧ out.1 = 0 ∧ out.2.2.2.2.2.2.1 = y.2.2.2.2.2.2.1 ∧ out.2.2.2.2.2.2.2.2.2.2.2.2.2.2.2.2.2.2.2.2.2.2.2.2.1 = pc ∧ out.2.2.2.2.2.2.2.2.2.2.2.2.2.2.2.2.2.2.2.2.2.2.2.2.2.1 = pf ∧ out.2.2.2.2.2.2.2.2.2.2.2.2.2.2.2.2.2.2.2.2.2.2.2.2.2.2 0 = (-1 : Int32).toInt64 := by
  rw [fLa_unpack, fPB_unpack, if_neg h0, if_pos h1, h, Option.bind_some, hb, if_pos (show bI false = 0 by decide), Option.bind_some, Sum.elim_inl, if_pos (show ¬ ((0 : Int32) < 0 ∨ 1 ≤ (0 : Int32).toNatClampNeg) by decide)]
  exact ⟨_, rfl, rfl, rfl, rfl, rfl, rfl⟩
theorem la_iae {N : Nat} {f to rp P S Q R cl lcP lcS lcT len oP oS oT dP dS dT pf : Nat → Int32} {p1 xl xb xc xp rc codes dcodes lcc lcl oc ol dc0 dl pc : Int32} {f_o : Nat → Int64} (h : p1 < 0 ∨ ¬ p1 ≤ (65536 : Int32)) : ∃ out, fLa_unpack N p1 xl xb xc xp rc f to rp codes P S dcodes Q R cl lcc lcl lcP lcS lcT len oc ol oP oS oT dc0 dl dP dS dT pc pf f_o = some out ∧ out.1 = 1 ∧ out.2.2.2.2.2.2.1 = rp ∧ out.2.2.2.2.2.2.2.2.2.2.2.2.2.2.2.2.2.2.2.2.2.2.2.2.1 = pc ∧ out.2.2.2.2.2.2.2.2.2.2.2.2.2.2.2.2.2.2.2.2.2.2.2.2.2.1 = pf ∧ out.2.2.2.2.2.2.2.2.2.2.2.2.2.2.2.2.2.2.2.2.2.2.2.2.2.2 = f_o := by
  have e : fPB_unpack N p1 rc f to rp codes P S dcodes Q R cl lcc lcl lcP lcS lcT len oc ol oP oS oT dc0 dl dP dS dT pc pf = some (.inr 1) := by
    rw [fPB_unpack]
    by_cases q : p1 < 0
    · rw [if_pos q]
    · rw [if_neg q]
      rcases h with h | h
      · exact absurd h q
      · rw [if_neg h]
  rw [fLa_unpack, e, Option.bind_some, Sum.elim_inr, if_pos rfl]
  exact ⟨_, rfl, rfl, rfl, rfl, rfl, rfl⟩
theorem mo_ok {N : Nat} {g few M S2 line lens fr pg : Nat → Int32} {p1 len sz ps tt fa pl ma lm tk0 : Int32} {y z} (h0 : ¬ p1 < 0) (h1 : p1 ≤ (65536 : Int32)) (h : fMo_readBlocks N (0 : Int32) ((8 : Int32) * len) (0 : Int32) (-1 : Int32) (0 : Int32) p1 g few M S2 line lens fr = some y) (hb : y.1 = false) (hz : fMo_unpack_102 N y.2.2.2.2.1 y.2.2.2.2.2.2.2.2.2.2 N (0 : Int32) pg = some z) : ∃ out, fMo_unpack N p1 len sz ps tt fa pl ma lm tk0 g few M S2 line lens fr pg = some out ∧ out.1 = y.2.2.2.2.1 ∧ out.2.1 = 0 ∧ out.2.2.1 = y.2.2.2.2.1 ∧ out.2.2.2.2.2.1 = y.2.2.1 ∧ out.2.2.2.2.2.2.1 = y.2.2.2.1 ∧ out.2.2.2.2.2.2.2.2.2.1 = (y.2.1 + (7 : Int32)) / (8 : Int32) ∧ out.2.2.2.2.2.2.2.2.2.2.2.2.2.2.2.2 = z := by
  rw [fMo_unpack, if_neg h0, if_pos h1, if_pos (show (0 : Int32) ≤ 0 by decide), h, Option.bind_some, hb, if_pos (show bI false = 0 by decide), hz, Option.bind_some]
  exact ⟨_, rfl, rfl, rfl, rfl, rfl, rfl, rfl, rfl⟩
theorem mo_no {N : Nat} {g few M S2 line lens fr pg : Nat → Int32} {p1 len sz ps tt fa pl ma lm tk0 : Int32} {y} (h0 : ¬ p1 < 0) (h1 : p1 ≤ (65536 : Int32)) (h : fMo_readBlocks N (0 : Int32) ((8 : Int32) * len) (0 : Int32) (-1 : Int32) (0 : Int32) p1 g few M S2 line lens fr = some y) (hb : y.1 = true) : ∃ out, fMo_unpack N p1 len sz ps tt fa pl ma lm tk0 g few M S2 line lens fr pg = some out ∧ out.1 = -1 ∧ out.2.1 = 0 ∧ out.2.2.1 = sz ∧ out.2.2.2.2.2.1 = y.2.2.1 ∧ out.2.2.2.2.2.2.1 = y.2.2.2.1 ∧ out.2.2.2.2.2.2.2.2.2.1 = 0 ∧ out.2.2.2.2.2.2.2.2.2.2.2.2.2.2.2.2 = pg := by
  rw [fMo_unpack, if_neg h0, if_pos h1, if_pos (show (0 : Int32) ≤ 0 by decide), h, Option.bind_some, hb, if_neg (show ¬ bI true = 0 by decide)]
  exact ⟨_, rfl, rfl, rfl, rfl, rfl, rfl, rfl, rfl⟩
theorem mo_iae {N : Nat} {g few M S2 line lens fr pg : Nat → Int32} {p1 len sz ps tt fa pl ma lm tk0 : Int32} (h : p1 < 0 ∨ ¬ p1 ≤ (65536 : Int32)) : ∃ out, fMo_unpack N p1 len sz ps tt fa pl ma lm tk0 g few M S2 line lens fr pg = some out ∧ out.1 = 0 ∧ out.2.1 = 1 ∧ out.2.2.1 = sz ∧ out.2.2.2.2.2.1 = fa ∧ out.2.2.2.2.2.2.1 = pl ∧ out.2.2.2.2.2.2.2.2.2.1 = tk0 ∧ out.2.2.2.2.2.2.2.2.2.2.2.2.2.2.2.2 = pg := by
  have e : (if p1 < 0 then (1 : Int32) else (if p1 ≤ (65536 : Int32) then (0 : Int32) else (1 : Int32))) = 1 := by
    by_cases q : p1 < 0
    · rw [if_pos q]
    · rw [if_neg q]
      rcases h with h | h
      · exact absurd h q
      · rw [if_neg h]
  rw [fMo_unpack, e, if_neg (show ¬ (1 : Int32) ≤ 0 by decide)]
  exact ⟨_, rfl, rfl, rfl, rfl, rfl, rfl, rfl, rfl⟩
theorem law_478 {N n_sc a : Nat} {f_sc f to rp P S Q R cl lcP lcS lcT len oP oS oT dP dS dT pf g few M S2 line lens fr pg : Nat → Int32} {xl xb xc xp rc codes dcodes lcc lcl oc ol dc0 dl pc ml sz ps tt fa pl ma lm tk0 : Int32} {f_o : Nat → Int64} {yc ym} (hs : n_sc < 2 ^ 30) (ha : a + 6 ≤ n_sc) (hc : fLa_unpack N (f_sc (nI a + (1 : Int32)).toNatClampNeg) xl xb xc xp rc f to rp codes P S dcodes Q R cl lcc lcl lcP lcS lcT len oc ol oP oS oT dc0 dl dP dS dT pc pf f_o = some yc) (hm : fMo_unpack N (f_sc (nI a + (1 : Int32)).toNatClampNeg) ml sz ps tt fa pl ma lm tk0 g few M S2 line lens fr pg = some ym) (h1 : ym.2.1 = yc.1) (h2 : yc.1 = 0 → yc.2.2.2.2.2.2.2.2.2.2.2.2.2.2.2.2.2.2.2.2.2.2.2.2.2.2 0 = (ym.1).toInt64) :
    ∃ o, fLa_law_478 N n_sc f_sc ml sz ps tt fa pl ma lm tk0 f_o (nI a) rc f g pc pf lens line few pg xl xb xc xp to rp codes P S dcodes Q R cl lcc lcl lcP lcS lcT len oc ol oP oS oT dc0 dl dP dS dT M S2 fr = some o ∧ o.2.1 = ym.2.2.1 ∧ o.2.2.2.2.1 = ym.2.2.2.2.2.1 ∧ o.2.2.2.2.2.1 = ym.2.2.2.2.2.2.1 ∧ o.2.2.2.2.2.2.2.2.1 = ym.2.2.2.2.2.2.2.2.2.1 ∧ o.2.2.2.2.2.2.2.2.2.2.1 = yc.2.2.2.2.2.2.2.2.2.2.2.2.2.2.2.2.2.2.2.2.2.2.2.2.1 ∧ o.2.2.2.2.2.2.2.2.2.2.2.1 = yc.2.2.2.2.2.2.2.2.2.2.2.2.2.2.2.2.2.2.2.2.2.2.2.2.2.1 ∧ o.2.2.2.2.2.2.2.2.2.2.2.2.2.2.2.1 = ym.2.2.2.2.2.2.2.2.2.2.2.2.2.2.2.2 ∧ o.2.2.2.2.2.2.2.2.2.2.2.2.2.2.2.2.2.2.2.2.2.1 = yc.2.2.2.2.2.2.1 := by
  have i1 : ¬ (nI a + (1 : Int32) < 0 ∨ n_sc ≤ (nI a + (1 : Int32)).toNatClampNeg) := sc_in hs ha 1 (by omega)
  rw [fLa_law_478, if_pos i1, hc, Option.bind_some, if_pos i1, hm, Option.bind_some, fMo_thrown, Option.bind_some, if_pos h1]
  by_cases q : yc.1 = 0
  · rw [if_pos q, if_pos (show ¬ ((0 : Int32) < 0 ∨ 1 ≤ (0 : Int32).toNatClampNeg) by decide), if_pos (show xlc (yc.2.2.2.2.2.2.2.2.2.2.2.2.2.2.2.2.2.2.2.2.2.2.2.2.2.2 (0 : Int32).toNatClampNeg) (ym.1).toInt64 = 0 from xlc_eq (h2 q))]
    exact ⟨_, rfl, rfl, rfl, rfl, rfl, rfl, rfl, rfl, rfl⟩
  · rw [if_neg q]
    exact ⟨_, rfl, rfl, rfl, rfl, rfl, rfl, rfl, rfl, rfl⟩
theorem kk_478 {N n_sc a n k : Nat} {f_sc f to rp P S Q R cl lcP lcS lcT len oP oS oT dP dS dT pf g few M S2 line lens fr pg : Nat → Int32} {xl xb xc xp codes dcodes lcc lcl oc ol dc0 dl ps tt fa pl ma lm tk0 : Int32} {f_o : Nat → Int64} (hN : 600000 ≤ N) (hs : n_sc < 2 ^ 30) (ha : a + 6 ≤ n_sc) (hn : n ≤ 65536) (hfg : rowEq n f g) (hC : tabC (cnt FL 288) (symT FL 288) codes P S) (hD : tabC (cnt FD 32) (symT FD 32) dcodes Q R) (hk : k ≤ 65546) (hp : rowEq k pf pg) (hr0 : rp 0 = fa) (hr1 : rp 1 = pl) (hr2 : rp 2 = tk0) :
    ∃ o k', fLa_law_478 N n_sc f_sc (nI n) (nI k) ps tt fa pl ma lm tk0 f_o (nI a) (nI n) f g (nI k) pf lens line few pg xl xb xc xp to rp codes P S dcodes Q R cl lcc lcl lcP lcS lcT len oc ol oP oS oT dc0 dl dP dS dT M S2 fr = some o ∧ k' ≤ 65546 ∧ o.2.1 = nI k' ∧ o.2.2.2.2.2.2.2.2.2.2.1 = nI k' ∧ rowEq k' o.2.2.2.2.2.2.2.2.2.2.2.1 o.2.2.2.2.2.2.2.2.2.2.2.2.2.2.2.1 ∧ o.2.2.2.2.2.2.2.2.2.2.2.2.2.2.2.2.2.2.2.2.2.1 0 = o.2.2.2.2.1 ∧ o.2.2.2.2.2.2.2.2.2.2.2.2.2.2.2.2.2.2.2.2.2.1 1 = o.2.2.2.2.2.1 ∧ o.2.2.2.2.2.2.2.2.2.2.2.2.2.2.2.2.2.2.2.2.2.1 2 = o.2.2.2.2.2.2.2.2.1 := by
  by_cases q : f_sc (nI a + (1 : Int32)).toNatClampNeg < 0 ∨ ¬ f_sc (nI a + (1 : Int32)).toNatClampNeg ≤ (65536 : Int32)
  · obtain ⟨yc, c1, c2, c3, c4, c5, c6⟩ := la_iae (N := N) (f := f) (to := to) (rp := rp) (P := P) (S := S) (Q := Q) (R := R) (cl := cl) (lcP := lcP) (lcS := lcS) (lcT := lcT) (len := len) (oP := oP) (oS := oS) (oT := oT) (dP := dP) (dS := dS) (dT := dT) (pf := pf) (xl := xl) (xb := xb) (xc := xc) (xp := xp) (rc := nI n) (codes := codes) (dcodes := dcodes) (lcc := lcc) (lcl := lcl) (oc := oc) (ol := ol) (dc0 := dc0) (dl := dl) (pc := nI k) (f_o := f_o) q
    obtain ⟨ym, m1, m2, m3, m4, m5, m6, m7, m8⟩ := mo_iae (N := N) (g := g) (few := few) (M := M) (S2 := S2) (line := line) (lens := lens) (fr := fr) (pg := pg) (len := nI n) (sz := nI k) (ps := ps) (tt := tt) (fa := fa) (pl := pl) (ma := ma) (lm := lm) (tk0 := tk0) q
    obtain ⟨o, o1, o2, o3, o4, o5, o6, o7, o8, o9⟩ := law_478 hs ha c1 m1 (by rw [m3, c2]) (fun e => absurd (c2.symm.trans e) (by decide))
    exact ⟨o, k, o1, hk, by rw [o2, m4], by rw [o6, c4], by rw [o7, o8, c5, m8]; exact hp, by rw [o9, o3, c3, m5, hr0], by rw [o9, o4, c3, m6, hr1], by rw [o9, o5, c3, m7, hr2]⟩
  · have q0 : ¬ f_sc (nI a + (1 : Int32)).toNatClampNeg < 0 := fun e => q (Or.inl e)
    have q1 : f_sc (nI a + (1 : Int32)).toNatClampNeg ≤ (65536 : Int32) := Decidable.not_not.mp (fun e => q (Or.inr e))
    obtain ⟨lim, hl1, hl2⟩ := i_nat q0
    have hlim : lim ≤ 65536 := by
      rcases Nat.lt_or_ge 65536 lim with e | e
      · exact absurd (by rw [hl2] at q1; exact q1) (nI_ge (a := 65536) e hl1)
      · exact e
    obtain ⟨yc, ym, r1, r2, r3⟩ := u_read (N := N) (to := to) (rp := rp) (cl := cl) (lcP := lcP) (lcS := lcS) (lcT := lcT) (len := len) (oP := oP) (oS := oS) (oT := oT) (dP := dP) (dS := dS) (dT := dT) (few := few) (M := M) (S2 := S2) (line := line) (lens := lens) (fr := fr) (lcc := lcc) (lcl := lcl) (oc := oc) (ol := ol) (dc0 := dc0) (dl := dl) hN hn hlim hfg hC hD
    rw [← hl2] at r1 r2
    rcases r3 with ⟨m9, e1, e2, e3, e4, e5, e6, e7, e8, e9⟩ | ⟨e1, e2, e3, e4, e5⟩
    · obtain ⟨z, z1, z2⟩ := s_unpack_102 (N := N) (k := m9) (f := ym.2.2.2.2.2.2.2.2.2.2) (by omega) m9 N 0 pg (by omega) (by omega) (fun j hj => by omega)
      obtain ⟨oc', c1, c2, c3, c4, c5, c6⟩ := la_ok (xl := xl) (xb := xb) (xc := xc) (xp := xp) (pc := nI k) (f_o := f_o) (pf := pf) q0 q1 r1 e1 (by rw [e4]; exact s_become (by omega))
      obtain ⟨om, m1, m2, m3, m4, m5, m6, m7, m8⟩ := mo_ok (sz := nI k) (ps := ps) (tt := tt) (fa := fa) (pl := pl) (ma := ma) (lm := lm) (tk0 := tk0) (pg := pg) (z := z) q0 q1 r2 e2 (by rw [e5]; exact z1)
      obtain ⟨o, o1, o2, o3, o4, o5, o6, o7, o8, o9⟩ := law_478 hs ha c1 m1 (by rw [m3, c2]) (fun _ => by rw [c6, m2, e5])
      exact ⟨o, m9, o1, by omega, by rw [o2, m4, e5], by rw [o6, c4], by rw [o7, o8, c5, m8]; exact fun j hj => ((cpy_0 _ _ j hj).trans (e6 j hj)).trans (z2 j hj), by rw [o9, o3, c3, m5, e7], by rw [o9, o4, c3, m6, e8], by rw [o9, o5, c3, m7, e9]⟩
    · obtain ⟨oc', c1, c2, c3, c4, c5, c6⟩ := la_no (xl := xl) (xb := xb) (xc := xc) (xp := xp) (pc := nI k) (f_o := f_o) (pf := pf) q0 q1 r1 e1
      obtain ⟨om, m1, m2, m3, m4, m5, m6, m7, m8⟩ := mo_no (sz := nI k) (ps := ps) (tt := tt) (fa := fa) (pl := pl) (ma := ma) (lm := lm) (tk0 := tk0) (pg := pg) q0 q1 r2 e2
      obtain ⟨o, o1, o2, o3, o4, o5, o6, o7, o8, o9⟩ := law_478 hs ha c1 m1 (by rw [m3, c2]) (fun _ => by rw [c6, m2])
      exact ⟨o, k, o1, hk, by rw [o2, m4], by rw [o6, c4], by rw [o7, o8, c5, m8]; exact hp, by rw [o9, o3, c3, m5, e3], by rw [o9, o4, c3, m6, e4], by rw [o9, o5, c3, m7, e5]⟩
