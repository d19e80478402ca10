/-! The law's cases that compare an answer. -/
theorem tl {N : Nat} {y : Int32 × (Nat → Int64)} {y' : Int32 × Int32} (h : y'.2 = y.1) (h2 : y.1 = 0 → y.2 0 = y'.1.toInt64) : ∃ o, ((fMo_thrown N y'.2).bind (fun y47 =>
              if y47 = y.1 then
                if y.1 = 0 then
                  if ¬ ((0 : Int32) < 0 ∨ 1 ≤ (0 : Int32).toNatClampNeg) then
                    if (xlc (y.2 (0 : Int32).toNatClampNeg) y'.1.toInt64) = 0 then
                      some (y'.2, y.2)
                    else
                      none
                  else none
                else
                  some (y'.2, y.2)
              else
                none)) = some o := by
  rw [fMo_thrown, Option.bind_some, if_pos h]
  by_cases q : y.1 = 0
  · rw [if_pos q, if_pos (show ¬ ((0 : Int32) < 0 ∨ 1 ≤ (0 : Int32).toNatClampNeg) by decide), if_pos (show xlc (y.2 (0 : Int32).toNatClampNeg) y'.1.toInt64 = 0 from xlc_eq (h2 q))]
    exact ⟨_, rfl⟩
  · rw [if_neg q]
    exact ⟨_, rfl⟩
theorem updL_0 (f : Nat → Int64) (x : Int64) : vp_updL f 0 x 0 = x := rfl
theorem kk_354 {N n_sc a : Nat} {f_sc rep : Nat → Int32} {f_o : Nat → Int64} {kind bytes mats stB fxB owB : Int32} (hs : n_sc < 2 ^ 30) (ha : a + 6 ≤ n_sc) (h0 : rep 0 = kind) (h1 : rep 1 = bytes) (h2 : rep 2 = mats) (h3 : rep 3 = stB) (h4 : rep 4 = fxB) (h5 : rep 5 = owB) : ∃ o, fLa_law_354 N n_sc f_sc kind bytes mats stB fxB owB f_o (nI a) rep = some o := by
  have i1 : ¬ (nI a + (1 : Int32) < 0 ∨ n_sc ≤ (nI a + (1 : Int32)).toNatClampNeg) := sc_in hs ha 1 (by omega)
  rw [fLa_law_354, if_pos i1]
  generalize f_sc (nI a + (1 : Int32)).toNatClampNeg = p
  by_cases q : p < 0
  · rw [show fLa_told N p rep f_o = some (1, f_o) by rw [fLa_told, fPB_told, if_pos q]; rfl, Option.bind_some, if_pos i1, show fMo_told N p kind bytes mats stB fxB owB = some (0, 1) by rw [fMo_told, if_pos q, if_neg (show ¬ (1 : Int32) ≤ 0 by decide)], Option.bind_some]
    exact tl rfl (fun e => absurd (show (1 : Int32) = 0 from e) (by decide))
  obtain ⟨m, hm, rfl⟩ := i_nat q
  by_cases q2 : m ≤ 5
  · have e1 : fLa_told N (nI m) rep f_o = some (0, vp_updL f_o 0 (rep m).toInt64) := by
      rw [fLa_told, fPB_told, if_neg q, if_pos (nI_lt (show m < 6 by omega) (by omega)), if_pos (nI_in (show m < 6 by omega) (by omega)), nI_clamp hm]; rfl
    have e2 : fMo_told N (nI m) kind bytes mats stB fxB owB = some (rep m, 0) := by
      rw [fMo_told, if_neg q, if_pos (show nI m ≤ (5 : Int32) from nI_le (b := 5) q2 (by omega)), if_pos (show (0 : Int32) ≤ 0 by decide), ← h0, ← h1, ← h2, ← h3, ← h4, ← h5]
      rcases (show m = 0 ∨ m = 1 ∨ m = 2 ∨ m = 3 ∨ m = 4 ∨ m = 5 by omega) with e | e | e | e | e | e <;> subst e <;> rfl
    rw [e1, Option.bind_some, if_pos i1, e2, Option.bind_some]
    exact tl rfl (fun _ => rfl)
  · have e5 : ¬ nI m ≤ (5 : Int32) := nI_ge (a := 5) (by omega) hm
    rw [show fLa_told N (nI m) rep f_o = some (1, f_o) by rw [fLa_told, fPB_told, if_neg q, if_neg (nI_nlt (show 6 ≤ m by omega) hm)]; rfl, Option.bind_some, if_pos i1, show fMo_told N (nI m) kind bytes mats stB fxB owB = some (0, 1) by rw [fMo_told, if_neg q, if_neg e5, if_neg (show ¬ (1 : Int32) ≤ 0 by decide)], Option.bind_some]
    exact tl rfl (fun e => absurd (show (1 : Int32) = 0 from e) (by decide))
theorem kk_534 {N n_sc a : Nat} {f_sc rep : Nat → Int32} {f_o : Nat → Int64} {fault place taken : Int32} (hs : n_sc < 2 ^ 30) (ha : a + 6 ≤ n_sc) (h0 : rep 0 = fault) (h1 : rep 1 = place) (h2 : rep 2 = taken) : ∃ o, fLa_law_534 N n_sc f_sc fault place taken f_o (nI a) rep = some o := by
  have i1 : ¬ (nI a + (1 : Int32) < 0 ∨ n_sc ≤ (nI a + (1 : Int32)).toNatClampNeg) := sc_in hs ha 1 (by omega)
  rw [fLa_law_534, if_pos i1]
  generalize f_sc (nI a + (1 : Int32)).toNatClampNeg = p
  by_cases q : p < 0
  · rw [show fLa_blame N p rep f_o = some (1, f_o) by rw [fLa_blame, fPB_blame, if_pos q]; rfl, Option.bind_some, if_pos i1, show fMo_blame N p fault place taken = some (0, 1) by rw [fMo_blame, if_pos q, if_neg (show ¬ (1 : Int32) ≤ 0 by decide)], Option.bind_some]
    exact tl rfl (fun e => absurd (show (1 : Int32) = 0 from e) (by decide))
  obtain ⟨m, hm, rfl⟩ := i_nat q
  by_cases q2 : m ≤ 2
  · have e1 : fLa_blame N (nI m) rep f_o = some (0, vp_updL f_o 0 (rep m).toInt64) := by
      rw [fLa_blame, fPB_blame, if_neg q, if_pos (nI_lt (show m < 3 by omega) (by omega)), if_pos (nI_in (show m < 3 by omega) (by omega)), nI_clamp hm]; rfl
    have e2 : fMo_blame N (nI m) fault place taken = some (rep m, 0) := by
      rw [fMo_blame, if_neg q, if_pos (show nI m ≤ (2 : Int32) from nI_le (b := 2) q2 (by omega)), if_pos (show (0 : Int32) ≤ 0 by decide), ← h0, ← h1, ← h2]
      rcases (show m = 0 ∨ m = 1 ∨ m = 2 by omega) with e | e | e <;> subst e <;> rfl
    rw [e1, Option.bind_some, if_pos i1, e2, Option.bind_some]
    exact tl rfl (fun _ => rfl)
  · have e5 : ¬ nI m ≤ (2 : Int32) := nI_ge (a := 2) (by omega) hm
    rw [show fLa_blame N (nI m) rep f_o = some (1, f_o) by rw [fLa_blame, fPB_blame, if_neg q, if_neg (nI_nlt (show 3 ≤ m by omega) hm)]; rfl, Option.bind_some, if_pos i1, show fMo_blame N (nI m) fault place taken = some (0, 1) by rw [fMo_blame, if_neg q, if_neg e5, if_neg (show ¬ (1 : Int32) ≤ 0 by decide)], Option.bind_some]
    exact tl rfl (fun e => absurd (show (1 : Int32) = 0 from e) (by decide))
theorem kk_627 {N n_sc a k : Nat} {f_sc f g : Nat → Int32} {f_o : Nat → Int64} (hs : n_sc < 2 ^ 30) (ha : a + 6 ≤ n_sc) (hk : k ≤ 65546) (hfg : rowEq k f g) : ∃ o, fLa_law_627 N n_sc f_sc (nI k) f_o (nI a) (nI k) f g = some o := by
  have i1 : ¬ (nI a + (1 : Int32) < 0 ∨ n_sc ≤ (nI a + (1 : Int32)).toNatClampNeg) := sc_in hs ha 1 (by omega)
  rw [fLa_law_627, if_pos i1]
  generalize f_sc (nI a + (1 : Int32)).toNatClampNeg = p
  by_cases q : p < 0
  · rw [show fLa_byteAt N p (nI k) f f_o = some (1, f_o) by rw [fLa_byteAt, fPB_byteAt, if_pos q]; rfl, Option.bind_some, if_pos i1, show fMo_byteAt N p (nI k) g = some (0, 1) by rw [fMo_byteAt, if_pos q, if_neg (show ¬ (1 : Int32) ≤ 0 by decide)], Option.bind_some]
    exact tl rfl (fun e => absurd (show (1 : Int32) = 0 from e) (by decide))
  obtain ⟨m, hm, rfl⟩ := i_nat q
  by_cases q2 : m < k
  · have e1 : fLa_byteAt N (nI m) (nI k) f f_o = some (0, vp_updL f_o 0 (((f m).toInt8.toInt32) &&& (255 : Int32)).toInt64) := by
      rw [fLa_byteAt, fPB_byteAt, if_neg q, if_pos (nI_lt q2 (by omega)), if_pos (nI_in (show m < 65546 by omega) (by omega)), nI_clamp hm]; rfl
    have e2 : fMo_byteAt N (nI m) (nI k) g = some (((f m).toInt8.toInt32) &&& (255 : Int32), 0) := by
      rw [fMo_byteAt, if_neg q, if_pos (nI_lt q2 (by omega)), if_pos (show (0 : Int32) ≤ 0 by decide), if_pos (nI_in (show m < 66000 by omega) (by omega)), nI_clamp hm, hfg m q2]
    rw [e1, Option.bind_some, if_pos i1, e2, Option.bind_some]
    exact tl rfl (fun _ => rfl)
  · have e5 : ¬ nI m < nI k := nI_nlt (by omega) hm
    rw [show fLa_byteAt N (nI m) (nI k) f f_o = some (1, f_o) by rw [fLa_byteAt, fPB_byteAt, if_neg q, if_neg e5]; rfl, Option.bind_some, if_pos i1, show fMo_byteAt N (nI m) (nI k) g = some (0, 1) by rw [fMo_byteAt, if_neg q, if_neg e5, if_neg (show ¬ (1 : Int32) ≤ 0 by decide)], Option.bind_some]
    exact tl rfl (fun e => absurd (show (1 : Int32) = 0 from e) (by decide))
theorem s_back_36 {N k : Nat} {f : Nat → Int32} (hk : k ≤ 65536) : ∀ (m u i : Nat) (g : Nat → Int32), i + m = k → m < u → rowEq i f g → ∃ g', fMo_back_36 N (nI k) f u (nI i) g = some g' ∧ rowEq k f g'
  | 0, u + 1, i, g, hi, hu, hg => by
    have e : i = k := by omega
    subst e
    rw [fMo_back_36, if_pos (nI_le (Nat.le_refl _) (by omega))]
    exact ⟨g, rfl, hg⟩
  | m + 1, u + 1, i, g, hi, hu, hg => by
    rw [fMo_back_36, if_neg (nI_ge (show i < k by omega) (by omega)), if_pos (nI_in (show i < 66000 by omega) (by omega)), if_pos (nI_in (show i < 65536 by omega) (by omega)), nI_clamp (show i < 2 ^ 31 by omega), nI_1]
    refine s_back_36 hk m u (i + 1) _ (by omega) (by omega) (fun j hj => ?_)
    by_cases e : j = i
    · rw [e, upd_same, by8_id]
    · rw [upd_ne e, hg j (by omega)]
theorem cpy_0 {k : Nat} (f g : Nat → Int32) : rowEq k (va_cpy f g 0 0 k) f := fun j hj => by
  rw [pk_cpy_in (by omega) (by omega), Nat.sub_zero, Nat.zero_add]
theorem s_become {N k : Nat} {f g : Nat → Int32} (hk : k ≤ 65546) : fRow_become N (nI k) g f = some (nI k, va_cpy f g 0 0 k) := by
  rw [fRow_become, show fRow_addFrom N (0 : Int32) (nI k) (0 : Int32) (nI k) g f = _ from s_addFrom (a := 0) (c := 0) hk (by omega) (by omega), Option.bind_some, Nat.zero_add]
theorem kk_590 {N n k : Nat} {f g pf pg : Nat → Int32} (hN : 70000 ≤ N) (hn : n ≤ 65536) (hfg : rowEq n f g) (hk : k ≤ 65546) (hp : rowEq k pf pg) : ∃ o n', fLa_law_590 N (nI n) (nI k) (nI n) f g (nI k) pf pg = some o ∧ n' ≤ 65536 ∧ o.2.1 = nI n' ∧ o.2.2.1 = nI n' ∧ rowEq n' o.2.2.2.1 o.2.2.2.2 := by
  rw [fLa_law_590, fLa_back, fPB_back]
  by_cases q : k ≤ 65536
  · have e : nI k ≤ (65536 : Int32) := nI_le (b := 65536) q (by omega)
    obtain ⟨g', a1, a2⟩ := s_back_36 (N := N) (f := pg) q k N 0 g (by omega) (by omega) (fun j hj => by omega)
    rw [if_pos e, s_become hk, Option.bind_some, Option.bind_some, Sum.elim_inl, Option.bind_some, fMo_back, if_pos e, if_pos (show (0 : Int32) ≤ 0 by decide), show fMo_back_36 N (nI k) pg N (0 : Int32) g = _ from a1, Option.bind_some, Option.bind_some, fMo_thrown, Option.bind_some, if_pos rfl]
    exact ⟨_, k, rfl, q, rfl, rfl, fun j hj => ((cpy_0 pf f j hj).trans (hp j hj)).trans (a2 j hj)⟩
  · have e : ¬ nI k ≤ (65536 : Int32) := nI_ge (a := 65536) (by omega) (by omega)
    rw [if_neg e, Option.bind_some, Sum.elim_inr, if_pos rfl, Option.bind_some, fMo_back, if_neg e, if_neg (show ¬ (1 : Int32) ≤ 0 by decide), Option.bind_some, fMo_thrown, Option.bind_some, if_pos rfl]
    exact ⟨_, n, rfl, hn, rfl, rfl, hfg⟩
theorem s_Mo_codeLength {N t u : Nat} {p2 : Int32} {oF oL : Nat → Int32} (ht : t ≤ 2) (hu : u = if t = 0 then 286 else if t = 1 then 30 else 19) : fMo_codeLength N (nI t) p2 oF oL = if p2 < 0 then some (0, 1) else if p2 < nI u then some (if t = 0 then oL p2.toNatClampNeg else if t = 1 then oL (288 + p2.toNatClampNeg) else oF p2.toNatClampNeg, 0) else some (0, 1) := by
  have h0 : ¬ nI t < 0 := by rcases (show t = 0 ∨ t = 1 ∨ t = 2 by omega) with e | e | e <;> subst e <;> decide
  have h1 : ¬ (2 : Int32) < nI t := by rcases (show t = 0 ∨ t = 1 ∨ t = 2 by omega) with e | e | e <;> subst e <;> decide
  have h2 : (if nI t = 0 then (286 : Int32) else (if nI t = (1 : Int32) then (30 : Int32) else (19 : Int32))) = nI u := by rcases (show t = 0 ∨ t = 1 ∨ t = 2 by omega) with e | e | e <;> subst e <;> subst hu <;> rfl
  rw [fMo_codeLength, if_neg h0, if_neg h1, h2]
  by_cases q : p2 < 0
  · rw [if_pos q, if_pos q, if_neg (show ¬ (1 : Int32) ≤ 0 by decide)]
  · rw [if_neg q, if_neg q]
    obtain ⟨m, hm, rfl⟩ := i_nat q
    have hu2 : u ≤ 286 := by rw [hu]; split <;> (try split) <;> omega
    by_cases q2 : m < u
    · rw [if_pos (nI_lt q2 (by omega)), if_pos (nI_lt q2 (by omega)), if_pos (show (0 : Int32) ≤ 0 by decide)]
      rcases (show t = 0 ∨ t = 1 ∨ t = 2 by omega) with e | e | e <;> subst e
      · rw [if_pos (show nI 0 = 0 from rfl), if_pos rfl, if_pos (nI_in (show m < 320 by omega) (by omega))]
      · rw [if_neg (show ¬ nI 1 = 0 by decide), if_pos (show nI 1 = (1 : Int32) from rfl), if_neg (show ¬ 1 = 0 by decide), if_pos rfl, show (288 : Int32) + nI m = nI (288 + m) from nI_add 288 m, if_pos (nI_in (show 288 + m < 320 by rw [hu] at q2; simp at q2; omega) (by omega)), nI_clamp (by omega), nI_clamp hm]
      · rw [if_neg (show ¬ nI 2 = 0 by decide), if_neg (show ¬ nI 2 = (1 : Int32) by decide), if_neg (show ¬ 2 = 0 by decide), if_neg (show ¬ 2 = 1 by decide), if_pos (nI_in (show m < 19 by rw [hu] at q2; simp at q2; omega) (by omega))]
    · rw [if_neg (nI_nlt (by omega) hm), if_neg (nI_nlt (by omega) hm), if_neg (show ¬ (1 : Int32) ≤ 0 by decide)]
theorem kk_410_0 {N n_sc a : Nat} {f_sc osl oL oF : Nat → Int32} {f_o : Nat → Int64} (hs : n_sc < 2 ^ 30) (ha : a + 6 ≤ n_sc) (hp : f_sc (nI a + (1 : Int32)).toNatClampNeg = 0) (h : ∀ x, x < 286 → osl x = oL x) : ∃ o, fLa_law_410_0 N n_sc f_sc f_o (nI a) 286 osl oL oF = some o := by
  have i1 : ¬ (nI a + (1 : Int32) < 0 ∨ n_sc ≤ (nI a + (1 : Int32)).toNatClampNeg) := sc_in hs ha 1 (by omega)
  have i2 : ¬ (nI a + (2 : Int32) < 0 ∨ n_sc ≤ (nI a + (2 : Int32)).toNatClampNeg) := sc_in hs ha 2 (by omega)
  rw [fLa_law_410_0, if_pos i1, if_pos i2, hp]
  generalize f_sc (nI a + (2 : Int32)).toNatClampNeg = p
  have M := s_Mo_codeLength (N := N) (t := 0) (u := 286) (p2 := p) (oF := oF) (oL := oL) (by omega) rfl
  by_cases q : p < 0
  · rw [if_pos q] at M
    rw [show fLa_codeLength_0 N p 286 osl f_o = some (1, f_o) by rw [fLa_codeLength_0, fPB_codeLength_0, if_pos q]; rfl, Option.bind_some, if_pos i1, if_pos i2, show fMo_codeLength N (0 : Int32) p oF oL = _ from M, Option.bind_some]
    exact tl rfl (fun e => absurd (show (1 : Int32) = 0 from e) (by decide))
  rw [if_neg q] at M
  obtain ⟨m, hm, rfl⟩ := i_nat q
  by_cases q2 : m < 286
  · rw [if_pos (nI_lt q2 (by omega)), if_pos rfl, nI_clamp hm] at M
    rw [show fLa_codeLength_0 N (nI m) 286 osl f_o = some (0, vp_updL f_o 0 (osl m).toInt64) by rw [fLa_codeLength_0, fPB_codeLength_0, if_neg q, if_pos (nI_lt q2 (by omega)), if_pos (nI_in q2 (by omega)), nI_clamp hm]; rfl, Option.bind_some, if_pos i1, if_pos i2, show fMo_codeLength N (0 : Int32) (nI m) oF oL = _ from M, Option.bind_some, h m q2]
    exact tl rfl (fun _ => rfl)
  · rw [if_neg (nI_nlt (by omega) hm)] at M
    rw [show fLa_codeLength_0 N (nI m) 286 osl f_o = some (1, f_o) by rw [fLa_codeLength_0, fPB_codeLength_0, if_neg q, if_neg (nI_nlt (by omega) hm)]; rfl, Option.bind_some, if_pos i1, if_pos i2, show fMo_codeLength N (0 : Int32) (nI m) oF oL = _ from M, Option.bind_some]
    exact tl rfl (fun e => absurd (show (1 : Int32) = 0 from e) (by decide))
theorem kk_410_1 {N n_sc a : Nat} {f_sc osl oL oF : Nat → Int32} {f_o : Nat → Int64} (hs : n_sc < 2 ^ 30) (ha : a + 6 ≤ n_sc) (hp : f_sc (nI a + (1 : Int32)).toNatClampNeg = 1) (h : ∀ x, x < 30 → osl x = oL (288 + x)) : ∃ o, fLa_law_410_1 N n_sc f_sc f_o (nI a) 30 osl oL oF = some o := by
  have i1 : ¬ (nI a + (1 : Int32) < 0 ∨ n_sc ≤ (nI a + (1 : Int32)).toNatClampNeg) := sc_in hs ha 1 (by omega)
  have i2 : ¬ (nI a + (2 : Int32) < 0 ∨ n_sc ≤ (nI a + (2 : Int32)).toNatClampNeg) := sc_in hs ha 2 (by omega)
  rw [fLa_law_410_1, if_pos i1, if_pos i2, hp]
  generalize f_sc (nI a + (2 : Int32)).toNatClampNeg = p
  have M := s_Mo_codeLength (N := N) (t := 1) (u := 30) (p2 := p) (oF := oF) (oL := oL) (by omega) rfl
  by_cases q : p < 0
  · rw [if_pos q] at M
    rw [show fLa_codeLength_1 N p 30 osl f_o = some (1, f_o) by rw [fLa_codeLength_1, fPB_codeLength_1, if_pos q]; rfl, Option.bind_some, if_pos i1, if_pos i2, show fMo_codeLength N (1 : Int32) p oF oL = _ from M, Option.bind_some]
    exact tl rfl (fun e => absurd (show (1 : Int32) = 0 from e) (by decide))
  rw [if_neg q] at M
  obtain ⟨m, hm, rfl⟩ := i_nat q
  by_cases q2 : m < 30
  · rw [if_pos (nI_lt q2 (by omega)), if_neg (show ¬ 1 = 0 by decide), if_pos rfl, nI_clamp hm] at M
    rw [show fLa_codeLength_1 N (nI m) 30 osl f_o = some (0, vp_updL f_o 0 (osl m).toInt64) by rw [fLa_codeLength_1, fPB_codeLength_1, if_neg q, if_pos (nI_lt q2 (by omega)), if_pos (nI_in q2 (by omega)), nI_clamp hm]; rfl, Option.bind_some, if_pos i1, if_pos i2, show fMo_codeLength N (1 : Int32) (nI m) oF oL = _ from M, Option.bind_some, h m q2]
    exact tl rfl (fun _ => rfl)
  · rw [if_neg (nI_nlt (by omega) hm)] at M
    rw [show fLa_codeLength_1 N (nI m) 30 osl f_o = some (1, f_o) by rw [fLa_codeLength_1, fPB_codeLength_1, if_neg q, if_neg (nI_nlt (by omega) hm)]; rfl, Option.bind_some, if_pos i1, if_pos i2, show fMo_codeLength N (1 : Int32) (nI m) oF oL = _ from M, Option.bind_some]
    exact tl rfl (fun e => absurd (show (1 : Int32) = 0 from e) (by decide))
theorem kk_410_2 {N n_sc a : Nat} {f_sc osl oL oF : Nat → Int32} {f_o : Nat → Int64} (hs : n_sc < 2 ^ 30) (ha : a + 6 ≤ n_sc) (hp : f_sc (nI a + (1 : Int32)).toNatClampNeg = 2) (h : ∀ x, x < 19 → osl x = oF x) : ∃ o, fLa_law_410_2 N n_sc f_sc f_o (nI a) 19 osl oL oF = some o := by
  have i1 : ¬ (nI a + (1 : Int32) < 0 ∨ n_sc ≤ (nI a + (1 : Int32)).toNatClampNeg) := sc_in hs ha 1 (by omega)
  have i2 : ¬ (nI a + (2 : Int32) < 0 ∨ n_sc ≤ (nI a + (2 : Int32)).toNatClampNeg) := sc_in hs ha 2 (by omega)
  rw [fLa_law_410_2, if_pos i1, if_pos i2, hp]
  generalize f_sc (nI a + (2 : Int32)).toNatClampNeg = p
  have M := s_Mo_codeLength (N := N) (t := 2) (u := 19) (p2 := p) (oF := oF) (oL := oL) (by omega) rfl
  by_cases q : p < 0
  · rw [if_pos q] at M
    rw [show fLa_codeLength_2 N p 19 osl f_o = some (1, f_o) by rw [fLa_codeLength_2, fPB_codeLength_2, if_pos q]; rfl, Option.bind_some, if_pos i1, if_pos i2, show fMo_codeLength N (2 : Int32) p oF oL = _ from M, Option.bind_some]
    exact tl rfl (fun e => absurd (show (1 : Int32) = 0 from e) (by decide))
  rw [if_neg q] at M
  obtain ⟨m, hm, rfl⟩ := i_nat q
  by_cases q2 : m < 19
  · rw [if_pos (nI_lt q2 (by omega)), if_neg (show ¬ 2 = 0 by decide), if_neg (show ¬ 2 = 1 by decide), nI_clamp hm] at M
    rw [show fLa_codeLength_2 N (nI m) 19 osl f_o = some (0, vp_updL f_o 0 (osl m).toInt64) by rw [fLa_codeLength_2, fPB_codeLength_2, if_neg q, if_pos (nI_lt q2 (by omega)), if_pos (nI_in q2 (by omega)), nI_clamp hm]; rfl, Option.bind_some, if_pos i1, if_pos i2, show fMo_codeLength N (2 : Int32) (nI m) oF oL = _ from M, Option.bind_some, h m q2]
    exact tl rfl (fun _ => rfl)
  · rw [if_neg (nI_nlt (by omega) hm)] at M
    rw [show fLa_codeLength_2 N (nI m) 19 osl f_o = some (1, f_o) by rw [fLa_codeLength_2, fPB_codeLength_2, if_neg q, if_neg (nI_nlt (by omega) hm)]; rfl, Option.bind_some, if_pos i1, if_pos i2, show fMo_codeLength N (2 : Int32) (nI m) oF oL = _ from M, Option.bind_some]
    exact tl rfl (fun e => absurd (show (1 : Int32) = 0 from e) (by decide))
theorem kk_410_g {N n_sc a : Nat} {f_sc oL oF : Nat → Int32} {f_o : Nat → Int64} (hs : n_sc < 2 ^ 30) (ha : a + 6 ≤ n_sc) (h0 : ¬ f_sc (nI a + (1 : Int32)).toNatClampNeg = 0) (h1 : ¬ f_sc (nI a + (1 : Int32)).toNatClampNeg = 1) (h2 : ¬ f_sc (nI a + (1 : Int32)).toNatClampNeg = 2) : ∃ o, fLa_law_410_g N n_sc f_sc f_o (nI a) oL oF = some o := by
  have i1 : ¬ (nI a + (1 : Int32) < 0 ∨ n_sc ≤ (nI a + (1 : Int32)).toNatClampNeg) := sc_in hs ha 1 (by omega)
  have i2 : ¬ (nI a + (2 : Int32) < 0 ∨ n_sc ≤ (nI a + (2 : Int32)).toNatClampNeg) := sc_in hs ha 2 (by omega)
  rw [fLa_law_410_g, if_pos i1, if_pos i2]
  generalize f_sc (nI a + (1 : Int32)).toNatClampNeg = p at *
  generalize f_sc (nI a + (2 : Int32)).toNatClampNeg = p2 at *
  have M : fLa_codeLength N p = some 1 ∧ fMo_codeLength N p p2 oF oL = some (0, 1) := by
    by_cases q : p < 0
    · exact ⟨by rw [fLa_codeLength, fPB_codeLength, if_pos q]; rfl, by rw [fMo_codeLength, if_pos q, if_neg (show ¬ (1 : Int32) ≤ 0 by decide)]⟩
    obtain ⟨m, hm, rfl⟩ := i_nat q
    have hm3 : 2 < m := by
      rcases (show m = 0 ∨ m = 1 ∨ m = 2 ∨ 2 < m by omega) with e | e | e | e
      · exact absurd (by rw [e]; rfl) h0
      · exact absurd (by rw [e]; rfl) h1
      · exact absurd (by rw [e]; rfl) h2
      · exact e
    exact ⟨by rw [fLa_codeLength, fPB_codeLength, if_neg q, if_neg (show ¬ nI m ≤ (2 : Int32) from nI_ge (a := 2) hm3 hm)]; rfl, by rw [fMo_codeLength, if_neg q, if_pos (show (2 : Int32) < nI m from nI_lt (a := 2) hm3 hm), if_neg (show ¬ (1 : Int32) ≤ 0 by decide)]⟩
  rw [M.1, Option.bind_some, if_pos i1, if_pos i2, M.2, Option.bind_some, fMo_thrown, Option.bind_some, if_pos rfl, if_neg (show ¬ (1 : Int32) = 0 by decide)]
  exact ⟨_, rfl⟩
