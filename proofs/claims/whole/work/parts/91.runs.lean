/-! The header: its items. -/
theorem sh5_or {mo sy : Nat} (h : sy < 32) : (nI mo <<< ((5 : Int32) &&& 31)) ||| nI sy = nI (mo * 32 + sy) := by
  rw [show nI mo <<< ((5 : Int32) &&& 31) = nI (mo * 2 ^ 5) from nI_shl mo (show 5 < 32 by omega), nx_or, Nat.or_comm, or_add (k := 5) (by omega), Nat.add_comm]
theorem s_addItem {N sy mo t : Nat} {it cn : Nat → Int32} (hs : sy < 19) (ht : t < 316) : fHeader_addItem N (nI sy) (nI mo) (nI t) it cn = some (nI (t + 1), upd it t (nI (mo * 32 + sy)), upd cn sy (cn sy + 1)) := by
  rw [fHeader_addItem, if_pos (nI_in ht (by omega)), if_pos (nI_in hs (by omega)), if_pos (nI_in hs (by omega)), nI_1, nI_clamp (show t < 2 ^ 31 by omega), nI_clamp (show sy < 2 ^ 31 by omega), sh5_or (by omega)]
theorem s_item_C {N n i t k : Nat} {f cn it : Nat → Int32} {W : Nat → Nat} (hN : 400 ≤ N) (hn : n ≤ 316) (hi : i < n) (ht : t < 316) (hf : ∀ j, j < n → f j = nI (W j) ∧ W j < 16) :
    fHeader_listItems_15 N (nI n) f (k + 1) (nI i) (nI t) cn it = fHeader_listItems_15 N (nI n) f k (nI (i + (itm W n i).2.2)) (nI (t + 1)) (upd cn (itm W n i).1 (cn (itm W n i).1 + 1)) (upd it t (nI ((itm W n i).2.1 * 32 + (itm W n i).1))) := by
  have hr0 := s_run (N := N) (v := 0) (i := i) (n := n) (cap := 138) (f := f) (W := W) hN hn (by omega) (by omega) hf (by omega)
  have hr0' : fHeader_run N (0 : Int32) (nI i) (if (nI i + (138 : Int32)) < nI n then (nI i + (138 : Int32)) else nI n) f = some (nI (min 138 (rl W 0 n i))) := hr0
  have hz138 : min 138 (rl W 0 n i) ≤ 138 := by omega
  obtain ⟨f1, f2⟩ := hf i hi
  have hin : ¬ (nI i < 0 ∨ 316 ≤ (nI i).toNatClampNeg) := nI_in (by omega) (by omega)
  rw [fHeader_listItems_15, if_neg (show ¬ nI n ≤ nI i from nI_ge (by omega) (by omega)), hr0', Option.bind_some]
  have hs0 := s_addItem (N := N) (sy := W i) (mo := 0) (t := t) (it := it) (cn := cn) (by omega) ht
  have a0 : nI 0 = (0 : Int32) := rfl
  by_cases h0 : i = 0
  · rw [if_pos (show nI i ≤ (0 : Int32) by rw [h0]; decide)]
    by_cases c1 : 11 ≤ min 138 (rl W 0 n i)
    · have ei : itm W n i = (18, min 138 (rl W 0 n i) - 11, min 138 (rl W 0 n i)) := if_pos c1
      rw [ei, if_neg (show ¬ nI (min 138 (rl W 0 n i)) < (11 : Int32) from nI_nlt (b := 11) c1 (by omega)), show nI (min 138 (rl W 0 n i)) - (11 : Int32) = nI (min 138 (rl W 0 n i) - 11) from nI_sub (b := 11) c1, show fHeader_addItem N (18 : Int32) (nI (min 138 (rl W 0 n i) - 11)) (nI t) it cn = _ from s_addItem (sy := 18) (by omega) ht, Option.bind_some, nI_add]
    · rw [if_pos (show nI (min 138 (rl W 0 n i)) < (11 : Int32) from nI_lt (b := 11) (by omega) (by omega))]
      by_cases c2 : 3 ≤ min 138 (rl W 0 n i)
      · have ei : itm W n i = (17, min 138 (rl W 0 n i) - 3, min 138 (rl W 0 n i)) := by rw [itm, if_neg c1, if_pos c2]
        rw [ei, if_neg (show ¬ nI (min 138 (rl W 0 n i)) < (3 : Int32) from nI_nlt (b := 3) c2 (by omega)), show nI (min 138 (rl W 0 n i)) - (3 : Int32) = nI (min 138 (rl W 0 n i) - 3) from nI_sub (b := 3) c2, show fHeader_addItem N (17 : Int32) (nI (min 138 (rl W 0 n i) - 3)) (nI t) it cn = _ from s_addItem (sy := 17) (by omega) ht, Option.bind_some, nI_add]
      · have ei : itm W n i = (W i, 0, 1) := by rw [itm, if_neg c1, if_neg c2, if_pos h0, if_neg (by omega)]
        rw [ei, if_pos (show nI (min 138 (rl W 0 n i)) < (3 : Int32) from nI_lt (b := 3) (by omega) (by omega)), if_pos (show (0 : Int32) < (3 : Int32) by decide), if_pos hin, nI_clamp (show i < 2 ^ 31 by omega), f1, show fHeader_addItem N (nI (W i)) (0 : Int32) (nI t) it cn = _ from hs0, Option.bind_some, nI_1]
  · obtain ⟨p1, p2⟩ := hf (i - 1) (by omega)
    have hr1 := s_run (N := N) (v := W (i - 1)) (i := i) (n := n) (cap := 6) (f := f) (W := W) hN hn (by omega) (by omega) hf p2
    have hr1' : fHeader_run N (nI (W (i - 1))) (nI i) (if (nI i + (6 : Int32)) < nI n then (nI i + (6 : Int32)) else nI n) f = some (nI (min 6 (rl W (W (i - 1)) n i))) := hr1
    have hs6 : min 6 (rl W (W (i - 1)) n i) ≤ 6 := by omega
    rw [if_neg (show ¬ nI i ≤ (0 : Int32) from nI_ge (a := 0) (by omega) (by omega)), show nI i - (1 : Int32) = nI (i - 1) from nI_sub (b := 1) (by omega), if_pos (nI_in (show i - 1 < 316 by omega) (by omega)), nI_clamp (show i - 1 < 2 ^ 31 by omega), p1, hr1', Option.bind_some]
    by_cases c1 : 11 ≤ min 138 (rl W 0 n i)
    · have ei : itm W n i = (18, min 138 (rl W 0 n i) - 11, min 138 (rl W 0 n i)) := if_pos c1
      rw [ei, if_neg (show ¬ nI (min 138 (rl W 0 n i)) < (11 : Int32) from nI_nlt (b := 11) c1 (by omega)), show nI (min 138 (rl W 0 n i)) - (11 : Int32) = nI (min 138 (rl W 0 n i) - 11) from nI_sub (b := 11) c1, show fHeader_addItem N (18 : Int32) (nI (min 138 (rl W 0 n i) - 11)) (nI t) it cn = _ from s_addItem (sy := 18) (by omega) ht, Option.bind_some, nI_add]
    · rw [if_pos (show nI (min 138 (rl W 0 n i)) < (11 : Int32) from nI_lt (b := 11) (by omega) (by omega))]
      by_cases c2 : 3 ≤ min 138 (rl W 0 n i)
      · have ei : itm W n i = (17, min 138 (rl W 0 n i) - 3, min 138 (rl W 0 n i)) := by rw [itm, if_neg c1, if_pos c2]
        rw [ei, if_neg (show ¬ nI (min 138 (rl W 0 n i)) < (3 : Int32) from nI_nlt (b := 3) c2 (by omega)), show nI (min 138 (rl W 0 n i)) - (3 : Int32) = nI (min 138 (rl W 0 n i) - 3) from nI_sub (b := 3) c2, show fHeader_addItem N (17 : Int32) (nI (min 138 (rl W 0 n i) - 3)) (nI t) it cn = _ from s_addItem (sy := 17) (by omega) ht, Option.bind_some, nI_add]
      · rw [if_pos (show nI (min 138 (rl W 0 n i)) < (3 : Int32) from nI_lt (b := 3) (by omega) (by omega))]
        by_cases c3 : 3 ≤ min 6 (rl W (W (i - 1)) n i)
        · have ei : itm W n i = (16, min 6 (rl W (W (i - 1)) n i) - 3, min 6 (rl W (W (i - 1)) n i)) := by rw [itm, if_neg c1, if_neg c2, if_neg h0, if_pos c3]
          rw [ei, if_neg (show ¬ nI (min 6 (rl W (W (i - 1)) n i)) < (3 : Int32) from nI_nlt (b := 3) c3 (by omega)), show nI (min 6 (rl W (W (i - 1)) n i)) - (3 : Int32) = nI (min 6 (rl W (W (i - 1)) n i) - 3) from nI_sub (b := 3) c3, show fHeader_addItem N (16 : Int32) (nI (min 6 (rl W (W (i - 1)) n i) - 3)) (nI t) it cn = _ from s_addItem (sy := 16) (by omega) ht, Option.bind_some, nI_add]
        · have ei : itm W n i = (W i, 0, 1) := by rw [itm, if_neg c1, if_neg c2, if_neg h0, if_neg c3]
          rw [ei, if_pos (show nI (min 6 (rl W (W (i - 1)) n i)) < (3 : Int32) from nI_lt (b := 3) (by omega) (by omega)), if_pos hin, nI_clamp (show i < 2 ^ 31 by omega), f1, show fHeader_addItem N (nI (W i)) (0 : Int32) (nI t) it cn = _ from hs0, Option.bind_some, nI_1]
theorem s_item_M {N n i t k : Nat} {f fc run rest : Nat → Int32} {W : Nat → Nat} (hN : 400 ≤ N) (hn : n ≤ 316) (hi : i < n) (ht : t < 316) (hf : ∀ j, j < n → f j = nI (W j) ∧ W j < 16) :
    ∃ run' rest', fMo_findRuns_192 N (nI n) f (k + 1) (nI i) (nI t) fc run rest = fMo_findRuns_192 N (nI n) f k (nI (i + (itm W n i).2.2)) (nI (t + 1)) (upd fc (itm W n i).1 (fc (itm W n i).1 + 1)) run' rest' ∧ run' t = nI (itm W n i).1 ∧ rest' t = nI (itm W n i).2.1 ∧ ∀ q, q < t → run' q = run q ∧ rest' q = rest q := by
  have hr0 := s_runOf (N := N) (v := 0) (i := i) (n := n) (f := f) (W := W) hN hn (by omega) hf (by omega)
  have hr0' : fMo_runOf N (nI i) (nI n) (0 : Int32) f = some (nI (rl W 0 n i)) := hr0
  have hz := rl_le (W := W) (v := 0) (n := n) (i := i) (by omega)
  obtain ⟨f1, f2⟩ := hf i hi
  have hok := itm_ok (W := W) hi f2
  have hin : ¬ (nI i < 0 ∨ 320 ≤ (nI i).toNatClampNeg) := nI_in (by omega) (by omega)
  have hint : ¬ (nI t < 0 ∨ 320 ≤ (nI t).toNatClampNeg) := nI_in (by omega) (by omega)
  have h205 : fMo_findRuns_205 N (nI n) f (nI i) = some (nI (if i = 0 then 0 else rl W (W (i - 1)) n i)) := by
    rw [fMo_findRuns_205]
    by_cases h0 : i = 0
    · rw [if_pos (show nI i ≤ (0 : Int32) by rw [h0]; decide), if_pos h0]
      rfl
    · obtain ⟨p1, p2⟩ := hf (i - 1) (by omega)
      rw [if_neg (show ¬ nI i ≤ (0 : Int32) from nI_ge (a := 0) (by omega) (by omega)), if_neg h0, show nI i - (1 : Int32) = nI (i - 1) from nI_sub (b := 1) (by omega), if_pos (nI_in (show i - 1 < 320 by omega) (by omega)), nI_clamp (show i - 1 < 2 ^ 31 by omega), p1, s_runOf hN hn (by omega) hf p2]
      rfl
  have hs2 := rl_le (W := W) (v := W (i - 1)) (n := n) (i := i) (by omega)
  have h257 : ∃ run' rest', fMo_findRuns_257 N (nI t) (nI (rl W 0 n i)) (upd run t (nI (W i))) (upd rest t (nI 0)) (nI (if i = 0 then 0 else rl W (W (i - 1)) n i)) (nI 1) = some (nI (itm W n i).2.2, run', rest') ∧ run' t = nI (itm W n i).1 ∧ rest' t = nI (itm W n i).2.1 ∧ ∀ q, q < t → run' q = run q ∧ rest' q = rest q := by
    have hsle : (if i = 0 then 0 else rl W (W (i - 1)) n i) ≤ 316 := by split <;> omega
    have hs6 : (if i = 0 then 0 else min 6 (rl W (W (i - 1)) n i)) = min 6 (if i = 0 then 0 else rl W (W (i - 1)) n i) := by split <;> omega
    rw [fMo_findRuns_257, itm, hs6]
    generalize (if i = 0 then 0 else rl W (W (i - 1)) n i) = s at *
    generalize rl W 0 n i = z at *
    by_cases c1 : 11 ≤ min 138 z
    · have e138 : (if (138 : Int32) ≤ nI z then (138 : Int32) else nI z) = nI (min 138 z) := by
        by_cases q : 138 ≤ z
        · rw [if_pos (show (138 : Int32) ≤ nI z from nI_le (a := 138) q (by omega)), Nat.min_eq_left q]
          rfl
        · rw [if_neg (show ¬ (138 : Int32) ≤ nI z from nI_ge (b := 138) (by omega) (by omega)), Nat.min_eq_right (by omega)]
      rw [if_pos c1, if_neg (show ¬ nI z ≤ (10 : Int32) from nI_ge (a := 10) (by omega) (by omega)), if_pos hint, if_pos hint, nI_clamp (show t < 2 ^ 31 by omega), e138, show nI (min 138 z) - (11 : Int32) = nI (min 138 z - 11) from nI_sub (b := 11) c1]
      exact ⟨_, _, rfl, upd_same _ _ _, upd_same _ _ _, fun q hq => by rw [upd_ne (by omega), upd_ne (by omega), upd_ne (by omega), upd_ne (by omega)]; exact ⟨rfl, rfl⟩⟩
    · rw [if_neg c1, if_pos (show nI z ≤ (10 : Int32) from nI_le (b := 10) (by omega) (by omega))]
      by_cases c2 : 3 ≤ min 138 z
      · have ez : min 138 z = z := by omega
        rw [if_pos c2, ez, if_neg (show ¬ nI z ≤ (2 : Int32) from nI_ge (a := 2) (by omega) (by omega)), if_pos hint, if_pos hint, nI_clamp (show t < 2 ^ 31 by omega), show nI z - (3 : Int32) = nI (z - 3) from nI_sub (b := 3) (by omega)]
        exact ⟨_, _, rfl, upd_same _ _ _, upd_same _ _ _, fun q hq => by rw [upd_ne (by omega), upd_ne (by omega), upd_ne (by omega), upd_ne (by omega)]; exact ⟨rfl, rfl⟩⟩
      · rw [if_neg c2, if_pos (show nI z ≤ (2 : Int32) from nI_le (b := 2) (by omega) (by omega))]
        by_cases c3 : 3 ≤ min 6 s
        · have e6 : (if (6 : Int32) ≤ nI s then (6 : Int32) else nI s) = nI (min 6 s) := by
            by_cases q : 6 ≤ s
            · rw [if_pos (show (6 : Int32) ≤ nI s from nI_le (a := 6) q (by omega)), Nat.min_eq_left q]
              rfl
            · rw [if_neg (show ¬ (6 : Int32) ≤ nI s from nI_ge (b := 6) (by omega) (by omega)), Nat.min_eq_right (by omega)]
          rw [if_pos c3, if_neg (show ¬ nI s ≤ (2 : Int32) from nI_ge (a := 2) (by omega) (by omega)), if_pos hint, if_pos hint, nI_clamp (show t < 2 ^ 31 by omega), e6, show nI (min 6 s) - (3 : Int32) = nI (min 6 s - 3) from nI_sub (b := 3) c3]
          exact ⟨_, _, rfl, upd_same _ _ _, upd_same _ _ _, fun q hq => by rw [upd_ne (by omega), upd_ne (by omega), upd_ne (by omega), upd_ne (by omega)]; exact ⟨rfl, rfl⟩⟩
        · rw [if_neg c3, if_pos (show nI s ≤ (2 : Int32) from nI_le (b := 2) (by omega) (by omega))]
          exact ⟨_, _, rfl, upd_same _ _ _, upd_same _ _ _, fun q hq => by rw [upd_ne (by omega), upd_ne (by omega)]; exact ⟨rfl, rfl⟩⟩
  obtain ⟨run', rest', g1, g2, g3, g4⟩ := h257
  refine ⟨run', rest', ?_, g2, g3, g4⟩
  rw [fMo_findRuns_192, if_neg (show ¬ nI n ≤ nI i from nI_ge (by omega) (by omega)), hr0', Option.bind_some, h205, Option.bind_some, if_pos hin, if_pos hint, if_pos hint, nI_clamp (show t < 2 ^ 31 by omega), nI_clamp (show i < 2 ^ 31 by omega), f1]
  rw [show fMo_findRuns_257 N (nI t) (nI (rl W 0 n i)) (upd run t (nI (W i))) (upd rest t (0 : Int32)) (nI (if i = 0 then 0 else rl W (W (i - 1)) n i)) (1 : Int32) = _ from g1, Option.bind_some, if_pos (nin (show t < 320 by omega) (by omega))]
  have hc19 : ¬ (run' t < 0 ∨ 19 ≤ (run' t).toNatClampNeg) := by rw [g2]; exact nI_in hok.1 (by omega)
  have hcl : (run' t).toNatClampNeg = (itm W n i).1 := by rw [g2, nI_clamp (by omega)]
  show (if ¬ (run' t < 0 ∨ 19 ≤ (run' t).toNatClampNeg) then (if ¬ (run' t < 0 ∨ 19 ≤ (run' t).toNatClampNeg) then fMo_findRuns_192 N (nI n) f k (nI i + nI (itm W n i).2.2) (nI t + 1) (upd fc (run' t).toNatClampNeg (fc (run' t).toNatClampNeg + 1)) run' rest' else none) else none) = _
  rw [if_pos hc19, if_pos hc19, hcl, nI_add, nI_1]
/-- k items alike -/
def ITM (k : Nat) (Is Im : Nat → Nat) (it run rest : Nat → Int32) : Prop := ∀ q, q < k → Is q < 19 ∧ Im q < 2 ^ rbits (Is q) ∧ it q = nI (Im q * 32 + Is q) ∧ run q = nI (Is q) ∧ rest q = nI (Im q)
theorem u_items {N n : Nat} {f g : Nat → Int32} {W : Nat → Nat} (hN : 400 ≤ N) (hn : n ≤ 316) (hf : ∀ j, j < n → f j = nI (W j) ∧ W j < 16) (hg : ∀ j, j < n → g j = nI (W j) ∧ W j < 16) :
    ∀ (d k k' i t : Nat) (cn it fc run rest : Nat → Int32) (Is Im : Nat → Nat), i + d = n → d < k → d < k' → t ≤ i → ITM t Is Im it run rest → (∀ s, s < 19 → cn s = nI (cnt Is t s)) → (∀ s, s < 19 → fc s = nI (cnt Is t s)) →
      ∃ t' cn' it' fc' run' rest' Is' Im', fHeader_listItems_15 N (nI n) f k (nI i) (nI t) cn it = some (nI t', cn', it') ∧ fMo_findRuns_192 N (nI n) g k' (nI i) (nI t) fc run rest = some (nI t', fc', run', rest') ∧ t' ≤ n ∧ ITM t' Is' Im' it' run' rest' ∧ (∀ s, s < 19 → cn' s = nI (cnt Is' t' s)) ∧ ∀ s, s < 19 → fc' s = nI (cnt Is' t' s) := by
  intro d
  induction d using Nat.strongRecOn with
  | _ d ih =>
    intro k k' i t cn it fc run rest Is Im hd hk hk' ht hI hcn hfc
    obtain ⟨k, rfl⟩ : ∃ j, k = j + 1 := ⟨k - 1, by omega⟩
    obtain ⟨k', rfl⟩ : ∃ j, k' = j + 1 := ⟨k' - 1, by omega⟩
    by_cases hin : i < n
    · have hok := itm_ok (W := W) hin (hf i hin).2
      have h1 := s_item_C (N := N) (k := k) (t := t) (cn := cn) (it := it) hN hn hin (by omega) hf
      obtain ⟨run1, rest1, h2, h3, h4, h5⟩ := s_item_M (N := N) (k := k') (t := t) (fc := fc) (run := run) (rest := rest) hN hn hin (by omega) hg
      rw [h1, h2]
      generalize itm W n i = z at *
      obtain ⟨sy, mo, st⟩ := z
      dsimp only at hok h3 h4 ⊢
      have hcl := cnt_le Is sy t
      have hupd : ∀ (c : Nat → Int32), (∀ s, s < 19 → c s = nI (cnt Is t s)) → ∀ s, s < 19 → upd c sy (c sy + 1) s = nI (cnt (updN Is t sy) (t + 1) s) := by
        intro c hc s hs
        have ecn : ∀ u v, u ≤ t → cnt (updN Is t sy) u v = cnt Is u v := by
          intro u v hu
          induction u with
          | zero => rfl
          | succ u ihu => rw [cnt, cnt, ihu (by omega), updN_ne (by omega)]
        rw [cnt, updN_same, ecn t s (Nat.le_refl _)]
        by_cases e : s = sy
        · rw [e, upd_same, if_pos rfl, hc sy hok.1, nI_1]
        · rw [upd_ne e, if_neg (Ne.symm e), Nat.add_zero, hc s hs]
      exact ih (n - (i + st)) (by omega) k k' (i + st) (t + 1) _ _ _ run1 rest1 (updN Is t sy) (updN Im t mo) (by omega) (by omega) (by omega) (by omega) (by
        intro q hq
        by_cases e : q = t
        · rw [e, updN_same, updN_same, upd_same]
          exact ⟨hok.1, hok.2.1, rfl, h3, h4⟩
        · rw [updN_ne e, updN_ne e, upd_ne e, (h5 q (by omega)).1, (h5 q (by omega)).2]
          exact hI q (by omega)) (hupd cn hcn) (hupd fc hfc)
    · have e : i = n := by omega
      subst e
      refine ⟨t, cn, it, fc, run, rest, Is, Im, ?_, ?_, ht, hI, hcn, hfc⟩
      · rw [fHeader_listItems_15, if_pos (nI_le (Nat.le_refl _) (by omega))]
      · rw [fMo_findRuns_192, if_pos (nI_le (Nat.le_refl _) (by omega))]
