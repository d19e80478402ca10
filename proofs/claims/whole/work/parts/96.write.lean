/-! Writing: the symbols of a block whole, and the header. -/
theorem fc_congr {c d : Nat → Nat} : ∀ l, (∀ x, 1 ≤ x → x < l → c x = d x) → fc c l = fc d l
  | 0, _ => rfl
  | l + 1, h => by
    rw [fc, fc]
    by_cases e : l = 0
    · rw [if_pos e, if_pos e]
    · rw [if_neg e, if_neg e, fc_congr l (fun x a b => h x a (by omega)), h l (by omega) (by omega)]
theorem codeV_ext {L : Nat → Nat} {n d s : Nat} (h0 : ∀ j, n ≤ j → j < n + d → L j = 0) : codeV L (n + d) s = codeV L n s := by
  rw [codeV, codeV, fc_congr _ (fun x a _ => cnt_ext d h0 x a)]
theorem codeV_ext' {L : Nat → Nat} {n m s : Nat} (hnm : n ≤ m) (h0 : ∀ j, n ≤ j → j < m → L j = 0) : codeV L m s = codeV L n s := by
  obtain ⟨d, rfl⟩ : ∃ d, m = n + d := ⟨m - n, by omega⟩
  exact codeV_ext h0
/-- the numbers of both codes, and so codes alike -/
theorem u_numbers {N n1 n2 : Nat} {L D : Nat → Nat} {l1 b1 l2 b2 lens nums fi : Nat → Int32} (hN : 300 ≤ N) (hn1 : n1 ≤ 288) (hn2 : n2 ≤ 32) (hl : ∀ x, x < 288 → lens x = nI (L x)) (hd : ∀ x, x < 32 → lens (288 + x) = nI (D x)) (hL : ∀ x, L x ≤ 15) (hD : ∀ x, D x ≤ 15) (hL0 : ∀ x, n1 ≤ x → x < 288 → L x = 0) (hD0 : ∀ x, n2 ≤ x → x < 32 → D x = 0) (h1 : ∀ x, x < n1 → l1 x = nI (L x)) (h2 : ∀ x, x < n2 → l2 x = nI (D x)) (c1 : codeT n1 L b1) (c2 : codeT n2 D b2) :
    ∃ fi1 nu1 fi2 nu2, fMo_number N (0 : Int32) (288 : Int32) fi 320 lens 320 nums = some (fi1, nu1) ∧ fMo_number N (288 : Int32) (32 : Int32) fi1 320 lens 320 nu1 = some (fi2, nu2) ∧ CODE n1 0 L (codeV L n1) l1 b1 lens nu2 ∧ CODE n2 288 D (codeV D n2) l2 b2 lens nu2 := by
  obtain ⟨fi1, nu1, a1, a2, a3⟩ := s_Mo_number (N := N) (x3 := 0) (n := 288) (n1 := 320) (n2 := 320) (f := lens) (L := L) hN (by omega) (by omega) (by omega) (by omega) (by omega) (fun j hj => by rw [Nat.zero_add]; exact hl j hj) (fun j _ => by have := hL j; omega) fi nums
  obtain ⟨fi2, nu2, b3, b4, b5⟩ := s_Mo_number (N := N) (x3 := 288) (n := 32) (n1 := 320) (n2 := 320) (f := lens) (L := D) hN (by omega) (by omega) (by omega) (by omega) (by omega) (fun j hj => hd j hj) (fun j _ => by have := hD j; omega) fi1 nu1
  refine ⟨fi1, nu1, fi2, nu2, a1, b3, fun s hs => ⟨h1 s hs, by rw [Nat.zero_add]; exact hl s (by omega), hL s, fun hp => ⟨c1 s hs hp, ?_, ?_⟩⟩, fun s hs => ⟨h2 s hs, hd s (by omega), hD s, fun hp => ⟨c2 s hs hp, ?_, ?_⟩⟩⟩
  · rw [b5 _ (Or.inl (by omega)), a2 s (by omega) hp]
    rw [codeV_ext' hn1 hL0]
  · have := codeV_lt (L := L) hn1 hs (by have := hL s; omega)
    omega
  · rw [b4 s (by omega) hp, codeV_ext' hn2 hD0]
  · have := codeV_lt (L := D) (n := n2) (by omega) hs (by have := hD s; omega)
    omega
/-- the symbols of a block, to its end -/
theorem u_writeTokens {N t n1 n2 T : Nat} {Lf Df L D : Nat → Nat} {tc tm l1 b1 l2 b2 lens nums fi cells prod : Nat → Int32} {held hb count out : Int32} (hN : 70000 ≤ N) (ht : t ≤ 65536) (htok : TOK t Lf Df tc tm) (hend : tm t = nI 256) (hn1 : 286 ≤ n1) (hn1b : n1 ≤ 288) (hn2 : 30 ≤ n2) (hn2b : n2 ≤ 32) (hl : ∀ x, x < 288 → lens x = nI (L x)) (hd : ∀ x, x < 32 → lens (288 + x) = nI (D x)) (hL : ∀ x, L x ≤ 15) (hD : ∀ x, D x ≤ 15) (hL0 : ∀ x, n1 ≤ x → x < 288 → L x = 0) (hD0 : ∀ x, n2 ≤ x → x < 32 → D x = 0) (h1 : ∀ x, x < n1 → l1 x = nI (L x)) (h2 : ∀ x, x < n2 → l2 x = nI (D x)) (c1 : codeT n1 L b1) (c2 : codeT n2 D b2) (hLs : ∀ i, i < t → 1 ≤ L (sy Lf Df i)) (hL256 : 1 ≤ L 256) (hDs : ∀ i, i < t → ¬ Lf i = 0 → 1 ≤ D (dS (Df i))) (h : WR T held hb count cells out prod) (hT : T + (sumL (tkb Lf Df L D) 0 t + L 256) ≤ 8 * 65546) :
    ∃ cells' fi' nu' prod', fPacker_writeTokens N (nI t) tc n1 b1 n1 l1 held hb count cells n2 b2 n2 l2 = some (0, 0, nI ((T + (sumL (tkb Lf Df L D) 0 t + L 256) + 7) / 8), cells') ∧ fMo_writeTokens N (nI (t + 1)) out fi lens nums tm prod = some (nI (T + (sumL (tkb Lf Df L D) 0 t + L 256)), fi', nu', prod') ∧ rowEq ((T + (sumL (tkb Lf Df L D) 0 t + L 256) + 7) / 8) cells' prod' := by
  obtain ⟨fi1, nu1, fi2, nu2, e1, e2, e3, e4⟩ := u_numbers (N := N) (lens := lens) (nums := nums) (fi := fi) (by omega) hn1b hn2b hl hd hL hD hL0 hD0 h1 h2 c1 c2
  obtain ⟨h3, b3, c3, ce3, ou3, pr3, g1, g2, g3⟩ := u_wtok (N := N) (by omega) ht htok hn1 hn1b hn2 hn2b e3 e4 hLs hDs t N 0 T held hb count out cells prod (by omega) (by omega) h (by omega)
  obtain ⟨h4, b4, c4, ce4, ou4, pr4, a1, a2, a3⟩ := WR_sym (N := N) (by omega) e3 (show 256 < n1 by omega) hL256 g3 (by omega)
  rw [Nat.zero_add] at a2
  rw [Nat.add_assoc] at a3
  obtain ⟨ce5, d1, d2, d3⟩ := WR_end (N := N) a3 hT
  have hin : ¬ ((256 : Int32) < 0 ∨ n1 ≤ (256 : Int32).toNatClampNeg) := nI_in (c := 256) (show 256 < n1 by omega) (by omega)
  refine ⟨ce5, fi2, nu2, pr4, ?_, ?_, d3⟩
  · rw [fPacker_writeTokens, show fPacker_writeTokens_11 N (nI t) tc n1 b1 n1 l1 n2 b2 n2 l2 N (0 : Int32) held hb count cells = _ from g1, Option.bind_some, if_pos hin, if_pos hin, show (256 : Int32).toNatClampNeg = 256 from by decide, a1, Option.bind_some, d1]
    rfl
  · obtain ⟨kk, hkk⟩ : ∃ kk, N = t + (kk + 2) := ⟨N - t - 2, by omega⟩
    have hmm : fMo_isMatch N (nI 256) = some false := rfl
    have hloop : fMo_writeTokens_35 N (nI (t + 1)) lens nu2 tm N (0 : Int32) out prod = some (ou4, pr4) := by
      have q := g2 (kk + 2)
      rw [← hkk] at q
      rw [show fMo_writeTokens_35 N (nI (t + 1)) lens nu2 tm N (0 : Int32) out prod = _ from q]
      rw [fMo_writeTokens_35, if_neg (show ¬ nI (t + 1) ≤ nI t from nI_ge (by omega) (by omega)), if_pos (nI_in (by omega) (by omega)), nI_clamp (by omega), hend, hmm, Option.bind_some, if_pos (show bI false = 0 from rfl), if_pos (nI_in (show 256 < 320 by omega) (by omega)), if_pos (nI_in (show 256 < 320 by omega) (by omega)), nI_clamp (show 256 < 2 ^ 31 by omega), a2, Option.bind_some, nI_1]
      rw [fMo_writeTokens_35, if_pos (nI_le (Nat.le_refl _) (by omega))]
    rw [fMo_writeTokens, e1, Option.bind_some]
    dsimp only
    rw [e2, Option.bind_some]
    dsimp only
    rw [hloop, d2]
    rfl
/-- the header's lengths of its code -/
theorem u_head_37 {N fw : Nat} {LF : Nat → Nat} {cl few : Nat → Int32} (hN : 100 ≤ N) (hfw : fw ≤ 19) (hc : ∀ s, s < 19 → cl s = nI (LF s) ∧ few s = nI (LF s) ∧ LF s ≤ 7) :
    ∀ (m k k' i T : Nat) (held hb count out : Int32) (cells prod : Nat → Int32), i + m = fw → m < k → m < k' → WR T held hb count cells out prod → T + 3 * m ≤ 8 * 65546 →
      ∃ held' hb' count' cells' out' prod', fHeader_write_37 N (nI fw) 19 cl k (nI i) held hb count cells = some (held', hb', count', cells') ∧ fMo_writeOwn_37 N (nI fw) few k' (nI i) out prod = some (out', prod') ∧ WR (T + 3 * m) held' hb' count' cells' out' prod'
  | 0, k + 1, k' + 1, i, T, held, hb, count, out, cells, prod, hi, hk, hk', h, hT => by
    have e : i = fw := by omega
    subst e
    refine ⟨held, hb, count, cells, out, prod, ?_, ?_, h⟩
    · rw [fHeader_write_37, if_pos (nI_le (Nat.le_refl _) (by omega))]
    · rw [fMo_writeOwn_37, if_pos (nI_le (Nat.le_refl _) (by omega))]
  | m + 1, k + 1, k' + 1, i, T, held, hb, count, out, cells, prod, hi, hk, hk', h, hT => by
    obtain ⟨o1, o2, -⟩ := ord_ok i (by omega)
    obtain ⟨c1, c2, c3⟩ := hc (ordN i) o2
    obtain ⟨h1, b1, n1, ce1, ou1, pr1, a1, a2, a3⟩ := WR_loN (N := N) (n := 3) (v := LF (ordN i)) (by omega) h (by omega) (by omega) (by omega)
    obtain ⟨held', hb', count', cells', out', prod', g1, g2, g3⟩ := u_head_37 hN hfw hc m k k' (i + 1) (T + 3) h1 b1 n1 ou1 ce1 pr1 (by omega) (by omega) (by omega) a3 (by omega)
    refine ⟨held', hb', count', cells', out', prod', ?_, ?_, ?_⟩
    · rw [fHeader_write_37, if_neg (show ¬ nI fw ≤ nI i from nI_ge (by omega) (by omega)), if_pos (nI_in (show i < 19 by omega) (by omega)), nI_clamp (show i < 2 ^ 31 by omega), o1, if_pos (nI_in o2 (by omega)), nI_clamp (show ordN i < 2 ^ 31 by omega), c1, show fBitSink_put N (nI (LF (ordN i))) (3 : Int32) held hb count cells = _ from a1, Option.bind_some, nI_1]
      exact g1
    · rw [fMo_writeOwn_37, if_neg (show ¬ nI fw ≤ nI i from nI_ge (by omega) (by omega)), s_fewAt (show i < 19 by omega), Option.bind_some, if_pos (nI_in o2 (by omega)), nI_clamp (show ordN i < 2 ^ 31 by omega), c2, show fMo_low N (nI (LF (ordN i))) (3 : Int32) out prod = _ from a2, Option.bind_some, nI_1]
      exact g2
    · rw [show T + 3 * (m + 1) = T + 3 + 3 * m by omega]
      exact g3

/-- the header's items -/
theorem u_head_71 {N t : Nat} {Is Im LF : Nat → Nat} {it run rest cl few bits nums : Nat → Int32} (hN : 100 ≤ N) (ht : t ≤ 316) (hI : ITM t Is Im it run rest) (hC : CODE 19 0 LF (codeV LF 19) cl bits few nums) (hLI : ∀ q, q < t → 1 ≤ LF (Is q)) :
    ∀ (m k k' i T : Nat) (held hb count out : Int32) (cells prod : Nat → Int32), i + m = t → m < k → m < k' → WR T held hb count cells out prod → T + sumL (fun q => LF (Is q) + rbits (Is q)) i m ≤ 8 * 65546 →
      ∃ held' hb' count' cells' out' prod', fHeader_write_71 N (nI t) 19 cl it 19 bits k (nI i) held hb count cells = some (held', hb', count', cells') ∧ fMo_writeOwn_82 N (nI t) few nums run rest k' (nI i) out prod = some (out', prod') ∧ WR (T + sumL (fun q => LF (Is q) + rbits (Is q)) i m) held' hb' count' cells' out' prod'
  | 0, k + 1, k' + 1, i, T, held, hb, count, out, cells, prod, hi, hk, hk', h, hT => by
    have e : i = t := by omega
    subst e
    refine ⟨held, hb, count, cells, out, prod, ?_, ?_, h⟩
    · rw [fHeader_write_71, if_pos (nI_le (Nat.le_refl _) (by omega))]
    · rw [fMo_writeOwn_82, if_pos (nI_le (Nat.le_refl _) (by omega))]
  | m + 1, k + 1, k' + 1, i, T, held, hb, count, out, cells, prod, hi, hk, hk', h, hT => by
    obtain ⟨i1, i2, i3, i4, i5⟩ := hI i (by omega)
    have hL := hLI i (by omega)
    have hr := rbits_le (Is i)
    have hpw : 2 ^ rbits (Is i) ≤ 2 ^ 7 := Nat.pow_le_pow_right (by decide) hr
    rw [sumL] at hT ⊢
    obtain ⟨h1, b1, n1, ce1, ou1, pr1, a1, a2, a3⟩ := WR_sym (N := N) (by omega) hC (show Is i < 19 from i1) hL h (by omega)
    rw [Nat.zero_add] at a2
    obtain ⟨h2, b2, n2, ce2, ou2, pr2, a4, a5, a6⟩ := WR_loN (N := N) (n := rbits (Is i)) (v := Im i) (by omega) a3 (by omega) (by omega) i2
    obtain ⟨held', hb', count', cells', out', prod', g1, g2, g3⟩ := u_head_71 hN ht hI hC hLI m k k' (i + 1) _ h2 b2 n2 ou2 ce2 pr2 (by omega) (by omega) (by omega) a6 (by omega)
    have hin : ¬ (nI i < 0 ∨ 316 ≤ (nI i).toNatClampNeg) := nI_in (by omega) (by omega)
    have hin2 : ¬ (nI i < 0 ∨ 320 ≤ (nI i).toNatClampNeg) := nI_in (by omega) (by omega)
    refine ⟨held', hb', count', cells', out', prod', ?_, ?_, ?_⟩
    · have e1 : nI (Im i * 32 + Is i) &&& (31 : Int32) = nI (Is i) := by
        rw [pk_andN (by omega) 5 (by decide)]
        congr 1
        omega
      have e2 : nI (Im i * 32 + Is i) >>> ((5 : Int32) &&& 31) = nI (Im i) := by
        rw [pk_shrN (by omega) ((5 : Int32) &&& 31) 5 (by decide)]
        congr 1
        omega
      rw [fHeader_write_71, if_neg (show ¬ nI t ≤ nI i from nI_ge (by omega) (by omega)), if_pos hin, nI_clamp (show i < 2 ^ 31 by omega), i3, e1, e2, if_pos (nI_in i1 (by omega)), if_pos (nI_in i1 (by omega)), nI_clamp (show Is i < 2 ^ 31 by omega), a1, Option.bind_some, if_pos (nin (show i < 316 by omega) (by omega)), s_repeatBits (by omega), Option.bind_some, a4, Option.bind_some, nI_1]
      exact g1
    · have hin9 : ¬ (nI i < 0 ∨ 320 ≤ i) := nin (by omega) (by omega)
      rw [fMo_writeOwn_82, if_neg (show ¬ nI t ≤ nI i from nI_ge (by omega) (by omega)), if_pos hin2, nI_clamp (show i < 2 ^ 31 by omega), i4, i5, if_pos (nI_in i1 (by omega)), if_pos hin9, if_pos (nI_in i1 (by omega)), nI_clamp (show Is i < 2 ^ 31 by omega), a2, Option.bind_some, if_pos hin9, if_pos hin9, nI_1]
      have key : ∀ (r : Int32), r = nI (rbits (Is i)) → (fMo_low N (nI (Im i)) r ou1 pr1).bind (fun y27 => fMo_writeOwn_82 N (nI t) few nums run rest k' (nI (i + 1)) y27.1 y27.2) = some (out', prod') := by
        intro r hr9
        rw [hr9, a5, Option.bind_some]
        exact g2
      by_cases c16 : Is i = 16
      · rw [if_pos (show nI (Is i) = (16 : Int32) by rw [c16]; rfl)]
        exact key 2 (by rw [c16]; rfl)
      · rw [if_neg (show ¬ nI (Is i) = (16 : Int32) by rw [show (16 : Int32) = nI 16 from rfl, nI_eq (by omega) (by omega)]; exact c16), if_pos hin9]
        by_cases c17 : Is i = 17
        · rw [if_pos (show nI (Is i) = (17 : Int32) by rw [c17]; rfl)]
          exact key 3 (by rw [c17]; rfl)
        · rw [if_neg (show ¬ nI (Is i) = (17 : Int32) by rw [show (17 : Int32) = nI 17 from rfl, nI_eq (by omega) (by omega)]; exact c17), if_pos hin9]
          by_cases c18 : Is i = 18
          · exact key _ (by rw [if_pos (show nI (Is i) = (18 : Int32) by rw [c18]; rfl), c18]; rfl)
          · exact key _ (by rw [if_neg (show ¬ nI (Is i) = (18 : Int32) by rw [show (18 : Int32) = nI 18 from rfl, nI_eq (by omega) (by omega)]; exact c18), rbits, if_neg c16, if_neg c17, if_neg c18]; rfl)
    · rw [show T + (LF (Is i) + rbits (Is i) + sumL (fun q => LF (Is q) + rbits (Is q)) (i + 1) m) = T + LF (Is i) + rbits (Is i) + sumL (fun q => LF (Is q) + rbits (Is q)) (i + 1) m by omega]
      exact g3
/-- the header whole, the reference's numbers with it -/
theorem u_head {N t w d fw T : Nat} {Is Im LF : Nat → Nat} {it run rest cl few bits fi nums cells prod : Nat → Int32} {held hb count out : Int32} (hN : 2000 ≤ N) (hr : 257 ≤ w ∧ w ≤ 286 ∧ 1 ≤ d ∧ d ≤ 30 ∧ 4 ≤ fw ∧ fw ≤ 19 ∧ t ≤ 316) (hI : ITM t Is Im it run rest) (hc : ∀ s, s < 19 → cl s = nI (LF s) ∧ few s = nI (LF s) ∧ LF s ≤ 7) (hLI : ∀ q, q < t → 1 ≤ LF (Is q)) (hT9 : codeT 19 LF bits) (h : WR T held hb count cells out prod) (hT : T + (14 + 3 * fw + sumL (fun q => LF (Is q) + rbits (Is q)) 0 t) ≤ 8 * 65546) :
    ∃ held' hb' count' cells' ou1 pr1 ou2 pr2 ou3 pr3 ou4 pr4 fi' nu' out' prod', fHeader_write N (nI t) (nI w) (nI d) (nI fw) held hb count cells 19 cl it 19 bits = some (held', hb', count', cells') ∧ fMo_low N (nI w - (257 : Int32)) (5 : Int32) out prod = some (ou1, pr1) ∧ fMo_low N (nI d - (1 : Int32)) (5 : Int32) ou1 pr1 = some (ou2, pr2) ∧ fMo_low N (nI fw - (4 : Int32)) (4 : Int32) ou2 pr2 = some (ou3, pr3) ∧ fMo_writeOwn_37 N (nI fw) few N (0 : Int32) ou3 pr3 = some (ou4, pr4) ∧ fMo_number N (0 : Int32) (19 : Int32) fi 19 few 19 nums = some (fi', nu') ∧ fMo_writeOwn_82 N (nI t) few nu' run rest N (0 : Int32) ou4 pr4 = some (out', prod') ∧ WR (T + (14 + 3 * fw + sumL (fun q => LF (Is q) + rbits (Is q)) 0 t)) held' hb' count' cells' out' prod' := by
  obtain ⟨r1, r2, r3, r4, r5, r6, r7⟩ := hr
  have e1 : nI w - (257 : Int32) = nI (w - 257) := nI_sub (b := 257) r1
  have e2 : nI d - (1 : Int32) = nI (d - 1) := nI_sub (b := 1) r3
  have e3 : nI fw - (4 : Int32) = nI (fw - 4) := nI_sub (b := 4) r5
  obtain ⟨h1, b1, n1, ce1, ou1, pr1, a1, a2, a3⟩ := WR_loN (N := N) (n := 5) (v := w - 257) (by omega) h (by omega) (by omega) (by omega)
  obtain ⟨h2, b2, n2, ce2, ou2, pr2, a4, a5, a6⟩ := WR_loN (N := N) (n := 5) (v := d - 1) (by omega) a3 (by omega) (by omega) (by omega)
  obtain ⟨h3, b3, n3, ce3, ou3, pr3, a7, a8, a9⟩ := WR_loN (N := N) (n := 4) (v := fw - 4) (by omega) a6 (by omega) (by omega) (by omega)
  obtain ⟨h4, b4, n4, ce4, ou4, pr4, a10, a11, a12⟩ := u_head_37 (N := N) (fw := fw) (LF := LF) (cl := cl) (few := few) (by omega) r6 hc fw N N 0 _ h3 b3 n3 ou3 ce3 pr3 (by omega) (by omega) (by omega) a9 (by omega)
  obtain ⟨fi', nu', c1, c2, -⟩ := s_Mo_number (N := N) (x3 := 0) (n := 19) (n1 := 19) (n2 := 19) (f := few) (L := LF) (by omega) (by omega) (by omega) (by omega) (by omega) (by omega) (fun j hj => by rw [Nat.zero_add]; exact (hc j hj).2.1) (fun j hj => by have := (hc j hj).2.2; omega) fi nums
  have hC : CODE 19 0 LF (codeV LF 19) cl bits few nu' := fun s hs => ⟨(hc s hs).1, by rw [Nat.zero_add]; exact (hc s hs).2.1, by have := (hc s hs).2.2; omega, fun hp => ⟨hT9 s hs hp, c2 s hs hp, by have := codeV_lt (L := LF) (n := 19) (by omega) hs (by have := (hc s hs).2.2; omega); omega⟩⟩
  obtain ⟨h5, b5, n5, ce5, ou5, pr5, g1, g2, g3⟩ := u_head_71 (N := N) (by omega) r7 hI hC hLI t N N 0 _ h4 b4 n4 ou4 ce4 pr4 (by omega) (by omega) (by omega) a12 (by omega)
  refine ⟨h5, b5, n5, ce5, ou1, pr1, ou2, pr2, ou3, pr3, ou4, pr4, fi', nu', ou5, pr5, ?_, ?_, ?_, ?_, a11, c1, g2, ?_⟩
  · rw [fHeader_write, e1, show fBitSink_put N (nI (w - 257)) (5 : Int32) held hb count cells = _ from a1, Option.bind_some, e2]
    dsimp only
    rw [show fBitSink_put N (nI (d - 1)) (5 : Int32) h1 b1 n1 ce1 = _ from a4, Option.bind_some, e3]
    dsimp only
    rw [show fBitSink_put N (nI (fw - 4)) (4 : Int32) h2 b2 n2 ce2 = _ from a7, Option.bind_some]
    dsimp only
    rw [show fHeader_write_37 N (nI fw) 19 cl N (0 : Int32) h3 b3 n3 ce3 = _ from a10, Option.bind_some]
    dsimp only
    rw [show fHeader_write_71 N (nI t) 19 cl it 19 bits N (0 : Int32) h4 b4 n4 ce4 = _ from g1]
    rfl
  · rw [e1]; exact a2
  · rw [e2]; exact a5
  · rw [e3]; exact a8
  · rw [show T + (14 + 3 * fw + sumL (fun q => LF (Is q) + rbits (Is q)) 0 t) = T + 5 + 5 + 4 + 3 * fw + sumL (fun q => LF (Is q) + rbits (Is q)) 0 t by omega]
    exact g3
