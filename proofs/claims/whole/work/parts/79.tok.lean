/-! Tokens: both sides find the same. -/
def cTok (l d : Nat) : Nat := if l = 0 then d else d * 512 + l
def mTok (l d : Nat) : Nat := if l = 0 then d else 1073741824 + l * 65536 + d
def okTok (l d : Nat) : Prop := (l = 0 ∧ d < 256) ∨ (3 ≤ l ∧ l ≤ 258 ∧ 1 ≤ d ∧ d ≤ 32768)
/-- k tokens alike -/
def TOK (k : Nat) (Lf Df : Nat → Nat) (tc tm : Nat → Int32) : Prop := ∀ i, i < k → okTok (Lf i) (Df i) ∧ tc i = nI (cTok (Lf i) (Df i)) ∧ tm i = nI (mTok (Lf i) (Df i))
theorem TOK_s {k l d : Nat} {Lf Df : Nat → Nat} {tc tm : Nat → Int32} (h : TOK k Lf Df tc tm) (ho : okTok l d) : TOK (k + 1) (updN Lf k l) (updN Df k d) (upd tc k (nI (cTok l d))) (upd tm k (nI (mTok l d))) := by
  intro i hi
  by_cases e : i = k
  · rw [e, updN_same, updN_same, upd_same, upd_same]
    exact ⟨ho, rfl, rfl⟩
  · rw [updN_ne e, updN_ne e, upd_ne e, upd_ne e]
    exact h i (by omega)
theorem tok_or {b d : Nat} (hb : b < 512) : (nI d <<< (nI 9 &&& nI 31)) ||| nI b = nI (d * 512 + b) := by
  rw [nI_shl d (show 9 < 32 by omega), nx_or, Nat.or_comm, or_add (k := 9) (by omega)]
  congr 1
  omega
theorem u_tok_loop {N n : Nat} {f g : Nat → Int32} {key : Nat → Nat} (hN : 70000 ≤ N) (hn : n ≤ 65536) (hfg : rowEq n f g) (hkh : ∀ e, e + 2 < 65546 → fMatcher_hash N (nI e) f = some (nI (key e))) (hkl : ∀ e, key e < 16384) (hk3 : ∀ p q, m3 (fun j => (f j).toInt8) q p → key q = key p) :
    ∀ (m k k' p e t mc bc : Nat) (bl bd : Int32) (heads before tc hM bM tm : Nat → Int32) (Lf Df : Nat → Nat), p + m = n → m < k → m < k' → e ≤ p → t ≤ p → mc + bc = t → chain key 16384 (min p (n - 2)) heads before → chain (pk2 (fun j => (g j).toInt8)) 65536 e hM bM → TOK t Lf Df tc tm →
      ∃ t' mc' bc' bl' bd' heads' before' tc' hM' bM' tm' Lf' Df', fMatcher_findTokens_33 N (nI n) f k (nI p) (nI t) (nI mc) bl bd heads before tc = some (nI t', nI mc', bl', bd', heads', before', tc') ∧ fMo_findTokens_40 N (nI n) g k' (nI e) (nI p) (nI t) (nI bc) (nI mc) hM bM tm = some (nI t', nI bc', nI mc', hM', bM', tm') ∧ t' ≤ n ∧ mc' + bc' = t' ∧ TOK t' Lf' Df' tc' tm' := by
  intro m
  induction m using Nat.strongRecOn with
  | _ m ih =>
    intro k k' p e t mc bc bl bd heads before tc hM bM tm Lf Df hm hk hk' he ht hmb hc hcm htok
    obtain ⟨k, rfl⟩ : ∃ j, k = j + 1 := ⟨k - 1, by omega⟩
    obtain ⟨k', rfl⟩ : ∃ j, k' = j + 1 := ⟨k' - 1, by omega⟩
    by_cases hpn : p < n
    · have hfm := s_findMatch (N := N) hN hn hpn hkh hkl (fun q _ h => hk3 p q h) hc
      obtain ⟨hM1, bM1, a1, a2⟩ := s_enter_2 (N := N) (g := g) (key := pk2 (fun j => (g j).toInt8)) hn hpn (fun e he => s_pairAt he) (pk2_lt _) (p - e) N e hM bM (by omega) (by omega) hcm
      obtain ⟨q, b1, b2⟩ := s_find_ref (N := N) hN hn hpn a2
      have hbm : bestM (fun j => (g j).toInt8) n p = bestM (fun j => (f j).toInt8) n p := bestM_congr (fun j hj => (hfg j hj).symm)
      rw [hbm] at b2
      have hok := bestM_ok (R := fun j => (f j).toInt8) hpn
      generalize bestM (fun j => (f j).toInt8) n p = bd9 at *
      obtain ⟨b, d⟩ := bd9
      dsimp only at hok hfm b2
      have hent : fMo_enter N (nI e) (nI p) (nI n) g hM bM = some (nI p, hM1, bM1) := by
        rw [fMo_enter, a1]
        rfl
      have href : fMo_findTokens_40 N (nI n) g (k' + 1) (nI e) (nI p) (nI t) (nI bc) (nI mc) hM bM tm = (fMo_findTokens_184 N (nI t) (nI bc) (nI mc) (nI p) g (nI b) (nI d) tm).bind (fun y33 => fMo_findTokens_40 N (nI n) g k' (nI p) y33.1 (nI t + (1 : Int32)) y33.2.1 y33.2.2.1 hM1 bM1 y33.2.2.2) := by
        rw [fMo_findTokens_40, if_neg (show ¬ nI n ≤ nI p from nI_ge hpn (by omega)), hent, Option.bind_some]
        dsimp only
        rw [b1, Option.bind_some]
        rw [b2, Option.bind_some]
      have hcls : fMatcher_findTokens_33 N (nI n) f (k + 1) (nI p) (nI t) (nI mc) bl bd heads before tc = (if nI b ≤ 0 then
          if ¬ (nI p < 0 ∨ 65546 ≤ (nI p).toNatClampNeg) then
            if ¬ (nI t < 0 ∨ 65536 ≤ (nI t).toNatClampNeg) then
              (fMatcher_remember N (nI p) (if ((nI n - (3 : Int32)) + (1 : Int32)) < (nI p + (if (1 : Int32) < nI b then nI b else (1 : Int32))) then ((nI n - (3 : Int32)) + (1 : Int32)) else (nI p + (if (1 : Int32) < nI b then nI b else (1 : Int32)))) f heads before).bind (fun y7 =>
                fMatcher_findTokens_33 N (nI n) f k (nI p + (if (1 : Int32) < nI b then nI b else (1 : Int32))) (nI t + (1 : Int32)) (nI mc) (nI b) (nI d) y7.1 y7.2 (upd tc (nI t).toNatClampNeg (((f (nI p).toNatClampNeg).toInt8.toInt32) &&& (255 : Int32))))
            else none
          else none
        else
          if ¬ (nI t < 0 ∨ 65536 ≤ (nI t).toNatClampNeg) then
            (fMatcher_remember N (nI p) (if ((nI n - (3 : Int32)) + (1 : Int32)) < (nI p + (if (1 : Int32) < nI b then nI b else (1 : Int32))) then ((nI n - (3 : Int32)) + (1 : Int32)) else (nI p + (if (1 : Int32) < nI b then nI b else (1 : Int32)))) f heads before).bind (fun y9 =>
              fMatcher_findTokens_33 N (nI n) f k (nI p + (if (1 : Int32) < nI b then nI b else (1 : Int32))) (nI t + (1 : Int32)) (nI mc + (1 : Int32)) (nI b) (nI d) y9.1 y9.2 (upd tc (nI t).toNatClampNeg ((nI d <<< ((9 : Int32) &&& 31)) ||| nI b)))
          else none) := by
        rw [fMatcher_findTokens_33, if_neg (show ¬ nI n ≤ nI p from nI_ge hpn (by omega)), hfm, Option.bind_some]
      have hin1 : ¬ (nI t < 0 ∨ 65536 ≤ (nI t).toNatClampNeg) := nI_in (by omega) (by omega)
      have hin2 : ¬ (nI p < 0 ∨ 65546 ≤ (nI p).toNatClampNeg) := nI_in (by omega) (by omega)
      have hin3 : ¬ (nI t < 0 ∨ 65537 ≤ (nI t).toNatClampNeg) := nI_in (by omega) (by omega)
      have hin4 : ¬ (nI p < 0 ∨ 65536 ≤ (nI p).toNatClampNeg) := nI_in (by omega) (by omega)
      by_cases hb0 : b = 0
      · subst hb0
        have est : (if (1 : Int32) < nI 0 then nI 0 else (1 : Int32)) = nI 1 := rfl
        obtain ⟨heads', before', r1, r2⟩ := s_remember (N := N) (st := 1) hN hn hpn (by omega) (by omega) hkh hkl hc
        have hu := u8_lt (f p).toInt8
        have htk := TOK_s (l := 0) (d := u8 (f p).toInt8) htok (Or.inl ⟨rfl, hu⟩)
        obtain ⟨t', mc', bc', bl', bd', heads2, before2, tc', hM', bM', tm', Lf', Df', g1, g2, g3⟩ := ih (m - 1) (by omega) k k' (p + 1) p (t + 1) mc (bc + 1) (nI 0) (nI d) heads' before' _ hM1 bM1 _ _ _ (by omega) (by omega) (by omega) (by omega) (by omega) (by omega) r2 a2 htk
        refine ⟨t', mc', bc', bl', bd', heads2, before2, tc', hM', bM', tm', Lf', Df', ?_, ?_, g3⟩
        · rw [hcls, if_pos (show nI 0 ≤ (0 : Int32) from by decide), if_pos hin2, if_pos hin1, est, nI_add, r1, Option.bind_some, nI_1, nI_clamp (show t < 2 ^ 31 by omega), nI_clamp (show p < 2 ^ 31 by omega), show ((f p).toInt8.toInt32 &&& (255 : Int32)) = nI (u8 (f p).toInt8) from u8_int (f p)]
          exact g1
        · have h184 : fMo_findTokens_184 N (nI t) (nI bc) (nI mc) (nI p) g (nI 0) (nI d) tm = some (nI (p + 1), nI (bc + 1), nI mc, upd tm t (nI (u8 (f p).toInt8))) := by
            rw [fMo_findTokens_184, if_pos (show nI 0 ≤ (0 : Int32) from by decide), if_pos hin4, if_pos hin3, nI_1, nI_1, nI_clamp (show t < 2 ^ 31 by omega), nI_clamp (show p < 2 ^ 31 by omega), show ((g p).toInt8.toInt32 &&& (255 : Int32)) = nI (u8 (g p).toInt8) from u8_int (g p), hfg p hpn]
          rw [href, h184, Option.bind_some, nI_1]
          exact g2
      · have hb3 : 3 ≤ b ∧ b ≤ 258 ∧ p + b ≤ n ∧ 1 ≤ d ∧ d ≤ 32768 := by
          rcases hok with h | h
          · exact absurd h.1 hb0
          · exact h
        have est : (if (1 : Int32) < nI b then nI b else (1 : Int32)) = nI b := if_pos (nI_lt (a := 1) (by omega) (by omega))
        obtain ⟨heads', before', r1, r2⟩ := s_remember (N := N) (st := b) hN hn hpn (by omega) (by omega) hkh hkl hc
        have htk := TOK_s (l := b) (d := d) htok (Or.inr ⟨by omega, by omega, by omega, by omega⟩)
        obtain ⟨t', mc', bc', bl', bd', heads2, before2, tc', hM', bM', tm', Lf', Df', g1, g2, g3⟩ := ih (m - b) (by omega) k k' (p + b) p (t + 1) (mc + 1) bc (nI b) (nI d) heads' before' _ hM1 bM1 _ _ _ (by omega) (by omega) (by omega) (by omega) (by omega) (by omega) r2 a2 htk
        have hnb : ¬ nI b ≤ (0 : Int32) := nI_ge (a := 0) (by omega) (by omega)
        have ect : cTok b d = d * 512 + b := if_neg hb0
        have emt : mTok b d = 1073741824 + b * 65536 + d := if_neg hb0
        rw [ect] at g1
        rw [emt] at g2
        refine ⟨t', mc', bc', bl', bd', heads2, before2, tc', hM', bM', tm', Lf', Df', ?_, ?_, g3⟩
        · rw [hcls, if_neg hnb, if_pos hin1, est, nI_add, r1, Option.bind_some, nI_1, nI_1, nI_clamp (show t < 2 ^ 31 by omega), show (nI d <<< ((9 : Int32) &&& 31)) ||| nI b = nI (d * 512 + b) from tok_or (by omega)]
          exact g1
        · have h184 : fMo_findTokens_184 N (nI t) (nI bc) (nI mc) (nI p) g (nI b) (nI d) tm = some (nI (p + b), nI bc, nI (mc + 1), upd tm t (nI (1073741824 + b * 65536 + d))) := by
            rw [fMo_findTokens_184, if_neg hnb, if_pos hin3, nI_add, nI_1, nI_clamp (show t < 2 ^ 31 by omega), show ((1073741824 : Int32) + nI b * (65536 : Int32)) + nI d = nI (1073741824 + b * 65536 + d) by
              rw [show nI b * (65536 : Int32) = nI (b * 65536) from pk_mul b 65536, show (1073741824 : Int32) = nI 1073741824 from rfl, nI_add, nI_add]]
          rw [href, h184, Option.bind_some, nI_1]
          exact g2
    · have epn : p = n := by omega
      subst epn
      refine ⟨t, mc, bc, bl, bd, heads, before, tc, hM, bM, tm, Lf, Df, ?_, ?_, by omega, hmb, htok⟩
      · rw [fMatcher_findTokens_33, if_pos (nI_le (Nat.le_refl _) (by omega))]
      · rw [fMo_findTokens_40, if_pos (nI_le (Nat.le_refl _) (by omega))]
theorem s_Mo_heads {N : Nat} : ∀ (m k i : Nat) (h : Nat → Int32), i + m = 65536 → m < k → (∀ j, j < i → h j = -1) → ∃ h', fMo_findTokens_2 N k (nI i) h = some h' ∧ ∀ j, j < 65536 → h' j = -1
  | 0, k + 1, i, h, hi, hk, hh => by
    have e : i = 65536 := by omega
    subst e
    refine ⟨h, ?_, hh⟩
    rw [fMo_findTokens_2, if_pos (show (65536 : Int32) ≤ nI 65536 from nI_le (a := 65536) (Nat.le_refl _) (by omega))]
  | m + 1, k + 1, i, h, hi, hk, hh => by
    rw [fMo_findTokens_2, if_neg (show ¬ (65536 : Int32) ≤ nI i from nI_ge (b := 65536) (by omega) (by omega)), if_pos (nI_in (by omega) (by omega)), nI_clamp (by omega), nI_1]
    refine s_Mo_heads m k (i + 1) _ (by omega) (by omega) ?_
    intro j hj
    by_cases e : j = i
    · rw [e, upd_same]
    · rw [upd_ne e]
      exact hh j (by omega)
/-- both find the same tokens -/
theorem u_findTokens {N n : Nat} {f g heads before tc hM bM tm : Nat → Int32} {bl bd : Int32} (hN : 70000 ≤ N) (hn : n ≤ 65536) (hfg : rowEq n f g) :
    ∃ t mc bc bl' bd' heads' before' tc' hM' bM' tm' Lf Df, fMatcher_findTokens N bl bd heads (nI n) f before tc = some (nI t, nI mc, bl', bd', heads', before', tc') ∧ fMo_findTokens N (nI n) hM g bM tm = some (nI (t + 1), nI bc, nI mc, hM', bM', tm') ∧ t ≤ n ∧ mc + bc = t ∧ TOK t Lf Df tc' tm' ∧ tm' t = nI 256 := by
  obtain ⟨h0, a1, a2⟩ := s_fill (N := N) (x1 := -1) (n := 16384) (by omega) (by omega) heads
  obtain ⟨h1, b1, b2⟩ := s_Mo_heads (N := N) 65536 N 0 hM (by omega) (by omega) (fun j hj => by omega)
  obtain ⟨t, mc, bc, bl', bd', heads', before', tc', hM', bM', tm', Lf, Df, c1, c2, c3, c4, c5⟩ := u_tok_loop (N := N) (n := n) (f := f) (g := g) (key := hk3 (fun j => (f j).toInt8)) hN hn hfg (fun e he => s_hash he) (hk3_lt _) (fun p q h => hk3_eq h) n N N 0 0 0 0 0 bl bd h0 before tc h1 bM tm (fun _ => 0) (fun _ => 0) (by omega) (by omega) (by omega) (Nat.le_refl _) (Nat.le_refl _) rfl ⟨fun h hh => by rw [Nat.zero_min]; exact a2 h hh, fun i hi => by omega⟩ ⟨fun h hh => b2 h hh, fun i hi => by omega⟩ (fun i hi => by omega)
  refine ⟨t, mc, bc, bl', bd', heads', before', tc', hM', bM', upd tm' t (nI 256), Lf, Df, ?_, ?_, c3, c4, fun i hi => ?_, upd_same _ _ _⟩
  · rw [fMatcher_findTokens, a1, Option.bind_some, if_neg (show ¬ (65536 : Int32) < nI n from nI_nlt (a := 65536) hn (by omega))]
    rw [show fMatcher_findTokens_33 N (nI n) f N (0 : Int32) (0 : Int32) (0 : Int32) bl bd h0 before tc = _ from c1]
    rfl
  · rw [fMo_findTokens, show fMo_findTokens_2 N N (0 : Int32) hM = some h1 from b1, Option.bind_some]
    rw [show fMo_findTokens_40 N (nI n) g N (0 : Int32) (0 : Int32) (0 : Int32) (0 : Int32) (0 : Int32) h1 bM tm = _ from c2, Option.bind_some]
    dsimp only
    rw [if_pos (nI_in (show t < 65537 by omega) (by omega)), nI_1, nI_clamp (by omega)]
    rfl
  · rw [upd_ne (by omega)]
    exact c5 i hi
