/-! Reading: the lengths of own codes. -/
theorem cnt_ext {L : Nat → Nat} {n : Nat} : ∀ d, (∀ j, n ≤ j → j < n + d → L j = 0) → ∀ l, 1 ≤ l → cnt L (n + d) l = cnt L n l
  | 0, _, _, _ => rfl
  | d + 1, h, l, hl => by
    rw [show n + (d + 1) = n + d + 1 from rfl, cnt, cnt_ext d (fun j a b => h j a (by omega)) l hl, h (n + d) (by omega) (by omega), if_neg (by omega), Nat.add_zero]
theorem acc_congr {c d : Nat → Nat} : ∀ k, (∀ l, 1 ≤ l → l < k → c l = d l) → acc c k = acc d k
  | 0, _ => rfl
  | k + 1, h => by
    rw [acc, acc, acc_congr k (fun l a b => h l a (by omega))]
    by_cases h0 : k = 0
    · rw [if_pos h0, if_pos h0]
    · rw [if_neg h0, if_neg h0, h k (by omega) (by omega)]
theorem kra_congr {c d : Nat → Nat} : ∀ k, (∀ l, 1 ≤ l → l < k → c l = d l) → kra c k = kra d k
  | 0, _ => rfl
  | k + 1, h => by
    rw [kra, kra, kra_congr k (fun l a b => h l a (by omega))]
    by_cases h0 : k = 0
    · rw [if_pos h0, if_pos h0]
    · rw [if_neg h0, if_neg h0, h k (by omega) (by omega)]
/-- the symbol of a place -/
noncomputable def symT (L : Nat → Nat) (n i : Nat) : Nat := Classical.epsilon (fun s => s < n ∧ 1 ≤ L s ∧ L s < 16 ∧ posn L n s = i)
theorem symT_spec {L : Nat → Nat} {n i : Nat} (h : i < acc (cnt L n) 16) : symT L n i < n ∧ 1 ≤ L (symT L n i) ∧ L (symT L n i) < 16 ∧ posn L n (symT L n i) = i :=
  Classical.epsilon_spec (posn_ex h)
theorem tabC_of {L : Nat → Nat} {n : Nat} {P S : Nat → Int32} (hn : n ≤ 288) (hP : ∀ l, l < 16 → P l = nI (cnt L n l)) (hS : ∀ s, s < n → 1 ≤ L s → S (posn L n s) = nI s) : tabC (cnt L n) (symT L n) (nI (acc (cnt L n) 16)) P S := by
  refine ⟨rfl, Nat.le_trans (acc_le L 16 n) hn, fun l a b => hP l b, fun i hi => ?_⟩
  obtain ⟨h1, h2, h3, h4⟩ := symT_spec hi
  rw [← hS _ h1 h2, h4]
theorem tabM_of {L : Nat → Nat} {n m t : Nat} {M S : Nat → Int32} (hnm : n ≤ m) (h0 : ∀ j, n ≤ j → j < m → L j = 0) (hM : ∀ l, 1 ≤ l → l < 16 → M (16 * t + l) = nI (cnt L m l)) (hS : ∀ s, s < m → 1 ≤ L s → S (at0 t + posn L m s) = nI s) : tabM (cnt L n) (symT L n) t M S := by
  obtain ⟨d, rfl⟩ : ∃ d, m = n + d := ⟨m - n, by omega⟩
  refine ⟨fun l a b => by rw [hM l a b, cnt_ext d h0 l a], fun i hi => ?_⟩
  obtain ⟨h1, h2, h3, h4⟩ := symT_spec hi
  have e : posn L (n + d) (symT L n i) = posn L n (symT L n i) := by
    rw [posn, posn, acc_congr _ (fun l a b => cnt_ext d h0 l a)]
  rw [← hS _ (by omega) h2, e, h4]
/-- the first code of a length -/
theorem acc16 (c : Nat → Nat) : acc c 16 = c 1 + c 2 + c 3 + c 4 + c 5 + c 6 + c 7 + c 8 + c 9 + c 10 + c 11 + c 12 + c 13 + c 14 + c 15 := by
  simp [acc]
theorem kra16 (c : Nat → Nat) : kra c 16 = c 1 * 16384 + c 2 * 8192 + c 3 * 4096 + c 4 * 2048 + c 5 * 1024 + c 6 * 512 + c 7 * 256 + c 8 * 128 + c 9 * 64 + c 10 * 32 + c 11 * 16 + c 12 * 8 + c 13 * 4 + c 14 * 2 + c 15 := by
  simp [kra]
theorem full_two {c : Nat → Nat} (h : kra c 16 = 32768) : 2 ≤ acc c 16 := by
  rw [kra16] at h
  rw [acc16]
  omega
theorem dsp_full (f : Nat → Int32) (c T : Nat → Nat) (stop : Nat) : ∀ (j l pos v first idx : Nat), l + j = 16 → 1 ≤ l → v < 2 ^ (l - 1) → first * 2 ^ (15 - l) + (kra c 16 - kra c l) = 32768 → kra c l ≤ kra c 16 → first ≤ 2 * v → 1 ≤ j → dsp f c T stop j l pos v first idx ≠ some none
  | 0, l, pos, v, first, idx, hl, h1, hv, hk, hk2, hf, h0 => by omega
  | j + 1, l, pos, v, first, idx, hl, h1, hv, hk, hk2, hf, h0 => by
    rw [dsp]
    have hb := rb_le f pos
    have hpow2 : 2 ^ l = 2 * 2 ^ (l - 1) := by
      obtain ⟨q, rfl⟩ : ∃ q, l = q + 1 := ⟨l - 1, by omega⟩
      rw [Nat.pow_succ, Nat.add_sub_cancel]; omega
    split
    · exact fun h => nomatch h
    · split
      · intro h; cases h
      · have hs := kra_s c (show 0 < l by omega)
        have hmono : ∀ a b, a ≤ b → kra c a ≤ kra c b := by
          intro a b h
          induction h with
          | refl => exact Nat.le_refl _
          | step h ih => rw [kra]; omega
        have hm := hmono (l + 1) 16 (by omega)
        by_cases hj : j = 0
        · subst hj
          have e : l = 15 := by omega
          subst e
          have e2 : kra c 16 = kra c 15 + c 15 * 1 := hs
          have e3 : first * 1 + (kra c 16 - kra c 15) = 32768 := hk
          omega
        · refine dsp_full f c T stop j (l + 1) (pos + 1) _ _ _ (by omega) (by omega) (by rw [Nat.add_sub_cancel]; omega) ?_ hm (by omega) (by omega)
          have e : 2 ^ (15 - l) = 2 * 2 ^ (15 - (l + 1)) := by
            rw [show 15 - l = (15 - (l + 1)) + 1 by omega, Nat.pow_succ, Nat.mul_comm]
          have e2 : 2 * (first + c l) * 2 ^ (15 - (l + 1)) = first * 2 ^ (15 - l) + c l * 2 ^ (15 - l) := by
            rw [e, ← Nat.add_mul, ← Nat.mul_assoc, Nat.mul_comm 2 (first + c l)]
          rw [e2]
          omega
theorem dec_full {f : Nat → Int32} {c T : Nat → Nat} {stop pos : Nat} (h : kra c 16 = 32768) : dec f c T stop pos ≠ some none := by
  have h2 := full_two h
  rw [dec, jmax, if_neg (by omega), if_neg (by omega)]
  refine dsp_full f c T stop 15 1 pos 0 0 0 (by omega) (by omega) (by decide) ?_ ?_ (by omega) (by omega)
  · rw [h, show kra c 1 = 0 from rfl, Nat.zero_mul, Nat.zero_add, Nat.sub_zero]
  · exact Nat.zero_le _
/-- a decoded symbol is one of the table's, and takes bits -/
theorem dsp_some {f : Nat → Int32} {c T : Nat → Nat} {stop : Nat} : ∀ {j l pos v first idx s p : Nat}, l + j ≤ 16 → 1 ≤ l → idx = acc c l → dsp f c T stop j l pos v first idx = some (some (s, p)) → pos < p ∧ p ≤ stop ∧ ∃ i, i < acc c 16 ∧ s = T i
  | 0, l, pos, v, first, idx, s, p, hl, h1, hi, h => by rw [dsp] at h; cases h
  | j + 1, l, pos, v, first, idx, s, p, hl, h1, hi, h => by
    rw [dsp] at h
    have hs := acc_s c (show 0 < l by omega)
    have hm := acc_mono c (show l + 1 ≤ 16 by omega)
    by_cases hp : stop ≤ pos
    · rw [if_pos hp] at h; cases h
    · rw [if_neg hp] at h
      by_cases hd : 2 * v + rb f pos - first < c l
      · rw [if_pos hd] at h
        cases h
        exact ⟨by omega, by omega, _, by omega, rfl⟩
      · rw [if_neg hd] at h
        obtain ⟨a, b, d⟩ := dsp_some (by omega) (by omega) (by omega) h
        exact ⟨by omega, b, d⟩
theorem dec_some {f : Nat → Int32} {c T : Nat → Nat} {stop pos s p : Nat} (h : dec f c T stop pos = some (some (s, p))) : pos < p ∧ p ≤ stop ∧ ∃ i, i < acc c 16 ∧ s = T i := by
  rw [dec] at h
  refine dsp_some ?_ (by omega) rfl h
  rw [jmax]
  split
  · omega
  · split <;> omega

def ordL : List Nat := [16, 17, 18, 0, 8, 7, 9, 6, 10, 5, 11, 4, 12, 3, 13, 2, 14, 1, 15]
def ordN (k : Nat) : Nat := ordL.getD k 0
def invL : List Nat := [3, 17, 15, 13, 11, 9, 7, 5, 4, 6, 8, 10, 12, 14, 16, 18, 0, 1, 2]
def invN (k : Nat) : Nat := invL.getD k 0
theorem ord_ok : ∀ k, k < 19 → S_LENGTH_ORDER k = nI (ordN k) ∧ ordN k < 19 ∧ invN (ordN k) = k ∧ ordN (invN k) = k ∧ invN k < 19 ∧ fMo_fewAt 0 (nI k) = some (nI (ordN k)) := by decide +kernel
theorem s_fewAt {N k : Nat} (h : k < 19) : fMo_fewAt N (nI k) = some (nI (ordN k)) := (ord_ok k h).2.2.2.2.2
/-- the lengths of the length code, as the stream has them -/
def clen (f : Nat → Int32) (pos few s : Nat) : Nat := if invN s < few then tk f (pos + 3 * invN s) 3 else 0
theorem clen_lt (f : Nat → Int32) (pos few s : Nat) : clen f pos few s < 8 := by
  rw [clen]
  split
  · exact tk_lt f _ 3
  · omega
theorem s_cl_38 {N n pos few : Nat} {f : Nat → Int32} (hN : 300 ≤ N) (hn : n ≤ 65536) (hfew : few ≤ 19) (hp : pos + 3 * few ≤ 8 * n) :
    ∀ (m k i : Nat) (g : Nat → Int32), i + m = few → m < k → (∀ j, j < 19 → g (ordN j) = nI (if j < i then tk f (pos + 3 * j) 3 else 0)) →
      ∃ g', fUnpacker_readCodeLengths_38 N (nI n) (nI few) f k (nI i) (nI (pos + 3 * i)) g = some (nI (pos + 3 * few), g') ∧ ∀ j, j < 19 → g' (ordN j) = nI (if j < few then tk f (pos + 3 * j) 3 else 0)
  | 0, k + 1, i, g, hi, hk, hg => by
    rw [fUnpacker_readCodeLengths_38]
    have e : i = few := by omega
    subst e
    refine ⟨g, ?_, hg⟩
    simp (disch := omega) only [nlit, nI_add, nI_mul, nI_sub, nI_leI, nI_ltI, nI_eq, nI_inI', nI_inI, nI_lt0', nI_lt0, nI_clamp, nI_div, nI_rem, nI_shl, nI_shr, upd_same, nI_eqm, nI_m1le, nI_m2le, nI_m1lt, nI_m2lt, nI_m2m1, eq_self, not_false_eq_true, not_true_eq_false, if_pos, if_neg, if_true, if_false, Option.bind_some]
  | m + 1, k + 1, i, g, hi, hk, hg => by
    rw [fUnpacker_readCodeLengths_38]
    obtain ⟨o1, o2, o3, -⟩ := ord_ok i (by omega)
    have ht := s_take (N := N) (by omega) f (p := pos + 3 * i) (bits := 3) (n := n) (by omega) hn (by omega)
    have e3 : pos + 3 * i + 3 = pos + 3 * (i + 1) := by omega
    simp (disch := omega) only [nlit, nI_add, nI_mul, nI_sub, nI_leI, nI_ltI, nI_eq, nI_inI', nI_inI, nI_lt0', nI_lt0, nI_clamp, nI_div, nI_rem, nI_shl, nI_shr, upd_same, nI_eqm, nI_m1le, nI_m2le, nI_m1lt, nI_m2lt, nI_m2m1, eq_self, not_false_eq_true, not_true_eq_false, if_pos, if_neg, if_true, if_false, Option.bind_some, o1, ht, e3]
    refine s_cl_38 hN hn hfew hp m k (i + 1) _ (by omega) (by omega) ?_
    intro j hj
    obtain ⟨p1, p2, p3, -⟩ := ord_ok j hj
    by_cases e : j = i
    · subst e
      rw [upd_same, if_pos (by omega)]
    · rw [upd_ne (fun h => e (by rw [← p3, ← o3, h])), hg j hj]
      by_cases h : j < i
      · rw [if_pos h, if_pos (by omega)]
      · rw [if_neg h, if_neg (by omega)]
theorem s_Mo_few_104 {N pos few : Nat} {g : Nat → Int32} (hN : 300 ≤ N) (hfew : few ≤ 19) (hp : pos + 3 * few ≤ 8 * 65536) :
    ∀ (m k i : Nat) (F : Nat → Int32), i + m = 19 → m < k → (∀ j, j < i → F (ordN j) = nI (if j < few then tk g (pos + 3 * j) 3 else 0)) →
      ∃ F', fMo_readOwn_104 N g (nI few) k (nI i) (nI (pos + 3 * min i few)) F = some (nI (pos + 3 * few), F') ∧ ∀ j, j < 19 → F' (ordN j) = nI (if j < few then tk g (pos + 3 * j) 3 else 0)
  | 0, k + 1, i, F, hi, hk, hF => by
    rw [fMo_readOwn_104]
    have e : i = 19 := by omega
    subst e
    have e2 : min 19 few = few := by omega
    refine ⟨F, ?_, hF⟩
    simp (disch := omega) only [nlit, nI_add, nI_mul, nI_sub, nI_leI, nI_ltI, nI_eq, nI_inI', nI_inI, nI_lt0', nI_lt0, nI_clamp, nI_div, nI_rem, nI_shl, nI_shr, upd_same, nI_eqm, nI_m1le, nI_m2le, nI_m1lt, nI_m2lt, nI_m2m1, eq_self, not_false_eq_true, not_true_eq_false, if_pos, if_neg, if_true, if_false, Option.bind_some, e2]
  | m + 1, k + 1, i, F, hi, hk, hF => by
    rw [fMo_readOwn_104]
    obtain ⟨o1, o2, o3, -⟩ := ord_ok i (by omega)
    have hfa := s_fewAt (N := N) (show i < 19 by omega)
    by_cases hif : i < few
    · have ht := s_Mo_take (N := N) (by omega) g (p := pos + 3 * i) (bits := 3) (by omega) (by omega)
      have e2 : min i few = i := by omega
      have e3 : pos + 3 * i + 3 = pos + 3 * min (i + 1) few := by omega
      simp (disch := omega) only [nlit, nI_add, nI_mul, nI_sub, nI_leI, nI_ltI, nI_eq, nI_inI', nI_inI, nI_lt0', nI_lt0, nI_clamp, nI_div, nI_rem, nI_shl, nI_shr, upd_same, nI_eqm, nI_m1le, nI_m2le, nI_m1lt, nI_m2lt, nI_m2m1, eq_self, not_false_eq_true, not_true_eq_false, if_pos, if_neg, if_true, if_false, Option.bind_some, hfa, e2, ht, e3]
      refine s_Mo_few_104 hN hfew hp m k (i + 1) _ (by omega) (by omega) ?_
      intro j hj
      obtain ⟨p1, p2, p3, -⟩ := ord_ok j (by omega)
      by_cases e : j = i
      · subst e
        rw [upd_same, if_pos hif]
      · rw [upd_ne (fun h => e (by rw [← p3, ← o3, h]))]
        exact hF j (by omega)
    · have e3 : min i few = min (i + 1) few := by omega
      simp (disch := omega) only [nlit, nI_add, nI_mul, nI_sub, nI_leI, nI_ltI, nI_eq, nI_inI', nI_inI, nI_lt0', nI_lt0, nI_clamp, nI_div, nI_rem, nI_shl, nI_shr, upd_same, nI_eqm, nI_m1le, nI_m2le, nI_m1lt, nI_m2lt, nI_m2m1, eq_self, not_false_eq_true, not_true_eq_false, if_pos, if_neg, if_true, if_false, Option.bind_some, hfa, e3]
      refine s_Mo_few_104 hN hfew hp m k (i + 1) _ (by omega) (by omega) ?_
      intro j hj
      obtain ⟨p1, p2, p3, -⟩ := ord_ok j (by omega)
      by_cases e : j = i
      · subst e
        rw [upd_same, if_neg hif]
      · rw [upd_ne (fun h => e (by rw [← p3, ← o3, h]))]
        exact hF j (by omega)
theorem s_few {N pos few : Nat} {g : Nat → Int32} (hN : 300 ≤ N) (hfew : few ≤ 19) (hp : pos + 3 * few ≤ 8 * 65536) (F : Nat → Int32) : ∃ F', fMo_readOwn_104 N g (nI few) N (nI 0) (nI pos) F = some (nI (pos + 3 * few), F') ∧ ∀ s, s < 19 → F' s = nI (clen g pos few s) := by
  obtain ⟨F', a, b⟩ := s_Mo_few_104 (N := N) (g := g) hN hfew hp 19 N 0 F (by omega) (by omega) (fun j hj => by omega)
  rw [show min 0 few = 0 by omega] at a
  refine ⟨F', a, fun s hs => ?_⟩
  obtain ⟨o1, o2, o3, o4, o5, -⟩ := ord_ok s hs
  have := b (invN s) o5
  rw [o4] at this
  exact this
theorem s_cl {N n pos few : Nat} {f : Nat → Int32} (hN : 300 ≤ N) (hn : n ≤ 65536) (hfew : few ≤ 19) (hp : pos + 3 * few ≤ 8 * n) (g : Nat → Int32) (hg : ∀ j, j < 19 → g j = 0) : ∃ g', fUnpacker_readCodeLengths_38 N (nI n) (nI few) f N (nI 0) (nI pos) g = some (nI (pos + 3 * few), g') ∧ ∀ s, s < 19 → g' s = nI (clen f pos few s) := by
  obtain ⟨F', a, b⟩ := s_cl_38 (N := N) (f := f) hN hn hfew hp few N 0 g (by omega) (by omega) (fun j hj => by rw [if_neg (by omega), hg _ (ord_ok j hj).2.1]; rfl)
  refine ⟨F', a, fun s hs => ?_⟩
  obtain ⟨o1, o2, o3, o4, o5, -⟩ := ord_ok s hs
  have := b (invN s) o5
  rw [o4] at this
  exact this
theorem clen_eq {n pos few : Nat} {f g : Nat → Int32} (h : rowEq n f g) (hp : pos + 3 * few ≤ 8 * n) (s : Nat) : clen f pos few s = clen g pos few s := by
  rw [clen, clen]
  split
  · rw [tk_eq h _ _ (by omega)]
  · rfl

def rbits (s : Nat) : Nat := if s = 16 then 2 else if s = 17 then 3 else if s = 18 then 7 else 0
def lrep (s : Nat) : Nat := if s = 16 then 3 else if s = 17 then 3 else if s = 18 then 11 else 1
theorem rbits_le (s : Nat) : rbits s ≤ 7 := by
  rw [rbits]; split
  · omega
  · split
    · omega
    · split <;> omega
theorem s_repeatBits {N s : Nat} (h : s < 2 ^ 31) : fPB_repeatBits N (nI s) = some (nI (rbits s)) := by
  rw [fPB_repeatBits, rbits]
  simp (disch := omega) only [nlit, nI_add, nI_mul, nI_sub, nI_leI, nI_ltI, nI_eq, nI_inI', nI_inI, nI_lt0', nI_lt0, nI_clamp, nI_div, nI_rem, nI_shl, nI_shr, upd_same, nI_eqm, nI_m1le, nI_m2le, nI_m1lt, nI_m2lt, nI_m2m1, eq_self, not_false_eq_true, not_true_eq_false]
  split
  · rfl
  · split
    · rfl
    · split <;> rfl
theorem s_leastRepeat {N s : Nat} (h : s < 2 ^ 31) : fPB_leastRepeat N (nI s) = some (nI (lrep s)) := by
  rw [fPB_leastRepeat, lrep]
  simp (disch := omega) only [nlit, nI_add, nI_mul, nI_sub, nI_leI, nI_ltI, nI_eq, nI_inI', nI_inI, nI_lt0', nI_lt0, nI_clamp, nI_div, nI_rem, nI_shl, nI_shr, upd_same, nI_eqm, nI_m1le, nI_m2le, nI_m1lt, nI_m2lt, nI_m2m1, eq_self, not_false_eq_true, not_true_eq_false]
  split
  · rfl
  · split
    · rfl
    · split <;> rfl
theorem Mo_rbits {s : Nat} (h : s < 2 ^ 31) : (if nI s = (16 : Int32) then (2 : Int32) else (if nI s = (17 : Int32) then (3 : Int32) else (if nI s = (18 : Int32) then (7 : Int32) else (0 : Int32)))) = nI (rbits s) := by
  rw [rbits]
  simp (disch := omega) only [nlit, nI_add, nI_mul, nI_sub, nI_leI, nI_ltI, nI_eq, nI_inI', nI_inI, nI_lt0', nI_lt0, nI_clamp, nI_div, nI_rem, nI_shl, nI_shr, upd_same, nI_eqm, nI_m1le, nI_m2le, nI_m1lt, nI_m2lt, nI_m2m1, eq_self, not_false_eq_true, not_true_eq_false]
  split
  · rfl
  · split
    · rfl
    · split <;> rfl
/-- rows of lengths alike -/
def lenOK (n : Nat) (a b : Nat → Int32) : Prop := ∀ j, j < n → b j = a j ∧ ∃ w, w < 16 ∧ a j = nI w
theorem s_len_145 {N h m : Nat} {v : Int32} (hm : h + m ≤ 316) : ∀ (d k i : Nat) (g : Nat → Int32), i + d = m → d < k → (∀ j, j < i → g (h + j) = v) → ∃ g', fUnpacker_readLength_145 N (nI h) (nI m) v k (nI (h + i)) g = some g' ∧ (∀ j, j < m → g' (h + j) = v) ∧ ∀ j, j < h → g' j = g j
  | 0, k + 1, i, g, hi, hk, hg => by
    rw [fUnpacker_readLength_145]
    have e : i = m := by omega
    subst e
    refine ⟨g, ?_, hg, fun _ _ => rfl⟩
    simp (disch := omega) only [nlit, nI_add, nI_mul, nI_sub, nI_leI, nI_ltI, nI_eq, nI_inI', nI_inI, nI_lt0', nI_lt0, nI_clamp, nI_div, nI_rem, nI_shl, nI_shr, upd_same, nI_eqm, nI_m1le, nI_m2le, nI_m1lt, nI_m2lt, nI_m2m1, eq_self, not_false_eq_true, not_true_eq_false, if_pos, if_neg, if_true, if_false, Option.bind_some]
  | d + 1, k + 1, i, g, hi, hk, hg => by
    rw [fUnpacker_readLength_145]
    obtain ⟨g', a, b, c⟩ := s_len_145 (N := N) hm d k (i + 1) (upd g (h + i) v) (by omega) (by omega) (by
      intro j hj
      by_cases e : j = i
      · rw [e, upd_same]
      · rw [upd_ne (by omega)]
        exact hg j (by omega))
    refine ⟨g', ?_, b, fun j hj => by rw [c j hj, upd_ne (by omega)]⟩
    simp (disch := omega) only [nlit, nI_add, nI_mul, nI_sub, nI_leI, nI_ltI, nI_eq, nI_inI', nI_inI, nI_lt0', nI_lt0, nI_clamp, nI_div, nI_rem, nI_shl, nI_shr, upd_same, nI_eqm, nI_m1le, nI_m2le, nI_m1lt, nI_m2lt, nI_m2m1, eq_self, not_false_eq_true, not_true_eq_false, if_pos, if_neg, if_true, if_false, Option.bind_some]
    exact a
theorem s_line_376 {N h m : Nat} {v : Int32} (hm : h + m ≤ 316) : ∀ (d k i : Nat) (g : Nat → Int32), i + d = m → d < k → (∀ j, j < i → g (h + j) = v) → ∃ g', fMo_readOwn_376 N (nI h) (nI m) v k (nI i) g = some g' ∧ (∀ j, j < m → g' (h + j) = v) ∧ ∀ j, j < h → g' j = g j
  | 0, k + 1, i, g, hi, hk, hg => by
    rw [fMo_readOwn_376]
    have e : i = m := by omega
    subst e
    refine ⟨g, ?_, hg, fun _ _ => rfl⟩
    simp (disch := omega) only [nlit, nI_add, nI_mul, nI_sub, nI_leI, nI_ltI, nI_eq, nI_inI', nI_inI, nI_lt0', nI_lt0, nI_clamp, nI_div, nI_rem, nI_shl, nI_shr, upd_same, nI_eqm, nI_m1le, nI_m2le, nI_m1lt, nI_m2lt, nI_m2m1, eq_self, not_false_eq_true, not_true_eq_false, if_pos, if_neg, if_true, if_false, Option.bind_some]
  | d + 1, k + 1, i, g, hi, hk, hg => by
    rw [fMo_readOwn_376]
    obtain ⟨g', a, b, c⟩ := s_line_376 (N := N) hm d k (i + 1) (upd g (h + i) v) (by omega) (by omega) (by
      intro j hj
      by_cases e : j = i
      · rw [e, upd_same]
      · rw [upd_ne (by omega)]
        exact hg j (by omega))
    refine ⟨g', ?_, b, fun j hj => by rw [c j hj, upd_ne (by omega)]⟩
    simp (disch := omega) only [nlit, nI_add, nI_mul, nI_sub, nI_leI, nI_ltI, nI_eq, nI_inI', nI_inI, nI_lt0', nI_lt0, nI_clamp, nI_div, nI_rem, nI_shl, nI_shr, upd_same, nI_eqm, nI_m1le, nI_m2le, nI_m1lt, nI_m2lt, nI_m2m1, eq_self, not_false_eq_true, not_true_eq_false, if_pos, if_neg, if_true, if_false, Option.bind_some]
    exact a
theorem s_269 {N p s : Nat} {g : Nat → Int32} (hN : 300 ≤ N) (hs : s < 19) (hp : p + rbits s ≤ 8 * 65536) : fMo_readOwn_269 N (nI p) g (nI s) (nI (rbits s)) = some (nI (lrep s + tk g p (rbits s)), nI (p + rbits s)) := by
  have ht := s_Mo_take (N := N) (by omega) g (p := p) (bits := rbits s) (by have := rbits_le s; omega) hp
  rw [fMo_readOwn_269]
  by_cases h16 : 16 ≤ s
  · by_cases h18 : s = 18
    · subst h18
      rw [show (7 : Int32) = nI (rbits 18) from rfl, ht]
      simp (disch := omega) only [nlit, nI_add, nI_mul, nI_sub, nI_leI, nI_ltI, nI_eq, nI_inI', nI_inI, nI_lt0', nI_lt0, nI_clamp, nI_div, nI_rem, nI_shl, nI_shr, upd_same, nI_eqm, nI_m1le, nI_m2le, nI_m1lt, nI_m2lt, nI_m2m1, eq_self, not_false_eq_true, not_true_eq_false, if_pos, if_neg, if_true, if_false, Option.bind_some]
      rfl
    · have hl : lrep s = 3 := by
        rw [lrep]
        rcases (show s = 16 ∨ s = 17 by omega) with e | e <;> subst e <;> rfl
      simp (disch := omega) only [nlit, nI_add, nI_mul, nI_sub, nI_leI, nI_ltI, nI_eq, nI_inI', nI_inI, nI_lt0', nI_lt0, nI_clamp, nI_div, nI_rem, nI_shl, nI_shr, upd_same, nI_eqm, nI_m1le, nI_m2le, nI_m1lt, nI_m2lt, nI_m2m1, eq_self, not_false_eq_true, not_true_eq_false, if_pos, if_neg, if_true, if_false, Option.bind_some, ht, hl]
  · have hl : lrep s = 1 := by
      rw [lrep, if_neg (by omega), if_neg (by omega), if_neg (by omega)]
    have hr : rbits s = 0 := by
      rw [rbits, if_neg (by omega), if_neg (by omega), if_neg (by omega)]
    simp (disch := omega) only [nlit, nI_add, nI_mul, nI_sub, nI_leI, nI_ltI, nI_eq, nI_inI', nI_inI, nI_lt0', nI_lt0, nI_clamp, nI_div, nI_rem, nI_shl, nI_shr, upd_same, nI_eqm, nI_m1le, nI_m2le, nI_m1lt, nI_m2lt, nI_m2m1, eq_self, not_false_eq_true, not_true_eq_false, if_pos, if_neg, if_true, if_false, Option.bind_some, hl, hr]
    rfl
theorem s_109 {N h s : Nat} {len : Nat → Int32} (hs : s < 19) (hh : s = 16 → 1 ≤ h) (h2 : h ≤ 316) : fUnpacker_readLength_109 N (nI h) (nI s) len = some (if s < 16 then nI s else if s = 16 then len (h - 1) else 0) := by
  rw [fUnpacker_readLength_109]
  by_cases h16 : s < 16
  · simp (disch := omega) only [nlit, nI_add, nI_mul, nI_sub, nI_leI, nI_ltI, nI_eq, nI_inI', nI_inI, nI_lt0', nI_lt0, nI_clamp, nI_div, nI_rem, nI_shl, nI_shr, upd_same, nI_eqm, nI_m1le, nI_m2le, nI_m1lt, nI_m2lt, nI_m2m1, eq_self, not_false_eq_true, not_true_eq_false, if_pos, if_neg, if_true, if_false, Option.bind_some]
  · by_cases h17 : s = 16
    · have := hh h17
      simp (disch := omega) only [nlit, nI_add, nI_mul, nI_sub, nI_leI, nI_ltI, nI_eq, nI_inI', nI_inI, nI_lt0', nI_lt0, nI_clamp, nI_div, nI_rem, nI_shl, nI_shr, upd_same, nI_eqm, nI_m1le, nI_m2le, nI_m1lt, nI_m2lt, nI_m2m1, eq_self, not_false_eq_true, not_true_eq_false, if_pos, if_neg, if_true, if_false, Option.bind_some]
    · simp (disch := omega) only [nlit, nI_add, nI_mul, nI_sub, nI_leI, nI_ltI, nI_eq, nI_inI', nI_inI, nI_lt0', nI_lt0, nI_clamp, nI_div, nI_rem, nI_shl, nI_shr, upd_same, nI_eqm, nI_m1le, nI_m2le, nI_m1lt, nI_m2lt, nI_m2m1, eq_self, not_false_eq_true, not_true_eq_false, if_pos, if_neg, if_true, if_false, Option.bind_some]
theorem s_339 {N h s : Nat} {len : Nat → Int32} (hs : s < 19) (hh : s = 16 → 1 ≤ h) (h2 : h ≤ 316) : fMo_readOwn_339 N (nI h) (nI s) len = some (if s < 16 then nI s else if s = 16 then len (h - 1) else 0) := by
  rw [fMo_readOwn_339]
  by_cases h16 : s < 16
  · simp (disch := omega) only [nlit, nI_add, nI_mul, nI_sub, nI_leI, nI_ltI, nI_eq, nI_inI', nI_inI, nI_lt0', nI_lt0, nI_clamp, nI_div, nI_rem, nI_shl, nI_shr, upd_same, nI_eqm, nI_m1le, nI_m2le, nI_m1lt, nI_m2lt, nI_m2m1, eq_self, not_false_eq_true, not_true_eq_false, if_pos, if_neg, if_true, if_false, Option.bind_some]
  · by_cases h17 : s = 16
    · have := hh h17
      simp (disch := omega) only [nlit, nI_add, nI_mul, nI_sub, nI_leI, nI_ltI, nI_eq, nI_inI', nI_inI, nI_lt0', nI_lt0, nI_clamp, nI_div, nI_rem, nI_shl, nI_shr, upd_same, nI_eqm, nI_m1le, nI_m2le, nI_m1lt, nI_m2lt, nI_m2m1, eq_self, not_false_eq_true, not_true_eq_false, if_pos, if_neg, if_true, if_false, Option.bind_some]
    · simp (disch := omega) only [nlit, nI_add, nI_mul, nI_sub, nI_leI, nI_ltI, nI_eq, nI_inI', nI_inI, nI_lt0', nI_lt0, nI_clamp, nI_div, nI_rem, nI_shl, nI_shr, upd_same, nI_eqm, nI_m1le, nI_m2le, nI_m1lt, nI_m2lt, nI_m2m1, eq_self, not_false_eq_true, not_true_eq_false, if_pos, if_neg, if_true, if_false, Option.bind_some]
theorem neg1_lt : ¬ (0 : Int32) ≤ -1 := by decide
theorem nI_ne_neg1 {n : Nat} (h : n < 2 ^ 31) : nI n ≠ (-1 : Int32) := by
  intro e
  have h1 := nI_nlt (a := n) (b := 0) (Nat.zero_le _) h
  rw [e] at h1
  exact h1 (by decide)
/-- one item of the lengths, read on both sides: what it leaves -/
theorem u_length {N n pos hv all : Nat} {f g P S M S2 len line rp : Nat → Int32} {c T : Nat → Nat} {codes : Int32} (hN : 400 ≤ N) (hn : n ≤ 65536) (hfg : rowEq n f g) (hpos : pos ≤ 8 * n) (hC : tabC c T codes P S) (hM : tabM c T 2 M S2) (hc : acc c 16 ≤ 19) (hT : ∀ i, i < acc c 16 → T i < 19) (hfull : kra c 16 = 32768) (hhv : hv < all) (hall : all ≤ 316) (hlen : lenOK hv len line) :
    (∃ a r b, fUnpacker_readLength N (nI hv) (nI all) (nI pos) codes (nI n) f P S rp len = some (0, a, r, b) ∧ ∃ q fl, (∀ k x1, ∃ a' b', fMo_readOwn_180 N (nI (8 * n)) g (nI all) M S2 (k + 1) x1 (nI hv) (nI pos) line = some (.inr (true, a', fl, q, b'))) ∧ repW r fl q) ∨
    (∃ m p len' line', 1 ≤ m ∧ hv + m ≤ all ∧ pos < p ∧ p ≤ 8 * n ∧ lenOK (hv + m) len' line' ∧ fUnpacker_readLength N (nI hv) (nI all) (nI pos) codes (nI n) f P S rp len = some (nI m, nI p, rp, len') ∧ ∀ k x1, fMo_readOwn_180 N (nI (8 * n)) g (nI all) M S2 (k + 1) x1 (nI hv) (nI pos) line = fMo_readOwn_180 N (nI (8 * n)) g (nI all) M S2 k (nI pos) (nI (hv + m)) (nI p) line') := by
  have hd := s_decode (N := N) (f := f) (by omega) hn hpos hC
  have hone : acc c 16 = 1 → c 1 = 1 := by
    have := full_two hfull
    omega
  obtain ⟨q, hs⟩ := s_symbol (N := N) (f := g) (by omega) (show 2 ≤ 2 by omega) hn hpos hM (by rw [at0]; simp; omega) hone
  rw [← dec_eq hfg c T (Nat.le_refl _) pos] at hs
  have hnn := dec_full (f := f) (T := T) (stop := 8 * n) (pos := pos) hfull
  cases hdec : dec f c T (8 * n) pos with
  | none =>
    left
    rw [hdec] at hs hd
    obtain ⟨r, w1, w2⟩ := s_wrong (N := N) 1 (nI pos) rp
    refine ⟨nI pos, r, len, ?_, nI pos, 1, ?_, w2⟩
    · rw [fUnpacker_readLength, hd, Option.bind_some, fUnpacker_readLength_21, if_neg neg1_lt, Option.bind_some, if_pos rfl, w1]
      rfl
    · intro k x1
      refine ⟨q, line, ?_⟩
      rw [fMo_readOwn_180, show (2 : Int32) = nI 2 from rfl, hs, if_neg (by rw [nI_leI (by omega) (by omega)]; omega), Option.bind_some, if_neg neg1_lt]
      rfl
  | some z =>
    cases z with
    | none => exact absurd hdec hnn
    | some sp =>
      obtain ⟨s, p⟩ := sp
      obtain ⟨d1, d2, i, d3, d4⟩ := dec_some hdec
      have hs19 := hT i d3
      rw [← d4] at hs19
      rw [hdec] at hs hd
      have hrb := rbits_le s
      have hx0 : (0 : Int32) ≤ nI s := nI_le (a := 0) (Nat.zero_le _) (by omega)
      have h21 : fUnpacker_readLength_21 N (nI p) (nI n) f (nI s) = (fBitSource_take N (nI (rbits s)) (nI p) (nI n) f).bind (fun y4 => some (y4.1, y4.2)) := by
        rw [fUnpacker_readLength_21, if_pos hx0, s_repeatBits (by omega), Option.bind_some]
      have hd' : fDecoder_decode N codes (nI pos) (nI n) f P S = some (nI s, nI p) := hd
      have hs' : fMo_symbol N (nI 2) (nI pos) (nI (8 * n)) M g S2 = some (nI s, nI p) := hs
      have hstep : ∀ k x1, fMo_readOwn_180 N (nI (8 * n)) g (nI all) M S2 (k + 1) x1 (nI hv) (nI pos) line = (if nI (p + rbits s) ≤ nI (8 * n) then
            (fMo_readOwn_269 N (nI p) g (nI s) (nI (rbits s))).bind (fun y37 =>
              if nI s = (16 : Int32) then
                if nI hv = 0 then
                  (fMo_wrong N (6 : Int32) (nI pos)).bind (fun y50 =>
                    some (.inr (y50.1, y37.2, y50.2.1, y50.2.2, line)))
                else
                  if (nI hv + y37.1) ≤ nI all then
                    (fMo_readOwn_339 N (nI hv) (nI s) line).bind (fun y52 =>
                      (fMo_readOwn_376 N (nI hv) y37.1 y52 N (0 : Int32) line).bind (fun y53 =>
                        fMo_readOwn_180 N (nI (8 * n)) g (nI all) M S2 k (nI pos) (nI hv + y37.1) y37.2 y53))
                  else
                    (fMo_wrong N (6 : Int32) (nI pos)).bind (fun y54 =>
                      some (.inr (y54.1, y37.2, y54.2.1, y54.2.2, line)))
              else
                if (nI hv + y37.1) ≤ nI all then
                  (fMo_readOwn_339 N (nI hv) (nI s) line).bind (fun y44 =>
                    (fMo_readOwn_376 N (nI hv) y37.1 y44 N (0 : Int32) line).bind (fun y47 =>
                      fMo_readOwn_180 N (nI (8 * n)) g (nI all) M S2 k (nI pos) (nI hv + y37.1) y37.2 y47))
                else
                  (fMo_wrong N (6 : Int32) (nI pos)).bind (fun y48 =>
                    some (.inr (y48.1, y37.2, y48.2.1, y48.2.2, line))))
          else
            (fMo_wrong N (1 : Int32) (nI pos)).bind (fun y55 =>
              some (.inr (y55.1, nI p, y55.2.1, y55.2.2, line)))) := by
        intro k x1
        rw [fMo_readOwn_180, show fMo_symbol N (2 : Int32) (nI pos) (nI (8 * n)) M g S2 = some (nI s, nI p) from hs', if_neg (by rw [nI_leI (by omega) (by omega)]; omega), Option.bind_some]
        show (if 0 ≤ nI s then (if (nI p + (if nI s = (16 : Int32) then (2 : Int32) else (if nI s = (17 : Int32) then (3 : Int32) else (if nI s = (18 : Int32) then (7 : Int32) else (0 : Int32))))) ≤ nI (8 * n) then _ else _) else _) = _
        rw [if_pos hx0, Mo_rbits (by omega), nI_add]
      by_cases hbits : p + rbits s ≤ 8 * n
      · have ht := s_take (N := N) (by omega) f (p := p) (bits := rbits s) (n := n) (by omega) hn hbits
        have h269 := s_269 (N := N) (g := g) (by omega) hs19 (show p + rbits s ≤ 8 * 65536 by omega)
        rw [← tk_eq hfg _ _ hbits] at h269
        have hlt := tk_lt f p (rbits s)
        have hpw : 2 ^ rbits s ≤ 2 ^ 7 := Nat.pow_le_pow_right (by decide) hrb
        generalize tk f p (rbits s) = v at *
        have hlr : 1 ≤ lrep s ∧ lrep s ≤ 11 := by
          rw [lrep]
          split
          · omega
          · split
            · omega
            · split <;> omega
        have e1 : fUnpacker_readLength_21 N (nI p) (nI n) f (nI s) = some (nI v, nI (p + rbits s)) := by
          rw [h21, ht]
          rfl
        have hlr2 := s_leastRepeat (N := N) (show s < 2 ^ 31 by omega)
        have hgo : fUnpacker_readLength N (nI hv) (nI all) (nI pos) codes (nI n) f P S rp len = (if s = 16 ∧ hv = 0 then (fUnpacker_wrong N (6 : Int32) (nI pos) rp).bind (fun y24 => some ((0 : Int32), nI (p + rbits s), y24.2, len)) else if nI (lrep s + v) ≤ nI (all - hv) then
                      (fUnpacker_readLength_109 N (nI hv) (nI s) len).bind (fun y26 =>
                        (fUnpacker_readLength_145 N (nI hv) (nI (lrep s + v)) y26 N (nI hv) len).bind (fun y27 =>
                          some (nI (lrep s + v), nI (p + rbits s), rp, y27)))
                    else
                      (fUnpacker_wrong N (6 : Int32) (nI pos) rp).bind (fun y28 =>
                        some ((0 : Int32), nI (p + rbits s), y28.2, len))) := by
          rw [fUnpacker_readLength, hd', Option.bind_some]
          show (fUnpacker_readLength_21 N (nI p) (nI n) f (nI s)).bind _ = _
          rw [e1, Option.bind_some]
          by_cases ha : s = 16
          · by_cases hb : hv = 0
            · simp (disch := omega) only [nlit, nI_add, nI_mul, nI_sub, nI_leI, nI_ltI, nI_eq, nI_inI', nI_inI, nI_lt0', nI_lt0, nI_clamp, nI_div, nI_rem, nI_shl, nI_shr, upd_same, nI_eqm, nI_m1le, nI_m2le, nI_m1lt, nI_m2lt, nI_m2m1, eq_self, not_false_eq_true, not_true_eq_false, if_pos, if_neg, if_true, if_false, Option.bind_some, hlr2, hlr2]
            · simp (disch := omega) only [nlit, nI_add, nI_mul, nI_sub, nI_leI, nI_ltI, nI_eq, nI_inI', nI_inI, nI_lt0', nI_lt0, nI_clamp, nI_div, nI_rem, nI_shl, nI_shr, upd_same, nI_eqm, nI_m1le, nI_m2le, nI_m1lt, nI_m2lt, nI_m2m1, eq_self, not_false_eq_true, not_true_eq_false, if_pos, if_neg, if_true, if_false, Option.bind_some, hlr2]
          · simp (disch := omega) only [nlit, nI_add, nI_mul, nI_sub, nI_leI, nI_ltI, nI_eq, nI_inI', nI_inI, nI_lt0', nI_lt0, nI_clamp, nI_div, nI_rem, nI_shl, nI_shr, upd_same, nI_eqm, nI_m1le, nI_m2le, nI_m1lt, nI_m2lt, nI_m2m1, eq_self, not_false_eq_true, not_true_eq_false, if_pos, if_neg, if_true, if_false, Option.bind_some, hlr2]
        have hst2 : ∀ k x1, fMo_readOwn_180 N (nI (8 * n)) g (nI all) M S2 (k + 1) x1 (nI hv) (nI pos) line = (if s = 16 ∧ hv = 0 then some (.inr (true, nI (p + rbits s), 6, nI pos, line)) else if hv + (lrep s + v) ≤ all then (fMo_readOwn_339 N (nI hv) (nI s) line).bind (fun y52 =>
                      (fMo_readOwn_376 N (nI hv) (nI (lrep s + v)) y52 N (0 : Int32) line).bind (fun y53 =>
                        fMo_readOwn_180 N (nI (8 * n)) g (nI all) M S2 k (nI pos) (nI (hv + (lrep s + v))) (nI (p + rbits s)) y53)) else some (.inr (true, nI (p + rbits s), 6, nI pos, line))) := by
          intro k x1
          rw [hstep, if_pos (by rw [nI_leI (by omega) (by omega)]; omega), h269, Option.bind_some]
          by_cases ha : s = 16
          · by_cases hb : hv = 0
            · simp (disch := omega) only [nlit, nI_add, nI_mul, nI_sub, nI_leI, nI_ltI, nI_eq, nI_inI', nI_inI, nI_lt0', nI_lt0, nI_clamp, nI_div, nI_rem, nI_shl, nI_shr, upd_same, nI_eqm, nI_m1le, nI_m2le, nI_m1lt, nI_m2lt, nI_m2m1, eq_self, not_false_eq_true, not_true_eq_false, if_pos, if_neg, if_true, if_false, Option.bind_some, s_Mo_wrong]
            · by_cases hc : hv + (lrep s + v) ≤ all
              · simp (disch := omega) only [nlit, nI_add, nI_mul, nI_sub, nI_leI, nI_ltI, nI_eq, nI_inI', nI_inI, nI_lt0', nI_lt0, nI_clamp, nI_div, nI_rem, nI_shl, nI_shr, upd_same, nI_eqm, nI_m1le, nI_m2le, nI_m1lt, nI_m2lt, nI_m2m1, eq_self, not_false_eq_true, not_true_eq_false, if_pos, if_neg, if_true, if_false, Option.bind_some]
              · simp (disch := omega) only [nlit, nI_add, nI_mul, nI_sub, nI_leI, nI_ltI, nI_eq, nI_inI', nI_inI, nI_lt0', nI_lt0, nI_clamp, nI_div, nI_rem, nI_shl, nI_shr, upd_same, nI_eqm, nI_m1le, nI_m2le, nI_m1lt, nI_m2lt, nI_m2m1, eq_self, not_false_eq_true, not_true_eq_false, if_pos, if_neg, if_true, if_false, Option.bind_some, s_Mo_wrong]
          · by_cases hc : hv + (lrep s + v) ≤ all
            · simp (disch := omega) only [nlit, nI_add, nI_mul, nI_sub, nI_leI, nI_ltI, nI_eq, nI_inI', nI_inI, nI_lt0', nI_lt0, nI_clamp, nI_div, nI_rem, nI_shl, nI_shr, upd_same, nI_eqm, nI_m1le, nI_m2le, nI_m1lt, nI_m2lt, nI_m2m1, eq_self, not_false_eq_true, not_true_eq_false, if_pos, if_neg, if_true, if_false, Option.bind_some]
            · simp (disch := omega) only [nlit, nI_add, nI_mul, nI_sub, nI_leI, nI_ltI, nI_eq, nI_inI', nI_inI, nI_lt0', nI_lt0, nI_clamp, nI_div, nI_rem, nI_shl, nI_shr, upd_same, nI_eqm, nI_m1le, nI_m2le, nI_m1lt, nI_m2lt, nI_m2m1, eq_self, not_false_eq_true, not_true_eq_false, if_pos, if_neg, if_true, if_false, Option.bind_some, s_Mo_wrong]
        obtain ⟨r, w1, w2⟩ := s_wrong (N := N) 6 (nI pos) rp
        by_cases hbad : (s = 16 ∧ hv = 0) ∨ ¬ hv + (lrep s + v) ≤ all
        · left
          refine ⟨nI (p + rbits s), r, len, ?_, nI pos, 6, ?_, w2⟩
          · rw [hgo]
            by_cases ha : s = 16 ∧ hv = 0
            · rw [if_pos ha, w1]
              rfl
            · rw [if_neg ha, if_neg (by rw [nI_leI (by omega) (by omega)]; omega), w1]
              rfl
          · intro k x1
            refine ⟨nI (p + rbits s), line, ?_⟩
            rw [hst2]
            by_cases ha : s = 16 ∧ hv = 0
            · rw [if_pos ha]
            · rw [if_neg ha, if_neg (by omega)]
        · right
          have ha : ¬ (s = 16 ∧ hv = 0) := fun h => hbad (Or.inl h)
          have hb : hv + (lrep s + v) ≤ all := by
            rcases Nat.lt_or_ge all (hv + (lrep s + v)) with h | h
            · exact absurd (Or.inr (by omega)) hbad
            · exact h
          have h109 := s_109 (N := N) (h := hv) (len := len) hs19 (by omega) (by omega)
          have h339 := s_339 (N := N) (h := hv) (len := line) hs19 (by omega) (by omega)
          have hval : (if s < 16 then nI s else if s = 16 then line (hv - 1) else 0) = (if s < 16 then nI s else if s = 16 then len (hv - 1) else 0) := by
            by_cases h16 : s = 16
            · rw [(hlen (hv - 1) (by omega)).1]
            · rw [if_neg h16, if_neg h16]
          have hval2 : ∃ w, w < 16 ∧ (if s < 16 then nI s else if s = 16 then len (hv - 1) else 0) = nI w := by
            by_cases h1 : s < 16
            · exact ⟨s, h1, by rw [if_pos h1]⟩
            · by_cases h16 : s = 16
              · rw [if_neg h1, if_pos h16]
                exact (hlen (hv - 1) (by omega)).2
              · exact ⟨0, by omega, by rw [if_neg h1, if_neg h16]; rfl⟩
          rw [hval] at h339
          generalize (if s < 16 then nI s else if s = 16 then len (hv - 1) else 0) = val at *
          obtain ⟨len', a1, a2, a3⟩ := s_len_145 (N := N) (h := hv) (m := lrep s + v) (v := val) (by omega) (lrep s + v) N 0 len (by omega) (by omega) (fun j hj => by omega)
          obtain ⟨line', b1, b2, b3⟩ := s_line_376 (N := N) (h := hv) (m := lrep s + v) (v := val) (by omega) (lrep s + v) N 0 line (by omega) (by omega) (fun j hj => by omega)
          refine ⟨lrep s + v, p + rbits s, len', line', by omega, hb, by omega, hbits, ?_, ?_, ?_⟩
          · intro j hj
            by_cases hj2 : j < hv
            · rw [a3 j hj2, b3 j hj2]
              exact hlen j hj2
            · have e9 : j = hv + (j - hv) := by omega
              rw [e9, a2 _ (by omega), b2 _ (by omega)]
              exact ⟨rfl, hval2⟩
          · rw [hgo, if_neg ha, if_pos (by rw [nI_leI (by omega) (by omega)]; omega), h109, Option.bind_some]
            rw [show fUnpacker_readLength_145 N (nI hv) (nI (lrep s + v)) val N (nI hv) len = some len' from a1]
            rfl
          · intro k x1
            rw [hst2, if_neg ha, if_pos hb, h339, Option.bind_some]
            rw [show fMo_readOwn_376 N (nI hv) (nI (lrep s + v)) val N (0 : Int32) line = some line' from b1]
            rfl
      · left
        have ht := s_take_no (N := N) f (p := p) (bits := rbits s) (n := n) (by omega) hn d2 (by omega)
        obtain ⟨r, w1, w2⟩ := s_wrong (N := N) 1 (nI pos) rp
        refine ⟨nI p, r, len, ?_, nI pos, 1, ?_, w2⟩
        · rw [fUnpacker_readLength, hd', Option.bind_some]
          show (fUnpacker_readLength_21 N (nI p) (nI n) f (nI s)).bind _ = _
          rw [h21, ht, Option.bind_some, Option.bind_some]
          show (if nI s = (-1 : Int32) then _ else if (-1 : Int32) = (-1 : Int32) then _ else _) = _
          rw [if_neg (nI_ne_neg1 (by omega)), if_pos rfl, w1]
          rfl
        · intro k x1
          rw [hstep, if_neg (by rw [nI_leI (by omega) (by omega)]; omega)]
          exact ⟨_, _, rfl⟩
