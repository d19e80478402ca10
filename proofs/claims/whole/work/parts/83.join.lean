/-! Joining: the reference's leaves, and its least tree. -/
def hv (x : Nat) : Nat → Nat
  | 0 => x
  | h + 1 => (hv x h + 1) / 2
theorem hv_le (x : Nat) : ∀ h, hv x h ≤ x
  | 0 => Nat.le_refl _
  | h + 1 => by
    have := hv_le x h
    rw [hv]
    by_cases e : hv x h = 0
    · rw [e]; omega
    · omega
theorem hv_in (x : Nat) : ∀ h, hv ((x + 1) / 2) h = hv x (h + 1)
  | 0 => rfl
  | h + 1 => by rw [hv, hv_in x h, hv, hv, hv]
theorem s_join_66 {N h : Nat} (hh : h < 2 ^ 20) : ∀ (m k i x : Nat), i + m = h → m < k → x < 2 ^ 30 → fMo_join_66 N (nI h) k (nI x) (nI i) = some (nI (hv x m))
  | 0, k + 1, i, x, hi, hk, hx => by
    rw [fMo_join_66, if_pos (nI_le (by omega) (by omega))]
    rfl
  | m + 1, k + 1, i, x, hi, hk, hx => by
    rw [fMo_join_66, if_neg (show ¬ nI h ≤ nI i from nI_ge (by omega) (by omega)), nI_1, nI_1, show nI (x + 1) / (2 : Int32) = nI ((x + 1) / 2) from pk_div (d := 2) (by omega) (by omega) (by omega), s_join_66 hh m k (i + 1) ((x + 1) / 2) (by omega) (by omega) (by omega), hv_in]
/-- the reference's leaves: the r-th symbol that counts -/
def RL (c : Nat → Nat) (s : Nat) (W P Y : Nat → Int32) : Prop := ∀ x, x < s → 0 < c x → W (rk c x) = nI (c x) ∧ P (rk c x) = -1 ∧ Y (rk c x) = nI x
theorem s_join_41 {N x3 n h n1 n2 : Nat} {cf : Nat → Int32} {c0 : Nat → Nat} (hN : 300 ≤ N) (hh : h < 300) (hn : n ≤ 288) (hx : x3 + n ≤ 320) (h1 : x3 + n ≤ n1) (h2 : x3 + n ≤ n2) (hcf : ∀ x, x < n → cf (x3 + x) = nI (c0 x)) (hcb : ∀ x, c0 x < 2 ^ 29) (n1b : n1 < 2 ^ 31) (n2b : n2 < 2 ^ 31) :
    ∀ (d k s : Nat) (W T P Y : Nat → Int32), s + d = n → d < k → RL (fun x => hv (c0 x) h) s W P Y → (∀ x, x < s → T (x3 + x) = 0) →
      ∃ W' T' P' Y', fMo_join_41 N (nI x3) (nI n) (nI h) n2 n1 cf k (nI (rk (fun x => hv (c0 x) h) s)) (nI s) W T P Y = some (nI (rk (fun x => hv (c0 x) h) n), W', T', P', Y') ∧ RL (fun x => hv (c0 x) h) n W' P' Y' ∧ (∀ x, x < n → T' (x3 + x) = 0) ∧ ∀ j, (j < x3 ∨ x3 + n ≤ j) → T' j = T j
  | 0, k + 1, s, W, T, P, Y, hd, hk, hr, ht => by
    have e : s = n := by omega
    subst e
    refine ⟨W, T, P, Y, ?_, hr, ht, fun _ _ => rfl⟩
    rw [fMo_join_41, if_pos (nI_le (Nat.le_refl _) (by omega))]
  | d + 1, k + 1, s, W, T, P, Y, hd, hk, hr, ht => by
    have hb := hcb s
    have hl := hv_le (c0 s) h
    have hrk := rk_le (fun x => hv (c0 x) h) s
    have h66 := s_join_66 (N := N) (h := h) (by omega) h N 0 (c0 s) (by omega) (by omega) (by omega)
    have hT : ∀ x, x < s + 1 → upd T (x3 + s) 0 (x3 + x) = 0 := by
      intro x hx2
      by_cases e : x = s
      · rw [e, upd_same]
      · rw [upd_ne (by omega)]
        exact ht x (by omega)
    rw [fMo_join_41, if_neg (show ¬ nI n ≤ nI s from nI_ge (by omega) (by omega)), nI_add, if_pos (nI_in (show x3 + s < n2 by omega) n2b), if_pos (nI_in (show x3 + s < n1 by omega) n1b), nI_clamp (show x3 + s < 2 ^ 31 by omega), hcf s (by omega), show fMo_join_66 N (nI h) N (nI (c0 s)) (0 : Int32) = _ from h66, Option.bind_some]
    by_cases hc : 0 < hv (c0 s) h
    · have er : rk (fun x => hv (c0 x) h) (s + 1) = rk (fun x => hv (c0 x) h) s + 1 := by rw [rk, if_pos hc]
      obtain ⟨W', T', P', Y', a1, a2, a3, a4⟩ := s_join_41 (N := N) hN hh hn hx h1 h2 hcf hcb n1b n2b d k (s + 1) (upd W (rk (fun x => hv (c0 x) h) s) (nI (hv (c0 s) h))) (upd T (x3 + s) 0) (upd P (rk (fun x => hv (c0 x) h) s) (-1)) (upd Y (rk (fun x => hv (c0 x) h) s) (nI s)) (by omega) (by omega) (by
        intro x hx2 hcx
        by_cases e : x = s
        · rw [e, upd_same, upd_same, upd_same]
          exact ⟨rfl, rfl, rfl⟩
        · have hlt := rk_lt (c := fun x => hv (c0 x) h) (show x < s by omega) hcx
          rw [upd_ne (by omega), upd_ne (by omega), upd_ne (by omega)]
          exact hr x (by omega) hcx) hT
      refine ⟨W', T', P', Y', ?_, a2, a3, fun j hj => by rw [a4 j hj, upd_ne (by omega)]⟩
      rw [if_neg (show ¬ nI (hv (c0 s) h) ≤ (0 : Int32) from nI_ge (a := 0) hc (by omega)), if_pos (nI_in (show rk (fun x => hv (c0 x) h) s < 640 by omega) (by omega)), if_pos (nI_in (show rk (fun x => hv (c0 x) h) s < 640 by omega) (by omega)), if_pos (nI_in (show rk (fun x => hv (c0 x) h) s < 640 by omega) (by omega)), nI_1, nI_1, nI_clamp (show rk (fun x => hv (c0 x) h) s < 2 ^ 31 by omega), ← er]
      exact a1
    · have er : rk (fun x => hv (c0 x) h) (s + 1) = rk (fun x => hv (c0 x) h) s := by rw [rk, if_neg hc, Nat.add_zero]
      obtain ⟨W', T', P', Y', a1, a2, a3, a4⟩ := s_join_41 (N := N) hN hh hn hx h1 h2 hcf hcb n1b n2b d k (s + 1) W (upd T (x3 + s) 0) P Y (by omega) (by omega) (by
        intro x hx2 hcx
        by_cases e : x = s
        · rw [e] at hcx; exact absurd hcx hc
        · exact hr x (by omega) hcx) hT
      refine ⟨W', T', P', Y', ?_, a2, a3, fun j hj => by rw [a4 j hj, upd_ne (by omega)]⟩
      rw [if_pos (show nI (hv (c0 s) h) ≤ (0 : Int32) from nI_le (b := 0) (by omega) (by omega)), nI_1]
      rw [er] at a1
      exact a1
theorem rk_ex {c : Nat → Nat} {r : Nat} : ∀ {s : Nat}, r < rk c s → ∃ x, x < s ∧ 0 < c x ∧ rk c x = r
  | 0, h => by rw [rk] at h; omega
  | s + 1, h => by
    by_cases h1 : r < rk c s
    · obtain ⟨x, a, b, d⟩ := rk_ex h1
      exact ⟨x, by omega, b, d⟩
    · rw [rk] at h
      by_cases hc : 0 < c s
      · rw [if_pos hc] at h
        exact ⟨s, by omega, hc, by omega⟩
      · rw [if_neg hc] at h
        omega
/-- the least open tree: the first of those with the least weight -/
theorem s_least_5 {N M r : Nat} {but : Int32} {P W : Nat → Int32} {w : Nat → Nat} (hM : M ≤ 640) (hr : r < M) (hP : P r = -1) (hb : nI r ≠ but) (hw : ∀ t, t < M → W t = nI (w t) ∧ w t < 2 ^ 31) (ho : ∀ t, t < M → P t = -1 ∨ ∃ q, q < 2 ^ 31 ∧ P t = nI q) (hmin : ∀ t, t < M → P t = -1 → nI t ≠ but → t ≠ r → w r < w t ∨ (w r = w t ∧ r < t)) :
    ∀ (d k t : Nat) (x3 : Int32), t + d = M → d < k → ((t ≤ r ∧ (x3 = -1 ∨ ∃ q, q < t ∧ x3 = nI q ∧ w r < w q)) ∨ (r < t ∧ x3 = nI r)) → fMo_least_5 N (nI M) but P W k x3 (nI t) = some (nI r)
  | 0, k + 1, t, x3, hd, hk, h => by
    have e : t = M := by omega
    subst e
    rw [fMo_least_5, if_pos (nI_le (Nat.le_refl _) (by omega))]
    rcases h with h | h
    · omega
    · rw [h.2]
  | d + 1, k + 1, t, x3, hd, hk, h => by
    have hin : ¬ (nI t < 0 ∨ 640 ≤ (nI t).toNatClampNeg) := nI_in (by omega) (by omega)
    have n1 : ¬ (0 : Int32) ≤ -1 := by decide
    have n2 : (-1 : Int32) < 0 := by decide
    rw [fMo_least_5, if_neg (show ¬ nI M ≤ nI t from nI_ge (by omega) (by omega)), if_pos hin, nI_1]
    rw [nI_clamp (show t < 2 ^ 31 by omega)]
    rcases ho t (by omega) with hp | ⟨q, hq, hp⟩
    · rw [hp, if_neg n1]
      by_cases hbt : nI t = but
      · rw [if_pos hbt]
        refine s_least_5 hM hr hP hb hw ho hmin d k (t + 1) x3 (by omega) (by omega) ?_
        rcases h with ⟨h1, h2⟩ | ⟨h1, h2⟩
        · left
          refine ⟨?_, ?_⟩
          · by_cases e : t = r
            · subst e; exact absurd hbt hb
            · omega
          · rcases h2 with h2 | ⟨q, a, b⟩
            · exact Or.inl h2
            · exact Or.inr ⟨q, by omega, b⟩
        · exact Or.inr ⟨by omega, h2⟩
      · rw [if_neg hbt]
        by_cases e : t = r
        · subst e
          rcases h with ⟨h1, h2⟩ | ⟨h1, h2⟩
          · rcases h2 with h2 | ⟨q, a, b, g⟩
            · rw [h2, if_pos n2]
              exact s_least_5 hM hr hP hb hw ho hmin d k (t + 1) _ (by omega) (by omega) (Or.inr ⟨by omega, rfl⟩)
            · have hwq := hw q (by omega)
              have hwt := hw t hr
              rw [b, if_neg (show ¬ nI q < 0 from nI_nlt (a := q) (b := 0) (by omega) (by omega)), if_pos (nin (show t < 640 by omega) (by omega)), if_pos (nI_in (show q < 640 by omega) (by omega)), nI_clamp (show q < 2 ^ 31 by omega), hwq.1, hwt.1, if_neg (show ¬ nI (w q) ≤ nI (w t) from nI_ge g hwq.2)]
              exact s_least_5 hM hr hP hb hw ho hmin d k (t + 1) _ (by omega) (by omega) (Or.inr ⟨by omega, rfl⟩)
          · omega
        · have hm := hmin t (by omega) hp hbt e
          have hwt := hw t (by omega)
          rcases h with ⟨h1, h2⟩ | ⟨h1, h2⟩
          · have hlt : w r < w t := by omega
            rcases h2 with h2 | ⟨q, a, b, g⟩
            · rw [h2, if_pos n2]
              exact s_least_5 hM hr hP hb hw ho hmin d k (t + 1) _ (by omega) (by omega) (Or.inl ⟨by omega, Or.inr ⟨t, by omega, rfl, hlt⟩⟩)
            · have hwq := hw q (by omega)
              rw [b, if_neg (show ¬ nI q < 0 from nI_nlt (a := q) (b := 0) (by omega) (by omega)), if_pos (nin (show t < 640 by omega) (by omega)), if_pos (nI_in (show q < 640 by omega) (by omega)), nI_clamp (show q < 2 ^ 31 by omega), hwq.1, hwt.1]
              by_cases hc : nI (w q) ≤ nI (w t)
              · rw [if_pos hc]
                exact s_least_5 hM hr hP hb hw ho hmin d k (t + 1) _ (by omega) (by omega) (Or.inl ⟨by omega, Or.inr ⟨q, by omega, rfl, g⟩⟩)
              · rw [if_neg hc]
                exact s_least_5 hM hr hP hb hw ho hmin d k (t + 1) _ (by omega) (by omega) (Or.inl ⟨by omega, Or.inr ⟨t, by omega, rfl, hlt⟩⟩)
          · have hwr := hw r hr
            rw [h2, if_neg (show ¬ nI r < 0 from nI_nlt (a := r) (b := 0) (by omega) (by omega)), if_pos (nin (show t < 640 by omega) (by omega)), if_pos (nI_in (show r < 640 by omega) (by omega)), nI_clamp (show r < 2 ^ 31 by omega), hwr.1, hwt.1, if_pos (nI_le (show w r ≤ w t by omega) hwt.2)]
            exact s_least_5 hM hr hP hb hw ho hmin d k (t + 1) _ (by omega) (by omega) (Or.inr ⟨by omega, rfl⟩)
    · rw [hp, if_pos (show (0 : Int32) ≤ nI q from nI_le (a := 0) (Nat.zero_le _) hq)]
      have htr : t ≠ r := by
        intro e
        rw [e, hP] at hp
        exact (nI_ne_neg1 hq) hp.symm
      refine s_least_5 hM hr hP hb hw ho hmin d k (t + 1) x3 (by omega) (by omega) ?_
      rcases h with ⟨h1, h2⟩ | ⟨h1, h2⟩
      · left
        refine ⟨by omega, ?_⟩
        rcases h2 with h2 | ⟨q, a, b⟩
        · exact Or.inl h2
        · exact Or.inr ⟨q, by omega, b⟩
      · exact Or.inr ⟨by omega, h2⟩
theorem s_least {N M r : Nat} {but : Int32} {P W : Nat → Int32} {w : Nat → Nat} (hN : 1000 ≤ N) (hM : M ≤ 640) (hr : r < M) (hP : P r = -1) (hb : nI r ≠ but) (hw : ∀ t, t < M → W t = nI (w t) ∧ w t < 2 ^ 31) (ho : ∀ t, t < M → P t = -1 ∨ ∃ q, q < 2 ^ 31 ∧ P t = nI q) (hmin : ∀ t, t < M → P t = -1 → nI t ≠ but → t ≠ r → w r < w t ∨ (w r = w t ∧ r < t)) : fMo_least N (nI M) but P W = some (nI r) := by
  rw [fMo_least, show fMo_least_5 N (nI M) but P W N (-1 : Int32) (0 : Int32) = some (nI r) from s_least_5 hM hr hP hb hw ho hmin M N 0 (-1) (by omega) (by omega) (Or.inl ⟨Nat.zero_le _, Or.inl rfl⟩)]
  rfl
