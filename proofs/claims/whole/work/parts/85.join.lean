/-! Joining: the loop, both sides. -/
def fb : Nat → Nat
  | 0 => 1
  | 1 => 2
  | n + 2 => fb (n + 1) + fb n
theorem fb_pos : ∀ n, 1 ≤ fb n
  | 0 => Nat.le_refl _
  | 1 => by decide
  | n + 2 => by
    have := fb_pos n
    rw [fb]
    omega
theorem fb_s {n : Nat} (h : 1 ≤ n) : fb (n + 1) = fb n + fb (n - 1) := by
  obtain ⟨k, rfl⟩ : ∃ k, n = k + 1 := ⟨n - 1, by omega⟩
  rw [fb, Nat.add_sub_cancel]
theorem fb_step {n : Nat} : fb n ≤ fb (n + 1) := by
  rcases Nat.eq_zero_or_pos n with h | h
  · subst h; decide
  · rw [fb_s h]; omega
theorem fb_mono {a b : Nat} (h : a ≤ b) : fb a ≤ fb b := by
  induction h with
  | refl => exact Nat.le_refl _
  | step h ih => exact Nat.le_trans ih fb_step
/-- the state of joining after j joins -/
def JS (m j a b : Nat) (ρ w v h : Nat → Nat) (T L : Nat) (WC PC WM PM : Nat → Int32) : Prop :=
  (a ≤ m ∧ b ≤ j ∧ a + b = 2 * j ∧ T < 2 ^ 30 ∧ sumL w a (m - a) + sumL w (m + b) (j - b) = T) ∧
  (∀ x, x < m + j → WC x = nI (w x) ∧ w x < 2 ^ 30 ∧ fb (h x) ≤ w x ∧ (1 ≤ h x → fb (h x - 1) ≤ L)) ∧
  (∀ t, t < m + j → WM t = nI (v t) ∧ v t < 2 ^ 31) ∧ (∀ x, x < m + j → v (ρ x) = w x) ∧
  (∀ x y, x < y → y < m → w x < w y ∨ (w x = w y ∧ ρ x < ρ y)) ∧ (∀ x y, m ≤ x → x ≤ y → y < m + j → w x ≤ w y) ∧
  (∀ x, opn m j a b x → L ≤ w x) ∧ (1 ≤ j → w (m + j - 1) ≤ 2 * L) ∧
  (∀ x, opn m j a b x → PM (ρ x) = -1) ∧
  (∀ x, x < m + j → ¬ opn m j a b x → ∃ q, PC x = nI q ∧ PM (ρ x) = nI q ∧ m ≤ q ∧ q < m + j ∧ x < q ∧ h x + 1 ≤ h q)
theorem JS_step {N m j a b : Nat} {ρ w v h : Nat → Nat} {T L : Nat} {WC PC WM PM : Nat → Int32} (hN : 1000 ≤ N) (hm : m ≤ 286) (hj : j + 1 < m) (hρ1 : ∀ x, x < m → ρ x < m) (hρ2 : ∀ x, m ≤ x → ρ x = x) (hρ3 : ∀ x y, x < m → y < m → ρ x = ρ y → x = y) (hρ4 : ∀ t, t < m → ∃ x, x < m ∧ ρ x = t) (hs : JS m j a b ρ w v h T L WC PC WM PM) :
    ∃ x1 x2 a1 b1 a2 b2, fTrees_takeLeast N (nI m) (nI (m + j)) (nI a) (nI (m + b)) WC = some (nI x1, nI a1, nI (m + b1)) ∧ fTrees_takeLeast N (nI m) (nI (m + j)) (nI a1) (nI (m + b1)) WC = some (nI x2, nI a2, nI (m + b2)) ∧ fMo_least N (nI (m + j)) (-1) PM WM = some (nI (ρ x1)) ∧ fMo_least N (nI (m + j)) (nI (ρ x1)) PM WM = some (nI (ρ x2)) ∧ x1 < m + j ∧ x2 < m + j ∧ ρ x1 < m + j ∧ ρ x2 < m + j ∧
      JS m (j + 1) a2 b2 ρ (updN w (m + j) (w x1 + w x2)) (updN v (m + j) (w x1 + w x2)) (updN h (m + j) (max (h x1) (h x2) + 1)) T (w x2) (upd WC (m + j) (WC x1 + WC x2)) (upd (upd PC x1 (nI (m + j))) x2 (nI (m + j))) (upd WM (m + j) (WM (ρ x1) + WM (ρ x2))) (upd (upd (upd PM (m + j) (-1)) (ρ x1) (nI (m + j))) (ρ x2) (nI (m + j))) := by
  obtain ⟨⟨q1, q2, q3, q4, q5⟩, q6, q7, q8, q9, q10, q11, q12, q13, q14⟩ := hs
  have oin : ∀ x, opn m j a b x → x < m + j := by
    rintro x (hx | hx) <;> omega
  have ρlt : ∀ x, x < m + j → ρ x < m + j := by
    intro x hx
    by_cases e : x < m
    · have := hρ1 x e; omega
    · rw [hρ2 x (by omega)]; exact hx
  have ρinj : ∀ x y, x < m + j → y < m + j → ρ x = ρ y → x = y := by
    intro x y hx hy e
    by_cases e1 : x < m
    · by_cases e2 : y < m
      · exact hρ3 x y e1 e2 e
      · have := hρ1 x e1
        rw [hρ2 y (by omega)] at e
        omega
    · by_cases e2 : y < m
      · have := hρ1 y e2
        rw [hρ2 x (by omega)] at e
        omega
      · rw [hρ2 x (by omega), hρ2 y (by omega)] at e
        exact e
  have ρsur : ∀ t, t < m + j → ∃ x, x < m + j ∧ ρ x = t := by
    intro t ht
    by_cases e : t < m
    · obtain ⟨x, a, b⟩ := hρ4 t e
      exact ⟨x, by omega, b⟩
    · exact ⟨t, ht, hρ2 t (by omega)⟩
  obtain ⟨n1, n2, n3, n4, n5, n6, n7⟩ := nxt_ok (j := j) (w := w) (ρ := ρ) q1 q2 (by omega) hρ1 hρ2 q9 q10
  have t1 := s_takeLeast (N := N) (m := m) (j := j) (a := a) (b := b) (w := w) (W := WC) hm (by omega) q1 q2 (by omega) (fun x hx => ⟨(q6 x hx).1, (q6 x hx).2.1⟩)
  generalize nxt m j a b w = z at *
  obtain ⟨x1, a1, b1⟩ := z
  dsimp only at n1 n2 n3 n4 n5 n6 n7 t1
  obtain ⟨p1, p2, p3, p4, p5, p6, p7⟩ := nxt_ok (j := j) (w := w) (ρ := ρ) n2 n3 (by omega) hρ1 hρ2 q9 q10
  have t2 := s_takeLeast (N := N) (m := m) (j := j) (a := a1) (b := b1) (w := w) (W := WC) hm (by omega) n2 n3 (by omega) (fun x hx => ⟨(q6 x hx).1, (q6 x hx).2.1⟩)
  generalize nxt m j a1 b1 w = z at *
  obtain ⟨x2, a2, b2⟩ := z
  dsimp only at p1 p2 p3 p4 p5 p6 p7 t2
  have o1 := (n5 x2).mp p1
  have l1 := oin x1 n1
  have l2 := oin x2 o1.1
  have hne12 : ρ x2 ≠ ρ x1 := fun e => o1.2 (ρinj x2 x1 l2 l1 e)
  have w12 : w x1 ≤ w x2 := by
    rcases n6 x2 o1.1 o1.2 with r | r <;> omega
  have hL1 := q11 x1 n1
  have hL2 := q11 x2 o1.1
  have ho : ∀ t, t < m + j → PM t = -1 ∨ ∃ q, q < 2 ^ 31 ∧ PM t = nI q := by
    intro t ht
    obtain ⟨x, hx, rfl⟩ := ρsur t ht
    by_cases e : opn m j a b x
    · exact Or.inl (q13 x e)
    · obtain ⟨q, -, r2, r3, r4, -⟩ := q14 x hx e
      exact Or.inr ⟨q, by omega, r2⟩
  have opM : ∀ x, x < m + j → PM (ρ x) = -1 → opn m j a b x := by
    intro x hx hp
    by_cases e : opn m j a b x
    · exact e
    · obtain ⟨q, -, r2, r3, r4, -⟩ := q14 x hx e
      rw [r2] at hp
      exact absurd hp (nI_ne_neg1 (by omega))
  have m1 := s_least (N := N) (M := m + j) (r := ρ x1) (but := -1) (P := PM) (W := WM) (w := v) hN (by omega) (ρlt x1 l1) (q13 x1 n1) (nI_ne_neg1 (by have := ρlt x1 l1; omega)) q7 ho (by
    intro t ht hp hb hne
    obtain ⟨x, hx, rfl⟩ := ρsur t ht
    rw [q8 x1 l1, q8 x hx]
    exact n6 x (opM x hx hp) (fun e => hne (by rw [e])))
  have m2 := s_least (N := N) (M := m + j) (r := ρ x2) (but := nI (ρ x1)) (P := PM) (W := WM) (w := v) hN (by omega) (ρlt x2 l2) (q13 x2 o1.1) (by
    intro e
    exact hne12 ((nI_eq (by have := ρlt x2 l2; omega) (by have := ρlt x1 l1; omega)).mp e)) q7 ho (by
    intro t ht hp hb hne
    obtain ⟨x, hx, rfl⟩ := ρsur t ht
    rw [q8 x2 l2, q8 x hx]
    refine p6 x ((n5 x).mpr ⟨opM x hx hp, ?_⟩) (fun e => hne (by rw [e]))
    intro e
    exact hb (by rw [e]))
  refine ⟨x1, x2, a1, b1, a2, b2, t1, t2, m1, m2, l1, l2, ρlt x1 l1, ρlt x2 l2, ?_⟩
  have hw12 : w x1 + w x2 ≤ T := by omega
  have f1 := (q6 x1 l1).2.2
  have f2 := (q6 x2 l2).2.2
  have hfbn : fb (max (h x1) (h x2) + 1) ≤ w x1 + w x2 := by
    rcases Nat.eq_zero_or_pos (max (h x1) (h x2)) with e | e
    · rw [e]
      have g1 := fb_pos (h x1)
      have g2 := fb_pos (h x2)
      show 2 ≤ _
      omega
    · rw [fb_s e]
      rcases Nat.le_total (h x1) (h x2) with g | g
      · rw [Nat.max_eq_right g] at e ⊢
        have := f2.2 e
        omega
      · rw [Nat.max_eq_left g] at e ⊢
        have := f1.2 e
        omega
  have hfbm : fb (max (h x1) (h x2)) ≤ w x2 := by
    rcases Nat.le_total (h x1) (h x2) with g | g
    · rw [Nat.max_eq_right g]; exact f2.1
    · rw [Nat.max_eq_left g]; omega
  have opS : ∀ y, opn m (j + 1) a2 b2 y → y ≠ m + j → opn m j a b y ∧ y ≠ x1 ∧ y ≠ x2 := by
    intro y hy hne
    have hy2 : opn m j a2 b2 y := by
      rcases hy with r | r
      · exact Or.inl r
      · exact Or.inr ⟨r.1, by omega⟩
    have r1 := (p5 y).mp hy2
    have r2 := (n5 y).mp r1.1
    exact ⟨r2.1, r2.2, r1.2⟩
  have opN : ∀ y, y < m + j → ¬ opn m (j + 1) a2 b2 y → ¬ opn m j a b y ∨ y = x1 ∨ y = x2 := by
    intro y hy hn
    by_cases e1 : y = x1
    · exact Or.inr (Or.inl e1)
    · by_cases e2 : y = x2
      · exact Or.inr (Or.inr e2)
      · refine Or.inl (fun ho => hn ?_)
        have r := (p5 y).mpr ⟨(n5 y).mpr ⟨ho, e1⟩, e2⟩
        rcases r with r | r
        · exact Or.inl r
        · exact Or.inr ⟨r.1, by omega⟩
  have ew : ∀ x, x < m + j → updN w (m + j) (w x1 + w x2) x = w x := fun x hx => updN_ne (by omega)
  have eh : ∀ x, x < m + j → updN h (m + j) (max (h x1) (h x2) + 1) x = h x := fun x hx => updN_ne (by omega)
  refine ⟨⟨p2, by omega, by omega, q4, ?_⟩, fun x hx => ?_, fun t ht => ?_, fun x hx => ?_, fun x y hxy hy => ?_, fun x y hx hxy hy => ?_, fun x hx => ?_, fun _ => ?_, fun x hx => ?_, fun x hx hn => ?_⟩
  · rw [show j + 1 - b2 = (j - b2) + 1 by omega, sumL_end, show m + b2 + (j - b2) = m + j by omega, updN_same, sumL_congr (m - a2) a2 (fun x _ _ => ew x (by omega)), sumL_congr (j - b2) (m + b2) (fun x _ _ => ew x (by omega))]
    omega
  · by_cases e : x = m + j
    · rw [e, upd_same, updN_same, updN_same, (q6 x1 l1).1, (q6 x2 l2).1, nI_add]
      exact ⟨rfl, by omega, hfbn, fun _ => by rw [Nat.add_sub_cancel]; exact hfbm⟩
    · have r := q6 x (by omega)
      rw [upd_ne e, ew x (by omega), eh x (by omega)]
      exact ⟨r.1, r.2.1, r.2.2.1, fun g => by have := r.2.2.2 g; omega⟩
  · by_cases e : t = m + j
    · rw [e, upd_same, updN_same, (q7 _ (ρlt x1 l1)).1, (q7 _ (ρlt x2 l2)).1, q8 x1 l1, q8 x2 l2, nI_add]
      exact ⟨rfl, by omega⟩
    · rw [upd_ne e, updN_ne e]
      exact q7 t (by omega)
  · by_cases e : x = m + j
    · rw [e, hρ2 (m + j) (by omega), updN_same, updN_same]
    · have := ρlt x (by omega)
      rw [updN_ne (by omega), ew x (by omega)]
      exact q8 x (by omega)
  · rw [ew x (by omega), ew y (by omega)]
    exact q9 x y hxy hy
  · by_cases e : y = m + j
    · by_cases e2 : x = m + j
      · rw [e, e2]
        exact Nat.le_refl _
      · have hx9 : x < m + j := by omega
        rw [e, updN_same, ew x hx9]
        have r1 := q10 x (m + j - 1) hx (by omega) (by omega)
        have r2 := q12 (by omega)
        omega
    · rw [ew x (by omega), ew y (by omega)]
      exact q10 x y hx hxy (by omega)
  · by_cases e : x = m + j
    · rw [e, updN_same]
      omega
    · obtain ⟨r1, r2, r3⟩ := opS x hx e
      rw [ew x (oin x r1)]
      rcases p6 x ((n5 x).mpr ⟨r1, r2⟩) r3 with r | r <;> omega
  · rw [show m + (j + 1) - 1 = m + j by omega, updN_same]
    omega
  · by_cases e : x = m + j
    · have r1 := ρlt x1 l1
      have r2 := ρlt x2 l2
      rw [e, hρ2 (m + j) (by omega), upd_ne (by omega), upd_ne (by omega), upd_same]
    · obtain ⟨r1, r2, r3⟩ := opS x hx e
      have r4 := oin x r1
      have r5 := ρlt x r4
      rw [upd_ne (fun g => r3 (ρinj x x2 r4 l2 g)), upd_ne (fun g => r2 (ρinj x x1 r4 l1 g)), upd_ne (by omega)]
      exact q13 x r1
  · have hxj : x < m + j := by
      by_cases e : x = m + j
      · exact absurd (Or.inr ⟨by omega, by omega⟩) (e ▸ hn)
      · omega
    by_cases e2 : x = x2
    · refine ⟨m + j, ?_, ?_, by omega, by omega, hxj, ?_⟩
      · rw [e2, upd_same]
      · rw [e2, upd_same]
      · rw [eh x hxj, updN_same, e2]
        have := Nat.le_max_right (h x1) (h x2)
        omega
    · by_cases e1 : x = x1
      · refine ⟨m + j, ?_, ?_, by omega, by omega, hxj, ?_⟩
        · rw [upd_ne e2, e1, upd_same]
        · rw [upd_ne (fun g => e2 (ρinj x x2 hxj l2 g)), e1, upd_same]
        · rw [eh x hxj, updN_same, e1]
          have := Nat.le_max_left (h x1) (h x2)
          omega
      · have hno : ¬ opn m j a b x := by
          rcases opN x hxj hn with r | r | r
          · exact r
          · exact absurd r e1
          · exact absurd r e2
        obtain ⟨q, r1, r2, r3, r4, r5, r6⟩ := q14 x hxj hno
        have r7 := ρlt x hxj
        refine ⟨q, ?_, ?_, r3, by omega, r5, ?_⟩
        · rw [upd_ne e2, upd_ne e1, r1]
        · rw [upd_ne (fun g => e2 (ρinj x x2 hxj l2 g)), upd_ne (fun g => e1 (ρinj x x1 hxj l1 g)), upd_ne (by omega), r2]
        · rw [eh x hxj, eh q r4]
          exact r6
