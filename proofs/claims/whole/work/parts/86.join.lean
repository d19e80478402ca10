/-! Joining: to the end, and the depths. -/
theorem u_join_loop {N m : Nat} {ρ : Nat → Nat} {T : Nat} (hN : 1000 ≤ N) (hm : m ≤ 286) (hρ1 : ∀ x, x < m → ρ x < m) (hρ2 : ∀ x, m ≤ x → ρ x = x) (hρ3 : ∀ x y, x < m → y < m → ρ x = ρ y → x = y) (hρ4 : ∀ t, t < m → ∃ x, x < m ∧ ρ x = t) :
    ∀ (d k k' j a b L : Nat) (w v h : Nat → Nat) (WC PC WM PM : Nat → Int32), j + 1 + d = m → d < k → d < k' → JS m j a b ρ w v h T L WC PC WM PM →
      ∃ a' b' L' w' v' h' WC' PC' WM' PM', fTrees_joinAll_30 N (nI m) (nI (2 * m - 1)) k (nI (m + j)) (nI a) (nI (m + b)) WC PC = some (nI (2 * m - 1), nI a', nI (m + b'), WC', PC') ∧ fMo_join_135 N k' (nI (m + j)) (nI (m - j)) WM PM = some (WM', PM') ∧ JS m (m - 1) a' b' ρ w' v' h' T L' WC' PC' WM' PM'
  | 0, k + 1, k' + 1, j, a, b, L, w, v, h, WC, PC, WM, PM, hd, hk, hk', hs => by
    have e : j = m - 1 := by omega
    subst e
    refine ⟨a, b, L, w, v, h, WC, PC, WM, PM, ?_, ?_, hs⟩
    · rw [fTrees_joinAll_30, if_pos (nI_le (show 2 * m - 1 ≤ m + (m - 1) by omega) (by omega)), show m + (m - 1) = 2 * m - 1 by omega]
    · rw [fMo_join_135, if_pos (show nI (m - (m - 1)) ≤ (1 : Int32) from nI_le (b := 1) (by omega) (by omega))]
  | d + 1, k + 1, k' + 1, j, a, b, L, w, v, h, WC, PC, WM, PM, hd, hk, hk', hs => by
    obtain ⟨x1, x2, a1, b1, a2, b2, t1, t2, m1, m2, l1, l2, r1, r2, hs'⟩ := JS_step hN hm (show j + 1 < m by omega) hρ1 hρ2 hρ3 hρ4 hs
    obtain ⟨a', b', L', w', v', h', WC', PC', WM', PM', g1, g2, g3⟩ := u_join_loop hN hm hρ1 hρ2 hρ3 hρ4 d k k' (j + 1) a2 b2 _ _ _ _ _ _ _ _ (by omega) (by omega) (by omega) hs'
    refine ⟨a', b', L', w', v', h', WC', PC', WM', PM', ?_, ?_, g3⟩
    · rw [fTrees_joinAll_30, if_neg (show ¬ nI (2 * m - 1) ≤ nI (m + j) from nI_ge (by omega) (by omega)), t1, Option.bind_some]
      dsimp only
      rw [t2, Option.bind_some]
      dsimp only
      rw [if_pos (nI_in (show x1 < 572 by omega) (by omega)), if_pos (nI_in (show x2 < 572 by omega) (by omega)), if_pos (nI_in (show m + j < 572 by omega) (by omega)), if_pos (nI_in (show x1 < 572 by omega) (by omega)), if_pos (nI_in (show x2 < 572 by omega) (by omega)), nI_1, nI_clamp (show m + j < 2 ^ 31 by omega), nI_clamp (show x1 < 2 ^ 31 by omega), nI_clamp (show x2 < 2 ^ 31 by omega)]
      exact g1
    · have em : nI (m - j) + (-1 : Int32) = nI (m - (j + 1)) := by
        rw [show m - j = (m - (j + 1)) + 1 by omega]
        exact pk_m1 _
      rw [fMo_join_135, if_neg (show ¬ nI (m - j) ≤ (1 : Int32) from nI_ge (a := 1) (by omega) (by omega)), m1, Option.bind_some, m2, Option.bind_some, if_pos (nI_in (show ρ x1 < 640 by omega) (by omega)), if_pos (nI_in (show ρ x2 < 640 by omega) (by omega)), if_pos (nI_in (show m + j < 640 by omega) (by omega)), if_pos (nI_in (show m + j < 640 by omega) (by omega)), if_pos (nI_in (show ρ x1 < 640 by omega) (by omega)), if_pos (nI_in (show ρ x2 < 640 by omega) (by omega)), nI_1, em, nI_clamp (show m + j < 2 ^ 31 by omega), nI_clamp (show ρ x1 < 2 ^ 31 by omega), nI_clamp (show ρ x2 < 2 ^ 31 by omega)]
      exact g2
/-- how far a node lies below the root -/
def dpf (q : Nat → Nat) (all : Nat) : Nat → Nat → Nat
  | 0, _ => 0
  | k + 1, x => if all ≤ x + 1 then 0 else dpf q all k (q x) + 1
theorem dpf_fuel {q : Nat → Nat} {all : Nat} (hq : ∀ x, x + 1 < all → x < q x ∧ q x < all) : ∀ (k k' x : Nat), all ≤ x + k → all ≤ x + k' → dpf q all k x = dpf q all k' x
  | 0, 0, x, _, _ => rfl
  | 0, k' + 1, x, h, _ => by rw [dpf, dpf, if_pos (by omega)]
  | k + 1, 0, x, _, h => by rw [dpf, dpf, if_pos (by omega)]
  | k + 1, k' + 1, x, h, h' => by
    rw [dpf, dpf]
    by_cases e : all ≤ x + 1
    · rw [if_pos e, if_pos e]
    · have := hq x (by omega)
      rw [if_neg e, if_neg e, dpf_fuel hq k k' (q x) (by omega) (by omega)]
def dp (q : Nat → Nat) (all x : Nat) : Nat := dpf q all all x
theorem dp_root {q : Nat → Nat} {all x : Nat} (h : all ≤ x + 1) : dp q all x = 0 := by
  rw [dp]
  cases all with
  | zero => rfl
  | succ k => rw [dpf, if_pos h]
theorem dp_s {q : Nat → Nat} {all x : Nat} (hq : ∀ x, x + 1 < all → x < q x ∧ q x < all) (h : x + 1 < all) : dp q all x = dp q all (q x) + 1 := by
  have h2 := hq x h
  obtain ⟨k, rfl⟩ : ∃ k, all = k + 1 := ⟨all - 1, by omega⟩
  rw [dp, dpf, if_neg (by omega), dp, dpf_fuel hq k (k + 1) (q x) (by omega) (by omega)]
theorem dp_le {q : Nat → Nat} {all : Nat} (hq : ∀ x, x + 1 < all → x < q x ∧ q x < all) : ∀ (d x : Nat), x + d + 1 = all → dp q all x ≤ d := by
  intro d
  induction d using Nat.strongRecOn with
  | _ d ih =>
    intro x hx
    by_cases e : d = 0
    · rw [dp_root (by omega)]; omega
    · have h2 := hq x (by omega)
      rw [dp_s hq (by omega)]
      have := ih (all - 1 - q x) (by omega) (q x) (by omega)
      omega
/-- the class's depths -/
theorem s_depths_120 {N all : Nat} {PC : Nat → Int32} {q : Nat → Nat} (hall : all ≤ 572) (hq : ∀ x, x + 1 < all → x < q x ∧ q x < all) (hP : ∀ x, x + 1 < all → PC x = nI (q x)) :
    ∀ (x k : Nat) (D : Nat → Int32), x + 1 ≤ all → x < k → (∀ y, x ≤ y → y < all → D y = nI (dp q all y)) → ∃ D', fTrees_joinAll_120 N PC k (nI x - nI 1) D = some D' ∧ ∀ y, y < all → D' y = nI (dp q all y)
  | 0, k + 1, D, hx, hk, hD => by
    refine ⟨D, ?_, fun y hy => hD y (Nat.zero_le _) hy⟩
    rw [fTrees_joinAll_120, if_pos (show nI 0 - nI 1 < (0 : Int32) from by decide)]
  | x + 1, k + 1, D, hx, hk, hD => by
    have e1 : nI (x + 1) - nI 1 = nI x := nI_sub (by omega)
    have e9 : nI x + (-1 : Int32) = nI x - nI 1 := by rw [Int32.sub_eq_add_neg]; rfl
    have h2 := hq x (by omega)
    have h3 := dp_le hq (all - 1 - q x) (q x) (by omega)
    obtain ⟨D', a1, a2⟩ := s_depths_120 (N := N) hall hq hP x k (upd D x (nI (dp q all (q x) + 1))) (by omega) (by omega) (by
      intro y hy hy2
      by_cases e : y = x
      · rw [e, upd_same, ← dp_s hq (x := x) (by omega)]
      · rw [upd_ne e]
        exact hD y (by omega) hy2)
    refine ⟨D', ?_, a2⟩
    rw [e1, fTrees_joinAll_120, if_neg (show ¬ nI x < (0 : Int32) from nI_nlt (a := x) (b := 0) (by omega) (by omega)), if_pos (nI_in (show x < 572 by omega) (by omega)), nI_clamp (show x < 2 ^ 31 by omega), hP x (by omega), if_pos (nI_in (show q x < 572 by omega) (by omega)), if_pos (nin (show x < 572 by omega) (by omega)), nI_clamp (show q x < 2 ^ 31 by omega), hD (q x) (by omega) (by omega), nI_1, e9]
    exact a1
/-- the reference's walk to the root -/
theorem s_walk_237 {N all m : Nat} {PM : Nat → Int32} {q : Nat → Nat} (hall : all ≤ 572) (hm : m ≤ all) (hq : ∀ x, x + 1 < all → x < q x ∧ q x < all) (hqm : ∀ x, x + 1 < all → m ≤ q x) (hP : ∀ x, m ≤ x → x + 1 < all → PM x = nI (q x)) (hroot : 1 ≤ all → PM (all - 1) = -1) :
    ∀ (d k x s : Nat), x + d + 1 = all → d < k → m ≤ x → s + d < 2 ^ 30 → fMo_join_237 N PM k (nI s) (nI x) = some (nI (s + dp q all x)) := by
  intro d
  induction d using Nat.strongRecOn with
  | _ d ih =>
    intro k x s hx hk hmx hs
    obtain ⟨k, rfl⟩ : ∃ j, k = j + 1 := ⟨k - 1, by omega⟩
    have hin : ¬ (nI x < 0 ∨ 640 ≤ (nI x).toNatClampNeg) := nI_in (by omega) (by omega)
    rw [fMo_join_237, if_pos hin]
    by_cases e : d = 0
    · have e2 : x = all - 1 := by omega
      have hr := hroot (by omega)
      rw [dp_root (by omega), nI_clamp (show x < 2 ^ 31 by omega), e2, hr, if_pos (show (-1 : Int32) < 0 by decide), Nat.add_zero]
    · have h2 := hq x (by omega)
      have h3 := hqm x (by omega)
      rw [if_pos hin, nI_clamp (show x < 2 ^ 31 by omega), hP x hmx (by omega), if_neg (show ¬ nI (q x) < (0 : Int32) from nI_nlt (a := q x) (b := 0) (by omega) (by omega)), nI_1, dp_s hq (by omega), ih (all - 1 - q x) (by omega) k (q x) (s + 1) (by omega) (by omega) h3 (by omega)]
      congr 2
      omega
theorem nI_s12 (a : Nat) : nI (a + 1) - (2 : Int32) = nI a - nI 1 := by
  rw [← nI_add, Int32.sub_eq_add_neg, Int32.add_assoc, Int32.sub_eq_add_neg]
  congr 1
theorem srt_inj {c : Nat → Nat} {n m : Nat} {σ : Nat → Nat} (hσ : srt c n m σ) {x y : Nat} (hx : x < m) (hy : y < m) (h : rk c (σ x) = rk c (σ y)) : x = y := by
  have e : σ x = σ y := by
    rcases Nat.lt_trichotomy (σ x) (σ y) with g | g | g
    · have := rk_lt g (hσ.2.1 x hx).2; omega
    · exact g
    · have := rk_lt g (hσ.2.1 y hy).2; omega
  rcases Nat.lt_trichotomy x y with g | g | g
  · have := hσ.2.2.1 x y g hy
    rw [e] at this
    omega
  · exact g
  · have := hσ.2.2.1 y x g hx
    rw [e] at this
    omega
/-- both trees whole: the same depths for the same leaves -/
theorem u_joinAll {N n m : Nat} {c σ : Nat → Nat} {WC S PC DC WM PM YM : Nat → Int32} (hN : 2000 ≤ N) (hn : n ≤ 286) (hcb : sumL (fun i => c (σ i)) 0 m < 2 ^ 30) (hσ : srt c n m σ) (hSL : SL c m σ WC S) (hRL : RL c n WM PM YM) :
    ∃ (D : Nat → Nat) (md nl nj : Int32) (WC' PC' DC' WM' PM' : Nat → Int32), fTrees_joinAll N (nI m) WC PC DC = some (md, nl, nj, WC', PC', DC') ∧ fMo_join_135 N N (nI m) (nI m) WM PM = some (WM', PM') ∧ (∀ i, i < m → DC' i = nI (D i) ∧ D i < 600 ∧ (2 ≤ m → 1 ≤ D i) ∧ (m = 1 → D i = 0) ∧ fb (D i) ≤ sumL (fun i => c (σ i)) 0 m ∧ fMo_join_237 N PM' N 0 (nI (rk c (σ i))) = some (nI (D i))) := by
  have hm : m ≤ 286 := by
    have := rk_le c n
    have := hσ.1
    omega
  by_cases h0 : m = 0
  · subst h0
    obtain ⟨N, rfl⟩ : ∃ k, N = k + 1 := ⟨N - 1, by omega⟩
    refine ⟨fun _ => 0, nI 0, 0, nI 0, WC, PC, DC, WM, PM, ?_, ?_, fun i hi => by omega⟩
    · rw [fTrees_joinAll, fTrees_joinAll_30, if_pos (show (2 : Int32) * nI 0 - 1 ≤ nI 0 by decide), Option.bind_some, if_pos (show (2 : Int32) * nI 0 - 1 ≤ 0 by decide), fTrees_joinAll_120, if_pos (show (2 : Int32) * nI 0 - 1 - 2 < 0 by decide)]
      rfl
    · rw [fMo_join_135, if_pos (show nI 0 ≤ (1 : Int32) by decide)]
  · have hp := hσ.2.1
    obtain ⟨ρ, hρ⟩ : ∃ ρ : Nat → Nat, ρ = fun x => if x < m then rk c (σ x) else x := ⟨_, rfl⟩
    have r1 : ∀ x, x < m → ρ x = rk c (σ x) := fun x hx => by rw [hρ]; exact if_pos hx
    have hρ2 : ∀ x, m ≤ x → ρ x = x := fun x hx => by rw [hρ]; exact if_neg (by omega)
    have hρ1 : ∀ x, x < m → ρ x < m := fun x hx => by
      rw [r1 x hx]
      have := rk_lt (hp x hx).1 (hp x hx).2
      have := hσ.1
      omega
    have hρ3 : ∀ x y, x < m → y < m → ρ x = ρ y → x = y := fun x y hx hy e => by
      rw [r1 x hx, r1 y hy] at e
      exact srt_inj hσ hx hy e
    have hρ4 : ∀ t, t < m → ∃ x, x < m ∧ ρ x = t := fun t ht => by
      rw [hσ.1] at ht
      obtain ⟨y, y1, y2, y3⟩ := rk_ex ht
      obtain ⟨i, i1, i2⟩ := hσ.2.2.2 y y1 y2
      exact ⟨i, i1, by rw [r1 i i1, i2, y3]⟩
    have hw30 : ∀ x, x < m → c (σ x) < 2 ^ 30 := fun x hx => by
      have h9 : c (σ x) ≤ sumL (fun i => c (σ i)) 0 m := sumL_ge (fun i => c (σ i)) m 0 x (Nat.zero_le _) (by omega)
      omega
    have hJ : JS m 0 0 0 ρ (fun i => c (σ i)) (fun t => (WM t).toNatClampNeg) (fun _ => 0) (sumL (fun i => c (σ i)) 0 m) 0 WC PC WM PM := by
      refine ⟨⟨by omega, by omega, by omega, hcb, by rw [Nat.sub_zero, Nat.sub_zero, sumL, Nat.add_zero]⟩, fun x hx => ?_, fun t ht => ?_, fun x hx => ?_, fun x y hxy hy => ?_, fun x y hx hxy hy => by omega, fun x hx => by omega, fun h => by omega, fun x hx => ?_, fun x hx hn => ?_⟩
      · exact ⟨(hSL x (by omega)).1, hw30 x (by omega), (hp x (by omega)).2, fun h => absurd (show 1 ≤ 0 from h) (by decide)⟩
      · obtain ⟨x, x1, x2⟩ := hρ4 t (by omega)
        rw [r1 x x1] at x2
        have g := hRL (σ x) (hp x x1).1 (hp x x1).2
        rw [x2] at g
        have h8 := hw30 x x1
        show WM t = nI (WM t).toNatClampNeg ∧ (WM t).toNatClampNeg < 2 ^ 31
        rw [g.1, nI_clamp (by omega)]
        exact ⟨rfl, by omega⟩
      · have g := hRL (σ x) (hp x (by omega)).1 (hp x (by omega)).2
        have := hw30 x (by omega)
        show (WM (ρ x)).toNatClampNeg = c (σ x)
        rw [r1 x (by omega), g.1, nI_clamp (by omega)]
      · rcases hσ.2.2.1 x y hxy hy with g | g
        · exact Or.inl g
        · refine Or.inr ⟨g.1, ?_⟩
          rw [r1 x (by omega), r1 y hy]
          exact rk_lt g.2 (hp x (by omega)).2
      · have hxm : x < m := by
          rcases hx with g | g <;> omega
        rw [r1 x hxm]
        exact (hRL (σ x) (hp x hxm).1 (hp x hxm).2).2.1
      · exact absurd (Or.inl ⟨Nat.zero_le _, by omega⟩) hn
    obtain ⟨a, b, L, w, v, h, WC', PC', WM', PM', g1, g2, g3⟩ := u_join_loop (N := N) (by omega) hm hρ1 hρ2 hρ3 hρ4 (m - 1) N N 0 0 0 0 _ _ _ WC PC WM PM (by omega) (by omega) (by omega) hJ
    obtain ⟨⟨q1, q2, q3, q4, q5⟩, q6, q7, q8, q9, q10, q11, q12, q13, q14⟩ := g3
    have hopen : ∀ x, x + 1 < 2 * m - 1 → ¬ opn m (m - 1) a b x := by
      intro x hx ho
      have hroot : opn m (m - 1) a b (2 * m - 2) := by
        by_cases e : opn m (m - 1) a b (2 * m - 2)
        · exact e
        · obtain ⟨q, -, -, s3, s4, s5, -⟩ := q14 (2 * m - 2) (by omega) e
          omega
      rcases hroot with s | s
      · omega
      · rcases ho with t | t <;> omega
    have hroot : opn m (m - 1) a b (2 * m - 2) := by
      by_cases e : opn m (m - 1) a b (2 * m - 2)
      · exact e
      · obtain ⟨q, -, -, s3, s4, s5, -⟩ := q14 (2 * m - 2) (by omega) e
        omega
    obtain ⟨q, hqd⟩ : ∃ q : Nat → Nat, q = fun x => (PC' x).toNatClampNeg := ⟨_, rfl⟩
    have hqq : ∀ x, x + 1 < 2 * m - 1 → PC' x = nI (q x) ∧ PM' (ρ x) = nI (q x) ∧ m ≤ q x ∧ q x < 2 * m - 1 ∧ x < q x ∧ h x + 1 ≤ h (q x) := by
      intro x hx
      obtain ⟨z, s1, s2, s3, s4, s5, s6⟩ := q14 x (by omega) (hopen x hx)
      have e : q x = z := by rw [hqd]; show (PC' x).toNatClampNeg = z; rw [s1, nI_clamp (by omega)]
      rw [e]
      exact ⟨s1, s2, s3, by omega, s5, s6⟩
    have hq : ∀ x, x + 1 < 2 * m - 1 → x < q x ∧ q x < 2 * m - 1 := fun x hx => ⟨(hqq x hx).2.2.2.2.1, (hqq x hx).2.2.2.1⟩
    have hPr : PM' (2 * m - 1 - 1) = -1 := by
      by_cases e : m = 1
      · subst e
        have s := q13 0 hroot
        have s2 := hρ1 0 (by omega)
        rw [show ρ 0 = 0 by omega] at s
        exact s
      · have s := q13 (2 * m - 2) hroot
        rw [hρ2 _ (show m ≤ 2 * m - 2 by omega)] at s
        exact s
    obtain ⟨DC', d1, d2⟩ := s_depths_120 (N := N) (all := 2 * m - 1) (PC := PC') (q := q) (by omega) hq (fun x hx => (hqq x hx).1) (2 * m - 2) N (upd DC (2 * m - 2) (nI 0)) (by omega) (by omega) (fun y hy hy2 => by
      have e : y = 2 * m - 2 := by omega
      rw [e, upd_same, dp_root (by omega)])
    have hdh : ∀ d x, x + d + 1 = 2 * m - 1 → dp q (2 * m - 1) x + h x ≤ h (2 * m - 2) := by
      intro d
      induction d using Nat.strongRecOn with
      | _ d ih =>
        intro x hx
        by_cases e : d = 0
        · rw [dp_root (by omega), show x = 2 * m - 2 by omega]; omega
        · have s := hqq x (by omega)
          rw [dp_s hq (by omega)]
          have := ih (2 * m - 1 - 1 - q x) (by omega) (q x) (by omega)
          omega
    have hwr : w (2 * m - 2) ≤ sumL (fun i => c (σ i)) 0 m := by
      rcases hroot with s | s
      · have := sumL_ge w (m - a) a (2 * m - 2) s.1 (by omega)
        omega
      · have := sumL_ge w (m - 1 - b) (m + b) (2 * m - 2) s.1 (by omega)
        omega
    have e2m : (2 : Int32) * nI m - (1 : Int32) = nI (2 * m - 1) := by
      rw [show (2 : Int32) * nI m = nI (2 * m) from pk_mul 2 m]
      exact nI_sub (b := 1) (by omega)
    refine ⟨fun i => dp q (2 * m - 1) i, nI (2 * m - 1), nI a, nI (m + b), WC', PC', DC', WM', PM', ?_, ?_, fun i hi => ⟨d2 i (by omega), ?_, ?_, ?_, ?_, ?_⟩⟩
    · rw [fTrees_joinAll, e2m]
      rw [show fTrees_joinAll_30 N (nI m) (nI (2 * m - 1)) N (nI m) (0 : Int32) (nI m) WC PC = some (nI (2 * m - 1), nI a, nI (m + b), WC', PC') from g1, Option.bind_some]
      dsimp only
      rw [if_neg (show ¬ nI (2 * m - 1) ≤ (0 : Int32) from nI_ge (a := 0) (by omega) (by omega)), show nI (2 * m - 1) - (1 : Int32) = nI (2 * m - 2) from by rw [show (1 : Int32) = nI 1 from rfl, nI_sub (by omega)]; congr 1, if_pos (nI_in (show 2 * m - 2 < 572 by omega) (by omega)), nI_clamp (show 2 * m - 2 < 2 ^ 31 by omega), show nI (2 * m - 1) - (2 : Int32) = nI (2 * m - 2) - nI 1 from by rw [← nI_s12]; congr 2; omega]
      rw [show fTrees_joinAll_120 N PC' N (nI (2 * m - 2) - nI 1) (upd DC (2 * m - 2) (0 : Int32)) = some DC' from d1]
      rfl
    · rw [show nI m = nI (m - 0) from rfl]
      exact g2
    · have := dp_le hq (2 * m - 1 - 1 - i) i (by omega)
      show dp q (2 * m - 1) i < 600
      omega
    · intro h2m
      show 1 ≤ dp q (2 * m - 1) i
      rw [dp_s hq (show i + 1 < 2 * m - 1 by omega)]
      omega
    · intro h1m
      exact dp_root (by omega)
    · have s1 := hdh (2 * m - 1 - 1 - i) i (by omega)
      have s2 := (q6 (2 * m - 2) (by omega)).2.2.1
      have s3 := fb_mono (show dp q (2 * m - 1) i ≤ h (2 * m - 2) by omega)
      show fb (dp q (2 * m - 1) i) ≤ _
      omega
    · rw [← r1 i hi]
      by_cases e : m = 1
      · subst e
        have s2 := hρ1 i hi
        have e0 : i = 0 := by omega
        subst e0
        obtain ⟨N, rfl⟩ : ∃ k, N = k + 1 := ⟨N - 1, by omega⟩
        rw [show ρ 0 = 0 by omega, fMo_join_237, if_pos (by decide), show PM' (nI 0).toNatClampNeg = -1 from hPr, if_pos (by decide)]
        show some (0 : Int32) = some (nI (dp q (2 * 1 - 1) 0))
        rw [dp_root (by omega)]
        rfl
      · have s := hqq i (by omega)
        have s2 := hρ1 i hi
        obtain ⟨k, rfl⟩ : ∃ k, N = k + 1 := ⟨N - 1, by omega⟩
        have s9 := s_walk_237 (N := k + 1) (all := 2 * m - 1) (m := m) (PM := PM') (q := q) (by omega) (by omega) hq (fun x hx => (hqq x hx).2.2.1) (fun x hx1 hx2 => by have := (hqq x hx2).2.1; rw [hρ2 x hx1] at this; exact this) (fun _ => hPr) (2 * m - 1 - 1 - q i) k (q i) 1 (by omega) (by omega) s.2.2.1 (by omega)
        have hin : ¬ (nI (ρ i) < 0 ∨ 640 ≤ (nI (ρ i)).toNatClampNeg) := nI_in (by omega) (by omega)
        rw [fMo_join_237, if_pos hin, if_pos hin, nI_clamp (show ρ i < 2 ^ 31 by omega), s.2.1, if_neg (show ¬ nI (q i) < (0 : Int32) from nI_nlt (a := q i) (b := 0) (by omega) (by omega)), show (0 : Int32) + (1 : Int32) = nI 1 from rfl, s9]
        show some (nI (1 + dp q (2 * m - 1) (q i))) = some (nI (dp q (2 * m - 1) i))
        rw [dp_s hq (show i + 1 < 2 * m - 1 by omega), Nat.add_comm]
