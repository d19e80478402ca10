/-! The header: runs of lengths, the same on both sides. -/
def rlf (W : Nat → Nat) (v n : Nat) : Nat → Nat → Nat
  | 0, _ => 0
  | k + 1, i => if n ≤ i then 0 else if W i = v then rlf W v n k (i + 1) + 1 else 0
theorem rlf_le {W : Nat → Nat} {v n : Nat} : ∀ {k i : Nat}, i ≤ n → rlf W v n k i ≤ n - i
  | 0, i, h => Nat.zero_le _
  | k + 1, i, h => by
    rw [rlf]
    split
    · exact Nat.zero_le _
    · split
      · have := rlf_le (W := W) (v := v) (n := n) (k := k) (i := i + 1) (by omega)
        omega
      · exact Nat.zero_le _
theorem rlf_fuel {W : Nat → Nat} {v n : Nat} : ∀ {k k' i : Nat}, n ≤ i + k → n ≤ i + k' → rlf W v n k i = rlf W v n k' i
  | 0, 0, i, _, _ => rfl
  | 0, k' + 1, i, h, _ => by rw [rlf, rlf, if_pos (by omega)]
  | k + 1, 0, i, _, h => by rw [rlf, rlf, if_pos (by omega)]
  | k + 1, k' + 1, i, h, h' => by
    rw [rlf, rlf, rlf_fuel (k := k) (k' := k') (by omega) (by omega)]
def rl (W : Nat → Nat) (v n i : Nat) : Nat := rlf W v n n i
theorem rl_end {W : Nat → Nat} {v n i : Nat} (h : n ≤ i) : rl W v n i = 0 := by
  rw [rl]
  cases n with
  | zero => rfl
  | succ k => rw [rlf, if_pos h]
theorem rl_yes {W : Nat → Nat} {v n i : Nat} (h : i < n) (hv : W i = v) : rl W v n i = rl W v n (i + 1) + 1 := by
  obtain ⟨k, rfl⟩ : ∃ k, n = k + 1 := ⟨n - 1, by omega⟩
  rw [rl, rlf, if_neg (by omega), if_pos hv, rl, rlf_fuel (k := k) (k' := k + 1) (by omega) (by omega)]
theorem rl_no {W : Nat → Nat} {v n i : Nat} (h : i < n) (hv : ¬ W i = v) : rl W v n i = 0 := by
  obtain ⟨k, rfl⟩ : ∃ k, n = k + 1 := ⟨n - 1, by omega⟩
  rw [rl, rlf, if_neg (by omega), if_neg hv]
theorem rl_cap {W : Nat → Nat} {v n : Nat} : ∀ (cap i : Nat), rl W v (min n (i + cap)) i = min cap (rl W v n i)
  | 0, i => by
    rw [rl_end (by omega)]
    omega
  | cap + 1, i => by
    by_cases h : i < n
    · by_cases hv : W i = v
      · have ih := rl_cap (W := W) (v := v) (n := n) cap (i + 1)
        rw [show i + 1 + cap = i + (cap + 1) by omega] at ih
        rw [rl_yes (by omega) hv, ih, rl_yes h hv]
        omega
      · rw [rl_no (by omega) hv, rl_no h hv]
        omega
    · rw [rl_end (by omega), rl_end (by omega)]
      omega
theorem rl_le {W : Nat → Nat} {v n i : Nat} (h : i ≤ n) : rl W v n i ≤ n - i := rlf_le h
theorem s_run_3 {N v to : Nat} {f : Nat → Int32} {W : Nat → Nat} (hto : to ≤ 316) (hf : ∀ j, j < to → f j = nI (W j) ∧ W j < 16) (hv : v < 16) : ∀ (d k i : Nat), i + d = to → d < k → fHeader_run_3 N (nI v) (nI to) f k (nI i) = some (nI (i + rl W v to i))
  | 0, k + 1, i, hd, hk => by
    rw [fHeader_run_3, if_pos (nI_le (by omega) (by omega)), rl_end (by omega), Nat.add_zero]
  | d + 1, k + 1, i, hd, hk => by
    obtain ⟨f1, f2⟩ := hf i (by omega)
    rw [fHeader_run_3, if_neg (show ¬ nI to ≤ nI i from nI_ge (by omega) (by omega)), if_pos (nI_in (show i < 316 by omega) (by omega)), nI_clamp (show i < 2 ^ 31 by omega), f1]
    by_cases e : W i = v
    · rw [if_pos (by rw [e]), nI_1, s_run_3 hto hf hv d k (i + 1) (by omega) (by omega), rl_yes (by omega) e]
      congr 2
      omega
    · rw [if_neg (by rw [nI_eq (by omega) (by omega)]; exact e), rl_no (by omega) e, Nat.add_zero]
theorem s_run {N v i n cap : Nat} {f : Nat → Int32} {W : Nat → Nat} (hN : 400 ≤ N) (hn : n ≤ 316) (hi : i ≤ n) (hcap : cap ≤ 138) (hf : ∀ j, j < n → f j = nI (W j) ∧ W j < 16) (hv : v < 16) : fHeader_run N (nI v) (nI i) (if (nI i + nI cap) < nI n then (nI i + nI cap) else nI n) f = some (nI (min cap (rl W v n i))) := by
  have e1 : (if (nI i + nI cap) < nI n then (nI i + nI cap) else nI n) = nI (min n (i + cap)) := by
    rw [nI_add]
    by_cases q : i + cap < n
    · rw [if_pos (nI_lt q (by omega)), Nat.min_eq_right (by omega)]
    · rw [if_neg (nI_nlt (by omega) (by omega)), Nat.min_eq_left (by omega)]
  rw [e1, fHeader_run, s_run_3 (by omega) (fun j hj => hf j (by omega)) hv (min n (i + cap) - i) N i (by omega) (by omega), Option.bind_some, nI_sub (by omega), rl_cap]
  congr 2
  omega
theorem s_runOf_3 {N v i n : Nat} {f : Nat → Int32} {W : Nat → Nat} (hn : n ≤ 316) (hf : ∀ j, j < n → f j = nI (W j) ∧ W j < 16) (hv : v < 16) : ∀ (d k r : Nat), i + r + d = n → d < k → fMo_runOf_3 N (nI i) (nI n) (nI v) f k (nI r) = some (nI (r + rl W v n (i + r)))
  | 0, k + 1, r, hd, hk => by
    rw [fMo_runOf_3, nI_add, if_pos (nI_le (by omega) (by omega)), rl_end (by omega), Nat.add_zero]
  | d + 1, k + 1, r, hd, hk => by
    obtain ⟨f1, f2⟩ := hf (i + r) (by omega)
    rw [fMo_runOf_3, nI_add, if_neg (show ¬ nI n ≤ nI (i + r) from nI_ge (by omega) (by omega)), if_pos (nI_in (show i + r < 320 by omega) (by omega)), nI_clamp (show i + r < 2 ^ 31 by omega), f1]
    by_cases e : W (i + r) = v
    · rw [if_pos (by rw [e]), nI_1, s_runOf_3 hn hf hv d k (r + 1) (by omega) (by omega), rl_yes (by omega) e]
      congr 2
      rw [show i + (r + 1) = i + r + 1 by omega]
      omega
    · rw [if_neg (by rw [nI_eq (by omega) (by omega)]; exact e), rl_no (by omega) e, Nat.add_zero]
theorem s_runOf {N v i n : Nat} {f : Nat → Int32} {W : Nat → Nat} (hN : 400 ≤ N) (hn : n ≤ 316) (hi : i ≤ n) (hf : ∀ j, j < n → f j = nI (W j) ∧ W j < 16) (hv : v < 16) : fMo_runOf N (nI i) (nI n) (nI v) f = some (nI (rl W v n i)) := by
  rw [fMo_runOf, show fMo_runOf_3 N (nI i) (nI n) (nI v) f N (0 : Int32) = _ from s_runOf_3 hn hf hv (n - i) N 0 (by omega) (by omega), Nat.zero_add, Nat.add_zero]
  rfl
/-- the next item: symbol, bits more, how many lengths -/
def itm (W : Nat → Nat) (n i : Nat) : Nat × Nat × Nat :=
  if 11 ≤ min 138 (rl W 0 n i) then (18, min 138 (rl W 0 n i) - 11, min 138 (rl W 0 n i))
  else if 3 ≤ min 138 (rl W 0 n i) then (17, min 138 (rl W 0 n i) - 3, min 138 (rl W 0 n i))
  else if 3 ≤ (if i = 0 then 0 else min 6 (rl W (W (i - 1)) n i)) then (16, (if i = 0 then 0 else min 6 (rl W (W (i - 1)) n i)) - 3, (if i = 0 then 0 else min 6 (rl W (W (i - 1)) n i)))
  else (W i, 0, 1)
theorem itm_ok {W : Nat → Nat} {n i : Nat} (hi : i < n) (hW : W i < 16) : (itm W n i).1 < 19 ∧ (itm W n i).2.1 < 2 ^ rbits (itm W n i).1 ∧ 1 ≤ (itm W n i).2.2 ∧ i + (itm W n i).2.2 ≤ n := by
  have h1 := rl_le (W := W) (v := 0) (n := n) (i := i) (by omega)
  have h2 := rl_le (W := W) (v := W (i - 1)) (n := n) (i := i) (by omega)
  have r18 : rbits 18 = 7 := rfl
  have r17 : rbits 17 = 3 := rfl
  have r16 : rbits 16 = 2 := rfl
  rw [itm]
  split
  · dsimp only
    rw [r18]
    refine ⟨by omega, ?_, by omega, by omega⟩
    omega
  · split
    · dsimp only
      rw [r17]
      refine ⟨by omega, ?_, by omega, by omega⟩
      omega
    · by_cases hi0 : i = 0
      · rw [if_pos hi0, if_neg (by omega)]
        dsimp only
        refine ⟨by omega, Nat.two_pow_pos _, by omega, by omega⟩
      · rw [if_neg hi0]
        split
        · dsimp only
          rw [r16]
          refine ⟨by omega, ?_, by omega, by omega⟩
          omega
        · dsimp only
          refine ⟨by omega, Nat.two_pow_pos _, by omega, by omega⟩
