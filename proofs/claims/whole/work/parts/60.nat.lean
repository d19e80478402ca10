/-! Naturals for the machine's numbers: rows for a simplifier whose side goals are omega's. -/
theorem nlit (n : Nat) : (OfNat.ofNat n : Int32) = nI (OfNat.ofNat n) := rfl
theorem nI_mul (a b : Nat) : nI a * nI b = nI (a * b) := pk_mul a b
theorem nI_sub {a b : Nat} (h : b ≤ a) : nI a - nI b = nI (a - b) := by
  exact pk_sub h
theorem nI_lt0 {c : Nat} (hc : c < 2 ^ 31) : nI c < 0 ↔ False := ⟨fun h => nI_nlt (a := c) (b := 0) (Nat.zero_le _) hc h, False.elim⟩
theorem nI_lt0' {c : Nat} (hc : c < 2 ^ 31) : nI c < nI 0 ↔ False := nI_lt0 hc
theorem nI_inI {c N : Nat} (hc : c < 2 ^ 31) : (nI c < 0 ∨ N ≤ (nI c).toNatClampNeg) ↔ N ≤ c := by
  rw [nI_clamp hc, nI_lt0 hc, false_or]
theorem nI_inI' {c N : Nat} (hc : c < 2 ^ 31) : (nI c < nI 0 ∨ N ≤ (nI c).toNatClampNeg) ↔ N ≤ c := nI_inI hc
theorem nI_div {a b : Nat} (ha : a < 2 ^ 31) (h0 : 0 < b) (hb : b < 2 ^ 31) : nI a / nI b = nI (a / b) := pk_div ha h0 hb
theorem nI_rem {a b : Nat} (ha : a < 2 ^ 31) (h0 : 0 < b) (hb : b < 2 ^ 31) : nI a - nI (a / b) * nI b = nI (a % b) := by
  rw [← nI_div ha h0 hb]
  exact pk_rem ha h0 hb
theorem nI_shl (a : Nat) {k : Nat} (hk : k < 32) : nI a <<< (nI k &&& nI 31) = nI (a * 2 ^ k) := by
  apply Int32.toBitVec_inj.mp
  apply BitVec.eq_of_toNat_eq
  show (nI a <<< (nI k &&& 31)).toBitVec.toNat = _
  rw [pk_shl _ _ k (s_l k hk)]
  show a % 2 ^ 32 * 2 ^ k % 2 ^ 32 = a * 2 ^ k % 2 ^ 32
  rw [Nat.mod_mul_mod]
theorem nI_shr {a k : Nat} (ha : a < 2 ^ 31) (hk : k < 32) : nI a >>> (nI k &&& nI 31) = nI (a / 2 ^ k) := pk_shrN ha _ k (s_l k hk)
theorem upd_same (f : Nat → Int32) (k : Nat) (x : Int32) : upd f k x k = x := pk_us
theorem upd_ne {f : Nat → Int32} {j k : Nat} {x : Int32} (h : j ≠ k) : upd f k x j = f j := pk_un h
theorem nI_subI {a b : Nat} (ha : a < 2 ^ 31) (hb : b < 2 ^ 31) : nI a - nI b = nI 0 ↔ a = b := by
  constructor
  · intro h
    have h2 : nI a = nI b := by
      have e : nI a - nI b + nI b = nI 0 + nI b := by rw [h]
      rw [Int32.sub_add_cancel] at e
      rw [e, nI_add, Nat.zero_add]
    exact (nI_eq ha hb).mp h2
  · intro h
    subst h
    rw [nI_sub (Nat.le_refl _), Nat.sub_self]
theorem nI_subsub (x : Int32) (a b : Nat) : x - nI a - nI b = x - nI (a + b) := by
  rw [← nI_add, Int32.sub_eq_add_neg, Int32.sub_eq_add_neg, Int32.sub_eq_add_neg, Int32.neg_add, Int32.sub_eq_add_neg, Int32.add_assoc]
theorem or_bit (a b : Nat) (h : b ≤ 1) : a * 2 ||| b = 2 * a + b := by
  have := or_add (a := b) (b := a) (k := 1) (by omega)
  rw [Nat.or_comm, show a * 2 = a * 2 ^ 1 from rfl, this]
  omega
theorem nI_eqm {a k : Nat} (ha : a < 2 ^ 31) (h0 : 0 < k) (hk : k < 2 ^ 31) : nI a = -nI k ↔ False := by
  constructor
  · intro e
    have h1 : nI a + nI k = nI 0 := by rw [e, Int32.add_comm, Int32.add_right_neg]; rfl
    rw [nI_add] at h1
    have h2 := congrArg (fun x : Int32 => x.toBitVec.toNat) h1
    have h3 : (a + k) % 2 ^ 32 = 0 := h2
    omega
  · exact False.elim
theorem nI_m1le : nI 0 ≤ -nI 1 ↔ False := ⟨fun h => absurd h (by decide), False.elim⟩
theorem nI_m2le : nI 0 ≤ -nI 2 ↔ False := ⟨fun h => absurd h (by decide), False.elim⟩
theorem nI_m1lt : -nI 1 < nI 0 ↔ True := ⟨fun _ => trivial, fun _ => by decide⟩
theorem nI_m2lt : -nI 2 < nI 0 ↔ True := ⟨fun _ => trivial, fun _ => by decide⟩
theorem nI_m2m1 : -nI 2 = -nI 1 ↔ False := ⟨fun h => absurd h (by decide), False.elim⟩
theorem nI_m256 : -nI 1 = nI 256 ↔ False := ⟨fun h => absurd h (by decide), False.elim⟩
theorem nI_m256' : -nI 2 = nI 256 ↔ False := ⟨fun h => absurd h (by decide), False.elim⟩
