/-! The report of a packing, and the kind chosen. -/
theorem sumB {w : Nat → Nat} {B : Nat} : ∀ (k lo : Nat), (∀ i, lo ≤ i → i < lo + k → w i ≤ B) → sumL w lo k ≤ k * B
  | 0, _, _ => by rw [sumL, Nat.zero_mul]; omega
  | k + 1, lo, h => by
    have h1 := h lo (by omega) (by omega)
    have h2 := sumB (w := w) (B := B) k (lo + 1) (fun i a b => h i (by omega) (by omega))
    rw [sumL, Nat.succ_mul]
    omega
theorem ixd_le (T : Nat → Nat) (v : Nat) : ∀ r, ixd T v r ≤ r
  | 0 => Nat.le_refl _
  | r + 1 => by
    have := ixd_le T v r
    rw [ixd]
    split <;> omega
theorem lb_le : ∀ i, i < 29 → lb i ≤ 5 := by decide +kernel
theorem db_le : ∀ i, i < 30 → db i ≤ 13 := by decide +kernel
theorem lS_le (l : Nat) : lS l < 29 := by
  have := ixd_le lf l 28
  rw [lS]; omega
theorem dS_le (l : Nat) : dS l < 30 := by
  have := ixd_le df l 29
  rw [dS]; omega
theorem tkb_le {Lf Df L D : Nat → Nat} (hL : ∀ x, L x ≤ 15) (hD : ∀ x, D x ≤ 15) (i : Nat) : tkb Lf Df L D i ≤ 48 := by
  rw [tkb]
  have h1 := hL (sy Lf Df i)
  have h2 := hD (dS (Df i))
  have h3 := lb_le _ (lS_le (Lf i))
  have h4 := db_le _ (dS_le (Df i))
  split <;> omega
theorem tot_le {Lf Df L D : Nat → Nat} {t : Nat} (ht : t ≤ 65536) (hL : ∀ x, L x ≤ 15) (hD : ∀ x, D x ≤ 15) : sumL (tkb Lf Df L D) 0 t + L 256 ≤ 65537 * 48 := by
  have h1 := sumB (w := tkb Lf Df L D) (B := 48) t 0 (fun i _ _ => tkb_le hL hD i)
  have h2 := hL 256
  omega
/-- the kind that is chosen -/
def KD (st fx ow : Nat) : Nat := if fx < st then (if ow < fx then 2 else 1) else if ow < st then 2 else 0
theorem KD_le (st fx ow : Nat) : KD st fx ow ≤ 2 := by
  rw [KD]; split <;> split <;> omega
theorem s_kind_143 {N st fx : Nat} {r : Nat → Int32} (h3 : r 3 = nI st) (h4 : r 4 = nI fx) (hs : st < 2 ^ 31) (hf : fx < 2 ^ 31) : fPacker_fillReport_143 N r = some (if fx < st then upd r 0 (1 : Int32) else r) := by
  rw [fPacker_fillReport_143, if_pos (show ¬ ((4 : Int32) < 0 ∨ 6 ≤ (4 : Int32).toNatClampNeg) by decide), if_pos (show ¬ ((3 : Int32) < 0 ∨ 6 ≤ (3 : Int32).toNatClampNeg) by decide), show (3 : Int32).toNatClampNeg = 3 from rfl, show (4 : Int32).toNatClampNeg = 4 from rfl, h3, h4, if_pos (show ¬ ((0 : Int32) < 0 ∨ 6 ≤ (0 : Int32).toNatClampNeg) by decide)]
  by_cases q : fx < st
  · rw [if_pos q, if_neg (nI_ge q hs)]; rfl
  · rw [if_neg q, if_pos (nI_le (by omega) hf)]
theorem s_kind_165 {N st fx ow : Nat} {r : Nat → Int32} (h3 : r 3 = nI st) (h4 : r 4 = nI fx) (h5 : r 5 = nI ow) (hs : st < 2 ^ 31) (hf : fx < 2 ^ 31) (ho : ow < 2 ^ 31) : fPacker_fillReport_165 N r = some (if ow < (if fx < st then fx else st) then upd r 0 (2 : Int32) else r) := by
  rw [fPacker_fillReport_165, if_pos (show ¬ ((5 : Int32) < 0 ∨ 6 ≤ (5 : Int32).toNatClampNeg) by decide), if_pos (show ¬ ((3 : Int32) < 0 ∨ 6 ≤ (3 : Int32).toNatClampNeg) by decide), if_pos (show ¬ ((4 : Int32) < 0 ∨ 6 ≤ (4 : Int32).toNatClampNeg) by decide), show (3 : Int32).toNatClampNeg = 3 from rfl, show (4 : Int32).toNatClampNeg = 4 from rfl, show (5 : Int32).toNatClampNeg = 5 from rfl, h3, h4, h5, if_pos (show ¬ ((0 : Int32) < 0 ∨ 6 ≤ (0 : Int32).toNatClampNeg) by decide)]
  have e : (if nI fx < nI st then nI fx else nI st) = nI (if fx < st then fx else st) := by
    by_cases q : fx < st
    · rw [if_pos q, if_pos (nI_lt q hs)]
    · rw [if_neg q, if_neg (nI_nlt (by omega) hf)]
  rw [e]
  have hm : (if fx < st then fx else st) < 2 ^ 31 := by split <;> omega
  by_cases q : ow < (if fx < st then fx else st)
  · rw [if_pos q, if_neg (nI_ge q hm)]; rfl
  · rw [if_neg q, if_pos (nI_le (by omega) ho)]
theorem s_fillReport {N n t mc fw r : Nat} {Lf Df L D Is LF : Nat → Nat} {tc tm sc dc rep fsl fdl hc hcl osl odl : Nat → Int32} (hN : 2000 ≤ N) (hn : n ≤ 65536) (ht : t ≤ 65536) (hmc : mc ≤ t) (htok : TOK t Lf Df tc tm) (h1 : ∀ s, s < 286 → sc s = nI (CS Lf Df t s)) (h2 : ∀ d, d < 30 → dc d = nI (CD Lf Df t d)) (h3 : ∀ x, x < 288 → fsl x = nI (FL x)) (h4 : ∀ x, x < 32 → fdl x = nI (FD x)) (h5 : ∀ x, x < 286 → osl x = nI (L x)) (h6 : ∀ x, x < 30 → odl x = nI (D x)) (hL : ∀ x, L x ≤ 15) (hD : ∀ x, D x ≤ 15) (hfw : fw ≤ 19) (hr : r ≤ 316) (hIs : ∀ q, q < r → Is q < 19) (h7 : ∀ x, x < 19 → hc x = nI (cnt Is r x)) (h8 : ∀ x, x < 19 → hcl x = nI (LF x)) (hLF : ∀ x, x < 19 → LF x ≤ 7) :
    ∃ rep', fPacker_fillReport N sc dc (nI t) (nI mc) rep (nI n) 288 fsl 32 fdl (nI fw) hc 19 hcl 286 osl 30 odl = some rep' ∧ rep' 0 = nI (KD (8 * (n + 5 * nBl n)) (3 + (sumL (tkb Lf Df FL FD) 0 t + FL 256)) (3 + (14 + 3 * fw + sumL (fun q => LF (Is q) + rbits (Is q)) 0 r) + (sumL (tkb Lf Df L D) 0 t + L 256))) ∧ rep' 1 = nI (t - mc) ∧ rep' 2 = nI mc ∧ rep' 3 = nI (8 * (n + 5 * nBl n)) ∧ rep' 4 = nI (3 + (sumL (tkb Lf Df FL FD) 0 t + FL 256)) ∧ rep' 5 = nI (3 + (14 + 3 * fw + sumL (fun q => LF (Is q) + rbits (Is q)) 0 r) + (sumL (tkb Lf Df L D) 0 t + L 256)) := by
  have s1 := sum_tok (L := FL) (D := FD) htok
  have s2 := sum_tok (L := L) (D := D) htok
  have t1 := tot_le (Lf := Lf) (Df := Df) (L := FL) (D := FD) ht (fun x => by have := FL_r x; omega) (fun x => by rw [FD]; omega)
  have t2 := tot_le (Lf := Lf) (Df := Df) (L := L) (D := D) ht hL hD
  have t3 := sumB (w := fun q => LF (Is q) + rbits (Is q)) (B := 14) r 0 (fun i _ hi => by
    have := hLF _ (hIs i (by omega))
    have : rbits (Is i) ≤ 7 := by rw [rbits]; split <;> (try split) <;> (try split) <;> omega
    show LF (Is i) + rbits (Is i) ≤ 14
    omega)
  have hb : nBl n ≤ 2 := by rw [nBl]; split <;> omega
  have a1 := s_moreBits (N := N) (f := sc) (g := dc) (A := CS Lf Df t) (B := CD Lf Df t) (by omega) h1 h2
  have a2 := s_storedBlocks (N := N) hn
  have a3 := s_bitsFor (N := N) (n1 := 286) (n2 := 288) (n := 286) (f := sc) (g := fsl) (A := CS Lf Df t) (B := FL) (by omega) (by omega) (by omega) (by omega) h1 (fun x hx => h3 x (by omega))
  have a4 := s_bitsFor (N := N) (n1 := 30) (n2 := 32) (n := 30) (f := dc) (g := fdl) (A := CD Lf Df t) (B := FD) (by omega) (by omega) (by omega) (by omega) h2 (fun x hx => h4 x (by omega))
  have a5 := s_headBits (N := N) (fw := fw) (t := r) (f := hc) (g := hcl) (by omega) hIs h7 h8
  have a6 := s_bitsFor (N := N) (n1 := 286) (n2 := 286) (n := 286) (f := sc) (g := osl) (A := CS Lf Df t) (B := L) (by omega) (by omega) (by omega) (by omega) h1 h5
  have a7 := s_bitsFor (N := N) (n1 := 30) (n2 := 30) (n := 30) (f := dc) (g := odl) (A := CD Lf Df t) (B := D) (by omega) (by omega) (by omega) (by omega) h2 h6
  generalize sumL (tkb Lf Df FL FD) 0 t + FL 256 = F at *
  generalize sumL (tkb Lf Df L D) 0 t + L 256 = O at *
  generalize sumL (fun q => LF (Is q) + rbits (Is q)) 0 r = H at *
  generalize sumL (fun s => CS Lf Df t (257 + s) * lb s) 0 29 + sumL (fun s => CD Lf Df t s * db s) 0 30 = M at *
  have eF : (3 : Int32) + nI M + nI (sumL (fun s => CS Lf Df t s * FL s) 0 286) + nI (sumL (fun s => CD Lf Df t s * FD s) 0 30) = nI (3 + F) := by
    rw [show (3 : Int32) = nI 3 from rfl, nI_add, nI_add, nI_add]
    exact congrArg nI (by omega)
  have eO : (3 : Int32) + nI (14 + 3 * fw + H) + nI M + nI (sumL (fun s => CS Lf Df t s * L s) 0 286) + nI (sumL (fun s => CD Lf Df t s * D s) 0 30) = nI (3 + (14 + 3 * fw + H) + O) := by
    rw [show (3 : Int32) = nI 3 from rfl, nI_add, nI_add, nI_add, nI_add]
    exact congrArg nI (by omega)
  have eS : (8 : Int32) * (nI n + (5 : Int32) * nI (nBl n)) = nI (8 * (n + 5 * nBl n)) := by
    rw [show (8 : Int32) = nI 8 from rfl, show (5 : Int32) = nI 5 from rfl, nI_mul, nI_add, nI_mul]
  have eT : nI t - nI mc = nI (t - mc) := nI_sub hmc
  generalize hst : 8 * (n + 5 * nBl n) = st at *
  have how : 3 + (14 + 3 * fw + H) + O < 2 ^ 31 := by omega
  generalize 3 + (14 + 3 * fw + H) + O = ow at *
  have hst2 : st < 2 ^ 31 := by omega
  have hfx : 3 + F < 2 ^ 31 := by omega
  generalize 3 + F = fx at *
  have E : fPacker_fillReport N sc dc (nI t) (nI mc) rep (nI n) 288 fsl 32 fdl (nI fw) hc 19 hcl 286 osl 30 odl = ((fPacker_fillReport_143 N (upd (upd (upd (upd (upd (upd rep 1 (nI (t - mc))) 2 (nI mc)) 3 (nI st)) 4 (nI fx)) 5 (nI ow)) 0 (0 : Int32))).bind (fun y18 => (fPacker_fillReport_165 N y18).bind (fun y24 => some y24))) := by
    rw [fPacker_fillReport, a1, Option.bind_some, if_pos (show ¬ ((1 : Int32) < 0 ∨ 6 ≤ (1 : Int32).toNatClampNeg) by decide), if_pos (show ¬ ((2 : Int32) < 0 ∨ 6 ≤ (2 : Int32).toNatClampNeg) by decide), a2, Option.bind_some, if_pos (show ¬ ((3 : Int32) < 0 ∨ 6 ≤ (3 : Int32).toNatClampNeg) by decide), a3, Option.bind_some, a4, Option.bind_some, if_pos (show ¬ ((4 : Int32) < 0 ∨ 6 ≤ (4 : Int32).toNatClampNeg) by decide), a5, Option.bind_some, a6, Option.bind_some, a7, Option.bind_some, if_pos (show ¬ ((5 : Int32) < 0 ∨ 6 ≤ (5 : Int32).toNatClampNeg) by decide), if_pos (show ¬ ((0 : Int32) < 0 ∨ 6 ≤ (0 : Int32).toNatClampNeg) by decide), eF, eO, eS, eT]
    rfl
  generalize hR : upd (upd (upd (upd (upd (upd rep 1 (nI (t - mc))) 2 (nI mc)) 3 (nI st)) 4 (nI fx)) 5 (nI ow)) 0 (0 : Int32) = R at E
  have r0 : R 0 = nI 0 := by rw [← hR]; rfl
  have r1 : R 1 = nI (t - mc) := by rw [← hR]; rfl
  have r2 : R 2 = nI mc := by rw [← hR]; rfl
  have r3 : R 3 = nI st := by rw [← hR]; rfl
  have r4 : R 4 = nI fx := by rw [← hR]; rfl
  have r5 : R 5 = nI ow := by rw [← hR]; rfl
  rw [s_kind_143 r3 r4 hst2 hfx, Option.bind_some] at E
  have R2 : ∃ R2, (if fx < st then upd R 0 (1 : Int32) else R) = R2 ∧ R2 0 = nI (if fx < st then 1 else 0) ∧ R2 1 = nI (t - mc) ∧ R2 2 = nI mc ∧ R2 3 = nI st ∧ R2 4 = nI fx ∧ R2 5 = nI ow := by
    by_cases q : fx < st
    · rw [if_pos q, if_pos q]
      exact ⟨_, rfl, pk_us, by rw [pk_un (by omega), r1], by rw [pk_un (by omega), r2], by rw [pk_un (by omega), r3], by rw [pk_un (by omega), r4], by rw [pk_un (by omega), r5]⟩
    · rw [if_neg q, if_neg q]
      exact ⟨R, rfl, r0, r1, r2, r3, r4, r5⟩
  obtain ⟨R2, e2, u0, u1, u2, u3, u4, u5⟩ := R2
  rw [e2, s_kind_165 u3 u4 u5 hst2 hfx how, Option.bind_some] at E
  refine ⟨_, E, ?_⟩
  by_cases q : ow < (if fx < st then fx else st)
  · rw [if_pos q]
    refine ⟨?_, by rw [pk_un (by omega), u1], by rw [pk_un (by omega), u2], by rw [pk_un (by omega), u3], by rw [pk_un (by omega), u4], by rw [pk_un (by omega), u5]⟩
    rw [pk_us, KD]
    by_cases p : fx < st
    · rw [if_pos p] at q
      rw [if_pos p, if_pos q]; rfl
    · rw [if_neg p] at q
      rw [if_neg p, if_pos q]; rfl
  · rw [if_neg q]
    refine ⟨?_, u1, u2, u3, u4, u5⟩
    rw [u0, KD]
    by_cases p : fx < st
    · rw [if_pos p] at q
      rw [if_pos p, if_pos p, if_neg q]
    · rw [if_neg p] at q
      rw [if_neg p, if_neg p, if_neg q]
