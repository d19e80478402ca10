/-! What is written, by the kind, both sides. -/
theorem u_wr {N n t r w d fw kd : Nat} {Lf Df LS LD Is Im LF : Nat → Nat} {f g tc tm fsl fsb fdl fdb osl osb odl odb lens it run rest cl few bits cells prod fi fewN nums : Nat → Int32} (hN : 70000 ≤ N) (hn : n ≤ 65536) (hfg : rowEq n f g) (ht : t ≤ 65536) (htok : TOK t Lf Df tc tm) (hend : tm t = nI 256)
    (h3 : ∀ x, x < 288 → fsl x = nI (FL x)) (h4 : ∀ x, x < 32 → fdl x = nI (FD x)) (h5 : codeT 288 FL fsb) (h6 : codeT 32 FD fdb)
    (o : (∀ x, x < 286 → osl x = nI (LS x)) ∧ (∀ x, x < 30 → odl x = nI (LD x)) ∧ (∀ x, x < 288 → lens x = nI (LS x)) ∧ (∀ x, x < 32 → lens (288 + x) = nI (LD x)) ∧ (∀ x, LS x ≤ 15) ∧ (∀ x, LD x ≤ 15) ∧ (∀ x, 0 < CS Lf Df t x → 1 ≤ LS x) ∧ (∀ x, x < 30 → 0 < CD Lf Df t x → 1 ≤ LD x) ∧ (∀ x, 286 ≤ x → LS x = 0) ∧ (∀ x, 30 ≤ x → LD x = 0) ∧ codeT 286 LS osb ∧ codeT 30 LD odb)
    (hr : 257 ≤ w ∧ w ≤ 286 ∧ 1 ≤ d ∧ d ≤ 30 ∧ 4 ≤ fw ∧ fw ≤ 19 ∧ r ≤ 316) (hI : ITM r Is Im it run rest) (hc : ∀ s, s < 19 → cl s = nI (LF s) ∧ few s = nI (LF s) ∧ LF s ≤ 7) (hLI : ∀ q, q < r → 1 ≤ LF (Is q)) (hT9 : codeT 19 LF bits)
    (hk : kd = KD (8 * (n + 5 * nBl n)) (3 + (sumL (tkb Lf Df FL FD) 0 t + FL 256)) (3 + (14 + 3 * fw + sumL (fun q => LF (Is q) + rbits (Is q)) 0 r) + (sumL (tkb Lf Df LS LD) 0 t + LS 256))) :
    ∃ k ce y57, (kd = 0 → fPacker_writeStored N (nI n) 0 0 0 cells f = some (0, 0, nI k, ce)) ∧
      (kd = 1 → ∃ z, fBitSink_put N (3 : Int32) (3 : Int32) 0 0 0 cells = some z ∧ fPacker_writeTokens N (nI t) tc 288 fsb 288 fsl z.1 z.2.1 z.2.2.1 z.2.2.2 32 fdb 32 fdl = some (0, 0, nI k, ce)) ∧
      (kd = 2 → ∃ z z2, fBitSink_put N (5 : Int32) (3 : Int32) 0 0 0 cells = some z ∧ fHeader_write N (nI r) (nI w) (nI d) (nI fw) z.1 z.2.1 z.2.2.1 z.2.2.2 19 cl it 19 bits = some z2 ∧ fPacker_writeTokens N (nI t) tc 286 osb 286 osl z2.1 z2.2.1 z2.2.2.1 z2.2.2.2 30 odb 30 odl = some (0, 0, nI k, ce)) ∧
      fMo_pack_340 N (nI n) (nI (t + 1)) (nI r) (nI w) (nI d) (nI fw) (nI kd) (0 : Int32) g tm lens run rest few prod fi fewN nums = some y57 ∧ (y57.1 + (7 : Int32)) / (8 : Int32) = nI k ∧ k ≤ 65546 ∧ rowEq k ce y57.2.2.1 := by
  have hb2 : 8 * (n + 5 * nBl n) ≤ 8 * 65546 := by rw [nBl]; split <;> omega
  have hkd := KD_le (8 * (n + 5 * nBl n)) (3 + (sumL (tkb Lf Df FL FD) 0 t + FL 256)) (3 + (14 + 3 * fw + sumL (fun q => LF (Is q) + rbits (Is q)) 0 r) + (sumL (tkb Lf Df LS LD) 0 t + LS 256))
  rw [← hk] at hkd
  have e7 : ∀ T, T ≤ 8 * 65546 → (nI T + (7 : Int32)) / (8 : Int32) = nI ((T + 7) / 8) := fun T hT => by
    rw [show (7 : Int32) = nI 7 from rfl, nI_add, show (8 : Int32) = nI 8 from rfl, nI_div (by omega) (by omega) (by omega)]
  rcases (show kd = 0 ∨ kd = 1 ∨ kd = 2 by omega) with e | e | e
  · obtain ⟨ce, p6, a1, a2, a3⟩ := u_writeStored (N := N) (n := n) (cells := cells) (prod := prod) hN hn hfg
    refine ⟨n + 5 * nBl n, ce, (nI (8 * (n + 5 * nBl n)), lens, p6, fi, fewN, nums), fun _ => a1, fun q => by omega, fun q => by omega, ?_, ?_, by omega, WB_row a3⟩
    · rw [fMo_pack_340, e, if_pos (show nI 0 = 0 from rfl), show fMo_writeStored N (nI n) (0 : Int32) prod g = _ from a2, Option.bind_some]
    · rw [e7 _ hb2]
      exact congrArg nI (by omega)
  · obtain ⟨h, b, c, ce, o1, p1, o2, p2, a1, a2, a3, a4⟩ := u_start (N := N) (kd := 1) (cells := cells) (prod := prod) (by omega) (by omega)
    obtain ⟨y54, b1, b2, b3⟩ := s_setFixed (N := N) (by omega) lens
    have hfx := KD_fx (hk.symm.trans e)
    obtain ⟨ce', fi', nu', prod', c1, c2, c3⟩ := u_writeTokens (N := N) (n1 := 288) (n2 := 32) (L := FL) (D := FD) (l1 := fsl) (b1 := fsb) (l2 := fdl) (b2 := fdb) (lens := y54) (nums := nums) (fi := fi) hN ht htok hend (by omega) (by omega) (by omega) (by omega) b2 b3 (fun x => by have := FL_r x; omega) (fun x => by rw [FD]; omega) (fun x hx hy => by omega) (fun x hx hy => by omega) h3 h4 h5 h6 (fun i _ => (FL_r _).1) (FL_r _).1 (fun i _ _ => by rw [FD]; omega) a4 (by omega)
    refine ⟨_, ce', (_, y54, prod', fi', fewN, nu'), fun q => by omega, fun _ => ⟨_, a1, c1⟩, fun q => by omega, ?_, e7 _ (by omega), by omega, c3⟩
    rw [fMo_pack_340, e, if_neg (show ¬ nI 1 = 0 by decide), a2, Option.bind_some, a3, Option.bind_some, if_pos (show nI 1 = (1 : Int32) from rfl), b1, Option.bind_some, c2, Option.bind_some]
    rfl
  · obtain ⟨h, b, c, ce, o1, p1, o2, p2, a1, a2, a3, a4⟩ := u_start (N := N) (kd := 2) (cells := cells) (prod := prod) (by omega) (by omega)
    have how := KD_ow (hk.symm.trans e)
    obtain ⟨q1, q2, q3, q4, q5, q6, q7, q8, q9, q10, q11, q12⟩ := o
    obtain ⟨h', b', c', ce', ou1, pr1, ou2, pr2, ou3, pr3, ou4, pr4, fi', nu', out', prod', d1, d2, d3, d4, d5, d6, d7, d8⟩ := u_head (N := N) (Is := Is) (Im := Im) (LF := LF) (fi := fi) (nums := fewN) (by omega) hr hI hc hLI hT9 a4 (by omega)
    obtain ⟨ce2, fi2, nu2, prod2, c1, c2, c3⟩ := u_writeTokens (N := N) (n1 := 286) (n2 := 30) (L := LS) (D := LD) (l1 := osl) (b1 := osb) (l2 := odl) (b2 := odb) (lens := lens) (nums := nums) (fi := fi') hN ht htok hend (by omega) (by omega) (by omega) (by omega) q3 q4 q5 q6 (fun x hx _ => q9 x hx) (fun x hx _ => q10 x hx) q1 q2 q11 q12 (fun i hi => q7 _ (sy_used hi)) (q7 256 (by rw [CS, if_pos rfl]; omega)) (fun i hi hl => q8 _ (dS_le _) (dy_used hi hl)) d8 (by omega)
    refine ⟨_, ce2, (_, lens, prod2, fi2, nu', nu2), fun q => by omega, fun q => by omega, fun _ => ⟨_, _, a1, d1, c1⟩, ?_, e7 _ (by omega), by omega, c3⟩
    rw [fMo_pack_340, e, if_neg (show ¬ nI 2 = 0 by decide), a2, Option.bind_some, a3, Option.bind_some, if_neg (show ¬ nI 2 = (1 : Int32) by decide), fMo_writeOwn, d2, Option.bind_some, d3, Option.bind_some, d4, Option.bind_some, d5, Option.bind_some, d6, Option.bind_some, d7, Option.bind_some, c2, Option.bind_some, Option.bind_some]
    rfl
