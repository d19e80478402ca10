/-! The header: made ready, both sides. -/
theorem cnt_hit {L : Nat → Nat} {t q : Nat} (h : q < t) : 0 < cnt L t (L q) := by
  have := cnt_lt (L := L) h rfl
  omega
theorem u_prepare {N : Nat} {f1 f2 hl cn it cl sh W S PC DC nx bits lens line fewC run rest wM fewL P Y : Nat → Int32} {LS LD : Nat → Nat} (hN : 2000 ≤ N) (h1 : ∀ x, x < 286 → f1 x = nI (LS x) ∧ LS x < 16) (h2 : ∀ x, x < 30 → f2 x = nI (LD x) ∧ LD x < 16) (h3 : ∀ x, x < 286 → lens x = nI (LS x) ∧ LS x < 16) (h4 : ∀ x, x < 30 → lens (288 + x) = nI (LD x) ∧ LD x < 16) :
    ∃ out y9 y10 y15, fHeader_prepare N 286 f1 30 f2 hl cn it 19 cl sh W S PC DC nx 19 bits = some out ∧ fMo_findRuns N lens line fewC run rest = some y9 ∧ fMo_join N (0 : Int32) (19 : Int32) (7 : Int32) wM 19 fewL 19 y9.2.2.2.2.1 P Y = some y10 ∧ fMo_pack_96 N y10.2.1 N (19 : Int32) = some y15 ∧
      ∃ (t w d fw : Nat) (Is Im LF : Nat → Nat), out.1 = nI t ∧ out.2.1 = nI w ∧ out.2.2.1 = nI d ∧ out.2.2.2.1 = nI fw ∧ y9.1 = nI t ∧ y9.2.1 = nI w ∧ y9.2.2.1 = nI d ∧ y15 = nI fw ∧ (257 ≤ w ∧ w ≤ 286 ∧ 1 ≤ d ∧ d ≤ 30 ∧ 4 ≤ fw ∧ fw ≤ 19 ∧ t ≤ 316) ∧ ITM t Is Im out.2.2.2.2.2.2.1 y9.2.2.2.2.2.1 y9.2.2.2.2.2.2 ∧ (∀ s, s < 19 → out.2.2.2.2.2.1 s = nI (cnt Is t s)) ∧ (∀ s, s < 19 → out.2.2.2.2.2.2.2.2.2.2.2.1 s = nI (LF s) ∧ y10.2.1 s = nI (LF s) ∧ LF s ≤ 7) ∧ (∀ q, q < t → 1 ≤ LF (Is q)) ∧ codeT 19 LF out.2.2.2.2.2.2.2.2.2.2.2.2.2.2.2.2.2.2 := by
  have c1 : fHeader_countUsed N (257 : Int32) 286 f1 = some (nI (us LS 257 286)) := s_countUsed (least := 257) (by omega) (by omega) (by omega) h1
  have c2 : fHeader_countUsed N (1 : Int32) 30 f2 = some (nI (us LD 1 30)) := s_countUsed (least := 1) (by omega) (by omega) (by omega) h2
  have r1 : fMo_findRuns_7 N lens N (286 : Int32) = some (nI (us LS 257 286)) := s_wide_7 h3 286 N (by omega) (by omega)
  have r2 : fMo_findRuns_50 N lens N (30 : Int32) = some (nI (us LD 1 30)) := s_deep_50 h4 30 N (by omega) (by omega)
  have u1 := us_r LS 257 286 (by omega)
  have u2 := us_r LD 1 30 (by omega)
  generalize us LS 257 286 = w at *
  generalize us LD 1 30 = d at *
  obtain ⟨l1, a1, a2⟩ := s_line_91 (N := N) (w := w) (f := lens) (by omega) w N 0 line (by omega) (by omega) (fun j hj => by omega)
  obtain ⟨l2, b1, b2, b3⟩ := s_line_119 (N := N) (w := w) (dp9 := d) (f := lens) (by omega) (by omega) d N 0 l1 (by omega) (by omega) (fun j hj => by omega)
  obtain ⟨fc0, e1, e2⟩ := s_166 (N := N) 19 N 0 fewC (by omega) (by omega) (fun j hj => by omega)
  obtain ⟨cn0, g1, g2⟩ := s_fill (N := N) (x1 := 0) (n := 19) (by omega) (by omega) cn
  have hrow : ∀ j, j < w + d → va_cpy f2 (va_cpy f1 hl 0 0 w) 0 w d j = nI (if j < w then LS j else LD (j - w)) ∧ (if j < w then LS j else LD (j - w)) < 16 := by
    intro j hj
    by_cases q : j < w
    · rw [pk_cpy_out (Or.inl q), pk_cpy_in (Nat.zero_le _) (by omega), show 0 + (j - 0) = j by omega, if_pos q]
      exact h1 j (by omega)
    · rw [pk_cpy_in (by omega) (by omega), Nat.zero_add, if_neg q]
      exact h2 (j - w) (by omega)
  have hline : ∀ j, j < w + d → l2 j = nI (if j < w then LS j else LD (j - w)) ∧ (if j < w then LS j else LD (j - w)) < 16 := by
    intro j hj
    by_cases q : j < w
    · rw [b3 j q, a2 j q, if_pos q]
      exact h3 j (by omega)
    · have := b2 (j - w) (by omega)
      rw [show w + (j - w) = j by omega] at this
      rw [this, if_neg q]
      exact h4 (j - w) (by omega)
  obtain ⟨t, cn', it', fc', run', rest', Is, Im, i1, i2, i3, i4, i5, i6⟩ := u_items (N := N) (n := w + d) (by omega) (by omega) hrow hline (w + d) N N 0 0 cn0 it fc0 run rest (fun _ => 0) (fun _ => 0) (by omega) (by omega) (by omega) (Nat.le_refl _) (fun q hq => by omega) (fun s hs => by rw [g2 s hs, cnt]; rfl) (fun s hs => by rw [e2 s hs, cnt])
  have hIs : ∀ x, 19 ≤ x → cnt Is t x = 0 := fun x hx => cnt_none t (fun q hq => by have := (i4 q hq).1; omega)
  obtain ⟨out, out', LF, k1, k2, k3, k4, k5, k6, k7, k8⟩ := u_find (N := N) (nC := 19) (nM := 19) (x3 := 0) (n1 := 19) (n2 := 19) (lim := 7) (cf := fc') (fp := cn') (p2 := cl) (sh := sh) (W := W) (S := S) (PC := PC) (DC := DC) (WM := wM) (T := fewL) (P := P) (Y := Y) (C := fun s => cnt Is t s) hN (by omega) (by omega) (by omega) (by omega) (by omega) (by omega) (by omega) i5 (fun x hx => by rw [Nat.zero_add]; exact i6 x hx) (fun x => by have := cnt_le Is x t; show cnt Is t x ≤ 2 ^ 17; omega) hIs (by omega) (by omega) (by decide)
  obtain ⟨nx', bits', n1, n2⟩ := s_number (N := N) (n := 19) (f := out.2.2.2.2.1) (L := LF) (by omega) (by omega) k3 (fun j _ => by have := k6 j; omega) nx bits
  have p1 := s_prep_106 (N := N) (f := out.2.2.2.2.1) (L := LF) (fun x hx => ⟨k3 x hx, by have := k6 x; omega⟩) 19 N (by omega) (by omega)
  have p2 := s_pack_96 (N := N) (f := out'.2.1) (L := LF) (fun x hx => ⟨by have := k4 x hx; rw [Nat.zero_add] at this; exact this, by have := k6 x; omega⟩) 19 N (by omega) (by omega)
  have u3 := us_r (fun j => LF (ordN j)) 4 19 (by omega)
  generalize us (fun j => LF (ordN j)) 4 19 = fw at *
  refine ⟨(nI t, nI w, nI d, nI fw, va_cpy f2 (va_cpy f1 hl 0 0 w) 0 w d, cn', it', out.1, out.2.1, out.2.2.1, out.2.2.2.1, out.2.2.2.2.1, out.2.2.2.2.2.1, out.2.2.2.2.2.2.1, out.2.2.2.2.2.2.2.1, out.2.2.2.2.2.2.2.2.1, out.2.2.2.2.2.2.2.2.2, nx', bits'), (nI t, nI w, nI d, l2, fc', run', rest'), out', nI fw, ?_, ?_, k2, p2, t, w, d, fw, Is, Im, LF, rfl, rfl, rfl, rfl, rfl, rfl, rfl, rfl, by omega, i4, i5, fun s hs => ⟨k3 s hs, by have := k4 s hs; rw [Nat.zero_add] at this; exact this, k6 s⟩, fun q hq => k7 (Is q) (cnt_hit hq), n2⟩
  · have hli : fHeader_listItems N (nI (w + d)) cn (va_cpy f2 (va_cpy f1 hl 0 0 w) 0 w d) it = some (nI t, cn', it') := by
      rw [fHeader_listItems, g1, Option.bind_some]
      rw [show fHeader_listItems_15 N (nI (w + d)) (va_cpy f2 (va_cpy f1 hl 0 0 w) 0 w d) N (0 : Int32) (0 : Int32) cn0 it = _ from i1]
      rfl
    rw [fHeader_prepare, c1, Option.bind_some, c2, Option.bind_some, nI_clamp (show w < 2 ^ 31 by omega), nI_clamp (show d < 2 ^ 31 by omega), nI_add]
    rw [if_pos (by decide), if_pos (by decide), if_pos (show ¬ nI w < 0 from nI_nlt (a := w) (b := 0) (by omega) (by omega)), if_pos (show (0 : Int32).toNatClampNeg + w ≤ 286 from by show 0 + w ≤ 286; omega), if_pos (show (0 : Int32).toNatClampNeg + w ≤ 316 from by show 0 + w ≤ 316; omega), if_pos (by decide), if_pos (show ¬ nI w < 0 from nI_nlt (a := w) (b := 0) (by omega) (by omega)), if_pos (show ¬ nI d < 0 from nI_nlt (a := d) (b := 0) (by omega) (by omega)), if_pos (show (0 : Int32).toNatClampNeg + d ≤ 30 from by show 0 + d ≤ 30; omega), if_pos (show w + d ≤ 316 by omega)]
    rw [show fHeader_listItems N (nI (w + d)) cn (va_cpy f2 (va_cpy f1 hl (0 : Int32).toNatClampNeg (0 : Int32).toNatClampNeg w) (0 : Int32).toNatClampNeg w d) it = some (nI t, cn', it') from hli, Option.bind_some]
    dsimp only
    rw [show fTrees_findLengths N (7 : Int32) 19 cn' 19 cl sh W S PC DC = some out from k1, Option.bind_some, n1, Option.bind_some]
    rw [show fHeader_prepare_106 N 19 out.2.2.2.2.1 N (19 : Int32) = some (nI fw) from p1]
    rfl
  · rw [fMo_findRuns, r1, Option.bind_some, r2, Option.bind_some]
    rw [show fMo_findRuns_91 N (nI w) lens N (0 : Int32) line = some l1 from a1, Option.bind_some]
    rw [show fMo_findRuns_119 N (nI w) (nI d) lens N (0 : Int32) l1 = some l2 from b1, Option.bind_some]
    rw [show fMo_findRuns_166 N N (0 : Int32) fewC = some fc0 from e1, Option.bind_some, nI_add]
    rw [show fMo_findRuns_192 N (nI (w + d)) l2 N (0 : Int32) (0 : Int32) fc0 run rest = _ from i2]
    rfl
