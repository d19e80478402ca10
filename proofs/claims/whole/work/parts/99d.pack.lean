/-! pack, both sides. -/
/-- what a packing leaves behind, on both sides -/
def PKD (k : Nat) (rep prodC prodM osl odl hcl ownL ownF : Nat → Int32) (kind bytes mats stB fxB owB : Int32) : Prop := k ≤ 65546 ∧ rowEq k prodC prodM ∧ rep 0 = kind ∧ rep 1 = bytes ∧ rep 2 = mats ∧ rep 3 = stB ∧ rep 4 = fxB ∧ rep 5 = owB ∧ (∀ x, x < 286 → osl x = ownL x) ∧ (∀ x, x < 30 → odl x = ownL (288 + x)) ∧ ∀ x, x < 19 → hcl x = ownF x
theorem mk_prod {N kd : Nat} {f heads before tc sc dc osl sh W S PC DC odl osn osb odn odb hl hc hi hcl hcn hcb rep fsl fdl cells fsb fdb y4 : Nat → Int32} {bl bd nn : Int32} {y1 y2 y3 y8} (h1 : fMatcher_findTokens N bl bd heads nn f before tc = some y1) (h2 : fPacker_countSymbols N sc dc y1.1 y1.2.2.2.2.2.2 = some y2) (h3 : fPacker_makeOwnCodes N y2.1 286 osl sh W S PC DC y2.2 30 odl osn 286 osb odn 30 odb hl hc hi 19 hcl hcn 19 hcb = some y3) (h4 : fPacker_fillReport N y2.1 y2.2 y1.1 y1.2.1 rep nn 288 fsl 32 fdl y3.2.2.2.2.2.2.2.2.2.2.2.2.2.2.2.2.2.2.1 y3.2.2.2.2.2.2.2.2.2.2.2.2.2.2.2.2.2.2.2.2.1 19 y3.2.2.2.2.2.2.2.2.2.2.2.2.2.2.2.2.2.2.2.2.2.2.1 286 y3.2.2.2.2.1 30 y3.2.2.2.2.2.2.2.2.2.2.1 = some y4) (hk : kd ≤ 2) (h0 : y4 0 = nI kd) (w1 : kd = 0 → fPacker_writeStored N nn 0 0 0 cells f = some y8) (w2 : kd = 1 → ∃ z, fBitSink_put N (3 : Int32) (3 : Int32) 0 0 0 cells = some z ∧ fPacker_writeTokens N y1.1 y1.2.2.2.2.2.2 288 fsb 288 fsl z.1 z.2.1 z.2.2.1 z.2.2.2 32 fdb 32 fdl = some y8) (w3 : kd = 2 → ∃ z z2, fBitSink_put N (5 : Int32) (3 : Int32) 0 0 0 cells = some z ∧ fHeader_write N y3.2.2.2.2.2.2.2.2.2.2.2.2.2.2.2.1 y3.2.2.2.2.2.2.2.2.2.2.2.2.2.2.2.2.1 y3.2.2.2.2.2.2.2.2.2.2.2.2.2.2.2.2.2.1 y3.2.2.2.2.2.2.2.2.2.2.2.2.2.2.2.2.2.2.1 z.1 z.2.1 z.2.2.1 z.2.2.2 19 y3.2.2.2.2.2.2.2.2.2.2.2.2.2.2.2.2.2.2.2.2.2.2.1 y3.2.2.2.2.2.2.2.2.2.2.2.2.2.2.2.2.2.2.2.2.2.1 19 y3.2.2.2.2.2.2.2.2.2.2.2.2.2.2.2.2.2.2.2.2.2.2.2.2 = some z2 ∧ fPacker_writeTokens N y1.1 y1.2.2.2.2.2.2 286 y3.2.2.2.2.2.2.2.2.2.2.2.2.1 286 y3.2.2.2.2.1 z2.1 z2.2.1 z2.2.2.1 z2.2.2.2 30 y3.2.2.2.2.2.2.2.2.2.2.2.2.2.2.1 30 y3.2.2.2.2.2.2.2.2.2.2.1 = some y8) :
    fPacker_makeProduct N bl bd heads nn f before tc sc dc 286 osl sh W S PC DC 30 odl osn 286 osb odn 30 odb hl hc hi 19 hcl hcn 19 hcb rep 288 fsl 32 fdl cells 288 fsb 32 fdb = some (y1.1, y1.2.1, y1.2.2.1, y1.2.2.2.1, y1.2.2.2.2.1, y1.2.2.2.2.2.1, y1.2.2.2.2.2.2, y2.1, y2.2, y3.1, y3.2.1, y3.2.2.1, y3.2.2.2.1, y3.2.2.2.2.1, y3.2.2.2.2.2.1, y3.2.2.2.2.2.2.1, y3.2.2.2.2.2.2.2.1, y3.2.2.2.2.2.2.2.2.1, y3.2.2.2.2.2.2.2.2.2.1, y3.2.2.2.2.2.2.2.2.2.2.1, y3.2.2.2.2.2.2.2.2.2.2.2.1, y3.2.2.2.2.2.2.2.2.2.2.2.2.1, y3.2.2.2.2.2.2.2.2.2.2.2.2.2.1, y3.2.2.2.2.2.2.2.2.2.2.2.2.2.2.1, y3.2.2.2.2.2.2.2.2.2.2.2.2.2.2.2.1, y3.2.2.2.2.2.2.2.2.2.2.2.2.2.2.2.2.1, y3.2.2.2.2.2.2.2.2.2.2.2.2.2.2.2.2.2.1, y3.2.2.2.2.2.2.2.2.2.2.2.2.2.2.2.2.2.2.1, y3.2.2.2.2.2.2.2.2.2.2.2.2.2.2.2.2.2.2.2.1, y3.2.2.2.2.2.2.2.2.2.2.2.2.2.2.2.2.2.2.2.2.1, y3.2.2.2.2.2.2.2.2.2.2.2.2.2.2.2.2.2.2.2.2.2.1, y3.2.2.2.2.2.2.2.2.2.2.2.2.2.2.2.2.2.2.2.2.2.2.1, y3.2.2.2.2.2.2.2.2.2.2.2.2.2.2.2.2.2.2.2.2.2.2.2.1, y3.2.2.2.2.2.2.2.2.2.2.2.2.2.2.2.2.2.2.2.2.2.2.2.2, y4, y8.1, y8.2.1, y8.2.2.1, y8.2.2.2) := by
  rw [fPacker_makeProduct, h1, Option.bind_some, h2, Option.bind_some, h3, Option.bind_some, h4, Option.bind_some, fBitSink_restart, Option.bind_some, if_pos (show ¬ ((0 : Int32) < 0 ∨ 6 ≤ (0 : Int32).toNatClampNeg) by decide), show (0 : Int32).toNatClampNeg = 0 from rfl, h0]
  rcases (show kd = 0 ∨ kd = 1 ∨ kd = 2 by omega) with e | e | e
  · rw [e, if_pos (show nI 0 = (0 : Int32) from rfl), w1 e, Option.bind_some]
  · obtain ⟨z, z1, z2⟩ := w2 e
    rw [e, if_neg (show ¬ nI 1 = (0 : Int32) by decide), if_pos (show nI 1 = (1 : Int32) from rfl), z1, Option.bind_some, z2, Option.bind_some]
  · obtain ⟨z, z0, z1, z2, z3⟩ := w3 e
    rw [e, if_neg (show ¬ nI 2 = (0 : Int32) by decide), if_neg (show ¬ nI 2 = (1 : Int32) by decide), z1, Option.bind_some, z2, Option.bind_some, z3, Option.bind_some]
theorem pb_pack {N : Nat} {f heads before tc sc dc osl sh W S PC DC odl osn osb odn odb hl hc hi hcl hcn hcb rep fsl fdl cells fsb fdb : Nat → Int32} {bl bd nn : Int32} {y} (h : fPacker_makeProduct N bl bd heads nn f before tc sc dc 286 osl sh W S PC DC 30 odl osn 286 osb odn 30 odb hl hc hi 19 hcl hcn 19 hcb rep 288 fsl 32 fdl cells 288 fsb 32 fdb = some y) : ∃ oc, fPB_pack N bl bd heads nn f before tc sc dc 286 osl sh W S PC DC 30 odl osn 286 osb odn 30 odb hl hc hi 19 hcl hcn 19 hcb rep 288 fsl 32 fdl cells 288 fsb 32 fdb = some oc ∧ oc.1 = y.2.2.2.2.2.2.2.2.2.2.2.2.2.2.2.2.2.2.2.2.2.2.2.2.2.2.2.2.2.2.2.2.2.2.2.2.2.1 ∧ oc.2.2.2.2.2.2.2.2.2.2.2.2.2.2.1 = y.2.2.2.2.2.2.2.2.2.2.2.2.2.1 ∧ oc.2.2.2.2.2.2.2.2.2.2.2.2.2.2.2.2.2.2.2.2.1 = y.2.2.2.2.2.2.2.2.2.2.2.2.2.2.2.2.2.2.2.1 ∧ oc.2.2.2.2.2.2.2.2.2.2.2.2.2.2.2.2.2.2.2.2.2.2.2.2.2.2.2.2.2.2.2.2.1 = y.2.2.2.2.2.2.2.2.2.2.2.2.2.2.2.2.2.2.2.2.2.2.2.2.2.2.2.2.2.2.2.1 ∧ oc.2.2.2.2.2.2.2.2.2.2.2.2.2.2.2.2.2.2.2.2.2.2.2.2.2.2.2.2.2.2.2.2.2.2.2.1 = y.2.2.2.2.2.2.2.2.2.2.2.2.2.2.2.2.2.2.2.2.2.2.2.2.2.2.2.2.2.2.2.2.2.2.1 ∧ oc.2.2.2.2.2.2.2.2.2.2.2.2.2.2.2.2.2.2.2.2.2.2.2.2.2.2.2.2.2.2.2.2.2.2.2.2.2.2.1 = y.2.2.2.2.2.2.2.2.2.2.2.2.2.2.2.2.2.2.2.2.2.2.2.2.2.2.2.2.2.2.2.2.2.2.2.2.2.1 ∧ oc.2.2.2.2.2.2.2.2.2.2.2.2.2.2.2.2.2.2.2.2.2.2.2.2.2.2.2.2.2.2.2.2.2.2.2.2.2.2.2 = y.2.2.2.2.2.2.2.2.2.2.2.2.2.2.2.2.2.2.2.2.2.2.2.2.2.2.2.2.2.2.2.2.2.2.2.2.2.2 := by
  rw [fPB_pack, h, Option.bind_some]
  exact ⟨_, rfl, rfl, rfl, rfl, rfl, rfl, rfl, rfl⟩
theorem u_pack {N n : Nat} {f g heads before tc sc dc osl sh W S PC DC odl osn osb odn odb hl hc hi hcl hcn hcb rep fsl fdl cells fsb fdb hM bM tm cM lens wM pM yM line fewC run rest fewL ownL ownF prod fi fewN nums : Nat → Int32} {bl bd : Int32} (hN : 70000 ≤ N) (hn : n ≤ 65536) (hfg : rowEq n f g) (h3 : ∀ x, x < 288 → fsl x = nI (FL x)) (h4 : ∀ x, x < 32 → fdl x = nI (FD x)) (h5 : codeT 288 FL fsb) (h6 : codeT 32 FD fdb) :
    ∃ oc om k, fPB_pack N bl bd heads (nI n) f before tc sc dc 286 osl sh W S PC DC 30 odl osn 286 osb odn 30 odb hl hc hi 19 hcl hcn 19 hcb rep 288 fsl 32 fdl cells 288 fsb 32 fdb = some oc ∧ fMo_pack N (nI n) hM g bM tm cM lens wM pM yM line fewC run rest fewL ownL ownF prod fi fewN nums = some om ∧ oc.1 = nI k ∧ oc.2.2.2.2.2.2.2.2.2.2.2.2.2.2.2.2.2.2.2.2.2.2.2.2.2.2.2.2.2.2.2.2.2.2.2.2.2.2.1 = nI k ∧ om.1 = nI k ∧ om.2.1 = 0 ∧ om.2.2.1 = nI k ∧ PKD k oc.2.2.2.2.2.2.2.2.2.2.2.2.2.2.2.2.2.2.2.2.2.2.2.2.2.2.2.2.2.2.2.2.2.2.2.1 oc.2.2.2.2.2.2.2.2.2.2.2.2.2.2.2.2.2.2.2.2.2.2.2.2.2.2.2.2.2.2.2.2.2.2.2.2.2.2.2 om.2.2.2.2.2.2.2.2.2.2.2.2.2.2.2.2.2.2.2.2.2.2.2.2.2.2.2.2.2.2.1 oc.2.2.2.2.2.2.2.2.2.2.2.2.2.2.1 oc.2.2.2.2.2.2.2.2.2.2.2.2.2.2.2.2.2.2.2.2.1 oc.2.2.2.2.2.2.2.2.2.2.2.2.2.2.2.2.2.2.2.2.2.2.2.2.2.2.2.2.2.2.2.2.1 om.2.2.2.2.2.2.2.2.2.2.2.2.2.2.2.2.2.2.2.2.2.2.2.2.2.2.2.2.1 om.2.2.2.2.2.2.2.2.2.2.2.2.2.2.2.2.2.2.2.2.2.2.2.2.2.2.2.2.2.1 om.2.2.2.2.2.2.2.2.1 om.2.2.2.2.2.2.2.2.2.1 om.2.2.2.2.2.2.2.2.2.2.1 om.2.2.2.2.2.2.2.2.2.2.2.1 om.2.2.2.2.2.2.2.2.2.2.2.2.1 om.2.2.2.2.2.2.2.2.2.2.2.2.2.1 := by
  obtain ⟨t, mc, bc, bl', bd', heads', before', tc', hM', bM', tm', Lf, Df, a1, a2, a3, a4, a5, a6⟩ := u_findTokens (N := N) (heads := heads) (before := before) (tc := tc) (hM := hM) (bM := bM) (tm := tm) (bl := bl) (bd := bd) hN hn hfg
  obtain ⟨sc', dc', b1, b2, b3⟩ := s_countSymbols (N := N) (sc := sc) (dc := dc) hN (by omega) a5
  obtain ⟨c', c1, c2, c3⟩ := s_Mo_count (N := N) (c := cM) hN (by omega) a5 a6
  obtain ⟨y6, d1, d2, d3⟩ := s_setFixed (N := N) (by omega) lens
  have d4 := s_bitsOf (N := N) (t := t) (Lf := Lf) (Df := Df) (L := FL) (D := FD) (lens := y6) hN (by omega) a5 a6 d2 d3
  obtain ⟨y3, y8, y9, y10, y15, e1, e2, e3, e4, e5, LS, LD, o, r, w, d, fw, Is, Im, LF, q1, q2, q3, q4, q5, q6, q7, q8, q9, q10, q11, q12, q13, q14⟩ := u_ownCodes (N := N) (t := t) (Lf := Lf) (Df := Df) (tc := tc') (tm := tm') (sc := sc') (dc := dc') (cM := c') (osl := osl) (sh := sh) (W := W) (S := S) (PC := PC) (DC := DC) (odl := odl) (osn := osn) (osb := osb) (odn := odn) (odb := odb) (hl := hl) (hc := hc) (hi := hi) (hcl := hcl) (hcn := hcn) (hcb := hcb) (wM := wM) (lens := y6) (pM := pM) (yM := yM) (line := line) (fewC := fewC) (run := run) (rest := rest) (fewL := fewL) (by omega) (by omega) a5 b2 b3 c2 c3
  have d5 := s_bitsOf (N := N) (t := t) (Lf := Lf) (Df := Df) (L := LS) (D := LD) (lens := y8.2.1) hN (by omega) a5 a6 o.2.2.1 o.2.2.2.1
  have d6 := s_pack_154 (N := N) (t := r) (few := y10.2.1) (LF := LF) (by omega) q10 (fun x hx => (q12 x hx).2.1) r N 0 (17 + 3 * fw + (sumL (tkb Lf Df LS LD) 0 t + LS 256)) (by omega) (by omega)
  obtain ⟨y32, g1, g2⟩ := s_pack_238 (N := N) (f := y8.2.1) 320 N 0 ownL (by omega) (by omega) (fun j hj => by omega)
  obtain ⟨y36, g3, g4⟩ := s_pack_265 (N := N) (f := y10.2.1) 19 N 0 ownF (by omega) (by omega) (fun j hj => by omega)
  obtain ⟨rep', r1, r2, r3, r4, r5, r6, r7⟩ := s_fillReport (N := N) (n := n) (t := t) (mc := mc) (fw := fw) (r := r) (Lf := Lf) (Df := Df) (L := LS) (D := LD) (Is := Is) (LF := LF) (tc := tc') (tm := tm') (sc := sc') (dc := dc') (rep := rep) (fsl := fsl) (fdl := fdl) (hc := y3.2.2.2.2.2.2.2.2.2.2.2.2.2.2.2.2.2.2.2.2.1) (hcl := y3.2.2.2.2.2.2.2.2.2.2.2.2.2.2.2.2.2.2.2.2.2.2.1) (osl := y3.2.2.2.2.1) (odl := y3.2.2.2.2.2.2.2.2.2.2.1) (by omega) hn (by omega) (by omega) a5 b2 b3 h3 h4 o.1 o.2.1 o.2.2.2.2.1 o.2.2.2.2.2.1 (by omega) (by omega) (fun q hq => (q10 q hq).1) q11 (fun x hx => (q12 x hx).1) (fun x hx => (q12 x hx).2.2)
  obtain ⟨k, ce, y57, w1, w2, w3, w4, w5, w6, w7⟩ := u_wr (N := N) (n := n) (t := t) (r := r) (w := w) (d := d) (fw := fw) (Lf := Lf) (Df := Df) (LS := LS) (LD := LD) (Is := Is) (Im := Im) (LF := LF) (f := f) (g := g) (tc := tc') (tm := tm') (fsl := fsl) (fsb := fsb) (fdl := fdl) (fdb := fdb) (lens := y8.2.1) (cells := cells) (prod := prod) (fi := fi) (fewN := fewN) (nums := nums) hN hn hfg (by omega) a5 a6 h3 h4 h5 h6 o q9 q10 q12 q13 q14 rfl
  have tF := tot_le (Lf := Lf) (Df := Df) (L := FL) (D := FD) (t := t) (by omega) (fun x => by have := FL_r x; omega) (fun x => by rw [FD]; omega)
  have tO := tot_le (Lf := Lf) (Df := Df) (L := LS) (D := LD) (t := t) (by omega) o.2.2.2.2.1 o.2.2.2.2.2.1
  have tH := sumB (w := fun q => LF (Is q) + rbits (Is q)) (B := 14) r 0 (fun i _ hi => by
    have := (q12 _ (q10 i (by omega)).1).2.2
    have : rbits (Is i) ≤ 7 := by rw [rbits]; split <;> (try split) <;> (try split) <;> omega
    show LF (Is i) + rbits (Is i) ≤ 14
    omega)
  have hb2 : nBl n ≤ 2 := by rw [nBl]; split <;> omega
  generalize sumL (tkb Lf Df FL FD) 0 t + FL 256 = F at *
  generalize sumL (tkb Lf Df LS LD) 0 t + LS 256 = O at *
  generalize sumL (fun q => LF (Is q) + rbits (Is q)) 0 r = H at *
  have eF : (3 : Int32) + nI F = nI (3 + F) := nI_add 3 F
  have eO1 : (17 : Int32) + (3 : Int32) * nI fw + nI O = nI (17 + 3 * fw + O) := by
    rw [show (17 : Int32) = nI 17 from rfl, show (3 : Int32) = nI 3 from rfl, nI_mul, nI_add, nI_add]
  have eO : 17 + 3 * fw + O + H = 3 + (14 + 3 * fw + H) + O := by omega
  have eS : (40 : Int32) * (if nI n = 0 then (1 : Int32) else (nI n + (65534 : Int32)) / (65535 : Int32)) + (8 : Int32) * nI n = nI (8 * (n + 5 * nBl n)) := by
    have : (if nI n = 0 then (1 : Int32) else (nI n + (65534 : Int32)) / (65535 : Int32)) = nI (nBl n) := by
      by_cases q : n = 0
      · subst q
        rw [if_pos (show nI 0 = 0 from rfl)]; rfl
      · rw [if_neg (show ¬ nI n = 0 from fun e => q ((nI_eq (show n < 2 ^ 31 by omega) (show 0 < 2 ^ 31 by omega)).mp e)), show (65534 : Int32) = nI 65534 from rfl, nI_add, show (65535 : Int32) = nI 65535 from rfl, nI_div (by omega) (by omega) (by omega), nBl]
        by_cases p : n ≤ 65535
        · rw [if_pos p, show (n + 65534) / 65535 = 1 by omega]
        · rw [if_neg p, show (n + 65534) / 65535 = 2 by omega]
    rw [this, show (40 : Int32) = nI 40 from rfl, show (8 : Int32) = nI 8 from rfl, nI_mul, nI_mul, nI_add]
    exact congrArg nI (by omega)
  have hst2 : 8 * (n + 5 * nBl n) < 2 ^ 31 := by omega
  generalize 8 * (n + 5 * nBl n) = st at *
  rw [eO] at d6
  have how : 3 + (14 + 3 * fw + H) + O < 2 ^ 31 := by omega
  generalize 3 + (14 + 3 * fw + H) + O = ow at *
  have hfx : 3 + F < 2 ^ 31 := by omega
  generalize 3 + F = fx at *
  have eK : (if nI fx < nI st then (if nI ow < nI fx then (2 : Int32) else (1 : Int32)) else (if nI ow < nI st then (if nI ow < nI fx then (2 : Int32) else (1 : Int32)) else (0 : Int32))) = nI (KD st fx ow) := by
    rw [KD]
    by_cases p : fx < st
    · rw [if_pos p, if_pos (nI_lt p hst2)]
      by_cases q : ow < fx
      · rw [if_pos q, if_pos (nI_lt q hfx)]; rfl
      · rw [if_neg q, if_neg (nI_nlt (by omega) how)]; rfl
    · rw [if_neg p, if_neg (nI_nlt (by omega) hfx)]
      by_cases q : ow < st
      · rw [if_pos q, if_pos (nI_lt q hst2), if_pos (nI_lt (by omega) hfx)]; rfl
      · rw [if_neg q, if_neg (nI_nlt (by omega) how)]; rfl
  rw [← q4] at r1
  rw [← q1, ← q2, ← q3, ← q4] at w3
  have E1 := mk_prod (N := N) (kd := KD st fx ow) (osl := osl) a1 b1 e1 r1 (KD_le st fx ow) r2 w1 w2 w3
  have E2 : fMo_pack N (nI n) hM g bM tm cM lens wM pM yM line fewC run rest fewL ownL ownF prod fi fewN nums = some (nI k, 0, nI k, nI (t + 1), y9.1, y9.2.1, y9.2.2.1, y15, nI (KD st fx ow), nI bc, nI mc, nI st, nI fx, nI ow, y57.1, hM', bM', tm', c', y57.2.1, y10.1, y10.2.2.1, y10.2.2.2, y9.2.2.2.1, y9.2.2.2.2.1, y9.2.2.2.2.2.1, y9.2.2.2.2.2.2, y10.2.1, y32, y36, y57.2.2.1, y57.2.2.2.1, y57.2.2.2.2.1, y57.2.2.2.2.2) := by
    rw [fMo_pack, a2, Option.bind_some, c1, Option.bind_some, d1, Option.bind_some, d4, Option.bind_some, e2, Option.bind_some, e3, Option.bind_some, e4, Option.bind_some, e5, Option.bind_some, d5, Option.bind_some, q5, q6, q7, q8, eO1, show fMo_pack_154 N (nI r) y9.2.2.2.2.2.1 y10.2.1 N (0 : Int32) (nI (17 + 3 * fw + O)) = _ from d6, Option.bind_some, show fMo_pack_238 N y8.2.1 N (0 : Int32) ownL = _ from g1, Option.bind_some, show fMo_pack_265 N y10.2.1 N (0 : Int32) ownF = _ from g3, Option.bind_some, eF, eS, eK, w4, Option.bind_some, w5]
  obtain ⟨y, hy, f1, f2, f3, f4, f5, f6⟩ : ∃ y, fPacker_makeProduct N bl bd heads (nI n) f before tc sc dc 286 osl sh W S PC DC 30 odl osn 286 osb odn 30 odb hl hc hi 19 hcl hcn 19 hcb rep 288 fsl 32 fdl cells 288 fsb 32 fdb = some y ∧ y.2.2.2.2.2.2.2.2.2.2.2.2.2.2.2.2.2.2.2.2.2.2.2.2.2.2.2.2.2.2.2.2.2.2.2.2.2.1 = nI k ∧ y.2.2.2.2.2.2.2.2.2.2.2.2.2.2.2.2.2.2.2.2.2.2.2.2.2.2.2.2.2.2.2.2.2.2.2.2.2.2 = ce ∧ y.2.2.2.2.2.2.2.2.2.2.2.2.2.2.2.2.2.2.2.2.2.2.2.2.2.2.2.2.2.2.2.2.2.2.1 = rep' ∧ y.2.2.2.2.2.2.2.2.2.2.2.2.2.1 = y3.2.2.2.2.1 ∧ y.2.2.2.2.2.2.2.2.2.2.2.2.2.2.2.2.2.2.2.1 = y3.2.2.2.2.2.2.2.2.2.2.1 ∧ y.2.2.2.2.2.2.2.2.2.2.2.2.2.2.2.2.2.2.2.2.2.2.2.2.2.2.2.2.2.2.2.1 = y3.2.2.2.2.2.2.2.2.2.2.2.2.2.2.2.2.2.2.2.2.2.2.1 := ⟨_, E1, rfl, rfl, rfl, rfl, rfl, rfl⟩
  obtain ⟨om, ho, g0, gz, gk, k1, k2, k3, k4, k5, k6, k7, k8, k9⟩ : ∃ om, fMo_pack N (nI n) hM g bM tm cM lens wM pM yM line fewC run rest fewL ownL ownF prod fi fewN nums = some om ∧ om.1 = nI k ∧ om.2.1 = 0 ∧ om.2.2.1 = nI k ∧ om.2.2.2.2.2.2.2.2.1 = nI (KD st fx ow) ∧ om.2.2.2.2.2.2.2.2.2.1 = nI bc ∧ om.2.2.2.2.2.2.2.2.2.2.1 = nI mc ∧ om.2.2.2.2.2.2.2.2.2.2.2.1 = nI st ∧ om.2.2.2.2.2.2.2.2.2.2.2.2.1 = nI fx ∧ om.2.2.2.2.2.2.2.2.2.2.2.2.2.1 = nI ow ∧ om.2.2.2.2.2.2.2.2.2.2.2.2.2.2.2.2.2.2.2.2.2.2.2.2.2.2.2.2.1 = y32 ∧ om.2.2.2.2.2.2.2.2.2.2.2.2.2.2.2.2.2.2.2.2.2.2.2.2.2.2.2.2.2.1 = y36 ∧ om.2.2.2.2.2.2.2.2.2.2.2.2.2.2.2.2.2.2.2.2.2.2.2.2.2.2.2.2.2.2.1 = y57.2.2.1 := ⟨_, E2, rfl, rfl, rfl, rfl, rfl, rfl, rfl, rfl, rfl, rfl, rfl, rfl⟩
  obtain ⟨oc, hoc, c0, c14, c20, c32, c35, c38, c39⟩ := pb_pack hy
  refine ⟨oc, om, k, hoc, ho, by rw [c0, f1], by rw [c38, f1], g0, gz, gk, ?_⟩
  rw [c35, c39, c14, c20, c32, f2, f3, f4, f5, f6, k1, k2, k3, k4, k5, k6, k7, k8, k9]
  refine ⟨w6, w7, r2, ?_, r4, r5, r6, r7, ?_, ?_, ?_⟩
  · rw [r3]
    exact congrArg nI (by omega)
  · intro x hx
    rw [o.1 x hx, g2 x (by omega), o.2.2.1 x (by omega)]
  · intro x hx
    rw [o.2.1 x hx, g2 _ (by omega), o.2.2.2.1 x (by omega)]
  · intro x hx
    rw [(q12 x hx).1, g4 x hx, (q12 x hx).2.1]
