/-! What holds before every call, and every case keeps it. -/
def xROW (rc ml : Int32) (rf rg : Nat → Int32) : Prop := ∃ n, n ≤ 65536 ∧ rc = nI n ∧ ml = nI n ∧ rowEq n rf rg
def xPRO (pc ms : Int32) (pf pg : Nat → Int32) : Prop := ∃ k, k ≤ 65546 ∧ pc = nI k ∧ ms = nI k ∧ rowEq k pf pg
def xREP (rep osl odl hcl ownL ownF : Nat → Int32) (kind bytes mats stB fxB owB : Int32) : Prop := rep 0 = kind ∧ rep 1 = bytes ∧ rep 2 = mats ∧ rep 3 = stB ∧ rep 4 = fxB ∧ rep 5 = owB ∧ (∀ x, x < 286 → osl x = ownL x) ∧ (∀ x, x < 30 → odl x = ownL (288 + x)) ∧ ∀ x, x < 19 → hcl x = ownF x
def xBLM (rp : Nat → Int32) (fa pl tk0 : Int32) : Prop := rp 0 = fa ∧ rp 1 = pl ∧ rp 2 = tk0
def xCON (a1 a2 a3 a4 a5 a6 a7 a8 a9 a10 : Nat) (fsl fsb fdl fdb : Nat → Int32) (codes : Int32) (P S : Nat → Int32) (dcodes : Int32) (Q R T : Nat → Int32) : Prop := (a1 = 286 ∧ a2 = 286 ∧ a3 = 30 ∧ a4 = 30 ∧ a5 = 19 ∧ a6 = 19 ∧ a7 = 288 ∧ a8 = 288 ∧ a9 = 32 ∧ a10 = 32) ∧ (∀ x, x < 288 → fsl x = nI (FL x)) ∧ (∀ x, x < 32 → fdl x = nI (FD x)) ∧ codeT 288 FL fsb ∧ codeT 32 FD fdb ∧ tabC (cnt FL 288) (symT FL 288) codes P S ∧ tabC (cnt FD 32) (symT FD 32) dcodes Q R ∧ crcT T
def INV (S : PSt) : Prop := xROW S.v_x_row_count S.v_m_length S.f_x_row_cells S.f_m_row ∧ xPRO S.v_x_product_count S.v_m_size S.f_x_product_cells S.f_m_product ∧ xREP S.f_x_packer_report S.f_x_packer_ownSymbols_lengths S.f_x_packer_ownDistances_lengths S.f_x_packer_header_code_lengths S.f_m_ownLengths S.f_m_ownFew S.v_m_kind S.v_m_bytes S.v_m_matches S.v_m_storedBits S.v_m_fixedBits S.v_m_ownBits ∧ xBLM S.f_x_unpacker_report S.v_m_fault S.v_m_place S.v_m_taken ∧ xCON S.n_x_packer_ownSymbols_lengths S.n_x_packer_ownSymbols_bits S.n_x_packer_ownDistances_lengths S.n_x_packer_ownDistances_bits S.n_x_packer_header_code_lengths S.n_x_packer_header_code_bits S.n_x_packer_fixedSymbols_lengths S.n_x_packer_fixedSymbols_bits S.n_x_packer_fixedDistances_lengths S.n_x_packer_fixedDistances_bits S.f_x_packer_fixedSymbols_lengths S.f_x_packer_fixedSymbols_bits S.f_x_packer_fixedDistances_lengths S.f_x_packer_fixedDistances_bits S.v_x_unpacker_fixedSymbols_codes S.f_x_unpacker_fixedSymbols_perLength S.f_x_unpacker_fixedSymbols_sorted S.v_x_unpacker_fixedDistances_codes S.f_x_unpacker_fixedDistances_perLength S.f_x_unpacker_fixedDistances_sorted S.f_x_checkTable
theorem m_112 {N n_sc : Nat} {f_sc : Nat → Int32} (hN : 600000 ≤ N) (hs : n_sc < 2 ^ 30) : LM_112 INV N n_sc f_sc := by
  intro S a ha h
  obtain ⟨⟨n, h1, h2, h3, h4⟩, hP, hR, hB, hC⟩ := h
  obtain ⟨o, n', e1, e2, e3, e4, e5⟩ := kk_112 (N := N) (n_sc := n_sc) (a := a) (f_sc := f_sc) (by omega) hs ha h1 h4
  refine ⟨o, ?_, ⟨n', e2, e4, e3, e5⟩, hP, hR, hB, hC⟩
  show fLa_law_112 _ _ _ _ _ _ _ _ = _
  rw [h2, h3]
  exact e1
theorem m_196 {N n_sc : Nat} {f_sc : Nat → Int32} (hN : 600000 ≤ N) (hs : n_sc < 2 ^ 30) : LM_196 INV N n_sc f_sc := by
  intro S a ha h
  obtain ⟨⟨n, h1, h2, h3, h4⟩, hP, hR, hB, hC⟩ := h
  obtain ⟨o, n', e1, e2, e3, e4, e5⟩ := kk_196 (N := N) (n_sc := n_sc) (a := a) (f_sc := f_sc) hs ha h1 h4
  refine ⟨o, ?_, ⟨n', e2, e4, e3, e5⟩, hP, hR, hB, hC⟩
  show fLa_law_196 _ _ _ _ _ _ = _
  rw [h2, h3]
  exact e1
theorem m_232 {N n_sc : Nat} {f_sc : Nat → Int32} (hN : 600000 ≤ N) (hs : n_sc < 2 ^ 30) : LM_232 INV N n_sc f_sc := by
  intro S a ha h
  obtain ⟨⟨n, h1, h2, h3, h4⟩, hP, hR, hB, hC⟩ := h
  obtain ⟨o, n', e1, e2, e3, e4, e5⟩ := kk_232 (N := N) (n_sc := n_sc) (a := a) (f_sc := f_sc) (by omega) hs ha h1 h4
  refine ⟨o, ?_, ⟨n', e2, e4, e3, e5⟩, hP, hR, hB, hC⟩
  show fLa_law_232 _ _ _ _ _ _ _ _ = _
  rw [h2, h3]
  exact e1
theorem m_280 {N n_sc : Nat} {f_sc : Nat → Int32} (hN : 600000 ≤ N) (hs : n_sc < 2 ^ 30) : LM_280 INV N n_sc f_sc := by
  intro S a ha h
  obtain ⟨⟨n, h1, h2, h3, h4⟩, hP, hR, hB, hC⟩ := h
  obtain ⟨o, e1⟩ := kk_280 (N := N) (n := n)
  refine ⟨o, ?_, ⟨n, h1, h2, h3, h4⟩, hP, hR, hB, hC⟩
  show fLa_law_280 _ _ _ = _
  rw [h2, h3]
  exact e1
theorem m_293 {N n_sc : Nat} {f_sc : Nat → Int32} (hN : 600000 ≤ N) (hs : n_sc < 2 ^ 30) : LM_293 INV N n_sc f_sc := by
  intro S a ha h
  obtain ⟨⟨n, h1, h2, h3, h4⟩, hP, hR, hB, hC⟩ := h
  obtain ⟨o, e1, e2⟩ := kk_293 (N := N) (n_sc := n_sc) (a := a) (f_sc := f_sc) hs ha h1 h4
  refine ⟨o, ?_, ⟨n, h1, h2, h3, e2⟩, hP, hR, hB, hC⟩
  show fLa_law_293 _ _ _ _ _ _ _ _ = _
  rw [h2, h3]
  exact e1
theorem m_354 {N n_sc : Nat} {f_sc : Nat → Int32} (hN : 600000 ≤ N) (hs : n_sc < 2 ^ 30) : LM_354 INV N n_sc f_sc := by
  intro S a ha h
  obtain ⟨hA, hP, hR, hB, hC⟩ := h
  obtain ⟨o, e1⟩ := kk_354 (N := N) (n_sc := n_sc) (a := a) (f_sc := f_sc) (f_o := S.f_o) hs ha hR.1 hR.2.1 hR.2.2.1 hR.2.2.2.1 hR.2.2.2.2.1 hR.2.2.2.2.2.1
  exact ⟨o, e1, hA, hP, hR, hB, hC⟩
theorem m_534 {N n_sc : Nat} {f_sc : Nat → Int32} (hN : 600000 ≤ N) (hs : n_sc < 2 ^ 30) : LM_534 INV N n_sc f_sc := by
  intro S a ha h
  obtain ⟨hA, hP, hR, hB, hC⟩ := h
  obtain ⟨o, e1⟩ := kk_534 (N := N) (n_sc := n_sc) (a := a) (f_sc := f_sc) (f_o := S.f_o) hs ha hB.1 hB.2.1 hB.2.2
  exact ⟨o, e1, hA, hP, hR, hB, hC⟩
theorem m_590 {N n_sc : Nat} {f_sc : Nat → Int32} (hN : 600000 ≤ N) (hs : n_sc < 2 ^ 30) : LM_590 INV N n_sc f_sc := by
  intro S a ha h
  obtain ⟨⟨n, h1, h2, h3, h4⟩, ⟨k, g1, g2, g3, g4⟩, hR, hB, hC⟩ := h
  obtain ⟨o, n', e1, e2, e3, e4, e5⟩ := kk_590 (N := N) (by omega) h1 h4 g1 g4
  refine ⟨o, ?_, ⟨n', e2, e4, e3, e5⟩, ⟨k, g1, g2, g3, g4⟩, hR, hB, hC⟩
  show fLa_law_590 _ _ _ _ _ _ _ _ _ = _
  rw [h2, h3, g2, g3]
  exact e1
theorem m_614 {N n_sc : Nat} {f_sc : Nat → Int32} (hN : 600000 ≤ N) (hs : n_sc < 2 ^ 30) : LM_614 INV N n_sc f_sc := by
  intro S a ha h
  obtain ⟨hA, ⟨k, g1, g2, g3, g4⟩, hR, hB, hC⟩ := h
  obtain ⟨o, e1⟩ := kk_614 (N := N) (n := k)
  refine ⟨o, ?_, hA, ⟨k, g1, g2, g3, g4⟩, hR, hB, hC⟩
  show fLa_law_614 _ _ _ = _
  rw [g2, g3]
  exact e1
theorem m_627 {N n_sc : Nat} {f_sc : Nat → Int32} (hN : 600000 ≤ N) (hs : n_sc < 2 ^ 30) : LM_627 INV N n_sc f_sc := by
  intro S a ha h
  obtain ⟨hA, ⟨k, g1, g2, g3, g4⟩, hR, hB, hC⟩ := h
  obtain ⟨o, e1⟩ := kk_627 (N := N) (n_sc := n_sc) (a := a) (f_sc := f_sc) (f_o := S.f_o) hs ha g1 g4
  refine ⟨o, ?_, hA, ⟨k, g1, g2, g3, g4⟩, hR, hB, hC⟩
  show fLa_law_627 _ _ _ _ _ _ _ _ _ = _
  rw [g2, g3]
  exact e1
theorem m_683 {N n_sc : Nat} {f_sc : Nat → Int32} (hN : 600000 ≤ N) (hs : n_sc < 2 ^ 30) : LM_683 INV N n_sc f_sc := by
  intro S a ha h
  obtain ⟨⟨n, h1, h2, h3, h4⟩, hP, hR, hB, hC⟩ := h
  obtain ⟨o, e1⟩ := kk_683 (N := N) (by omega) h1 h4 hC.2.2.2.2.2.2.2
  refine ⟨o, ?_, ⟨n, h1, h2, h3, h4⟩, hP, hR, hB, hC⟩
  show fLa_law_683 _ _ _ _ _ _ = _
  rw [h2, h3]
  exact e1
theorem m_410_0 {N n_sc : Nat} {f_sc : Nat → Int32} (hN : 600000 ≤ N) (hs : n_sc < 2 ^ 30) : LM_410_0 INV N n_sc f_sc := by
  intro S a ha hk h
  obtain ⟨hA, hP, hR, hB, hC⟩ := h
  obtain ⟨o, e1⟩ := kk_410_0 (N := N) (n_sc := n_sc) (a := a) (f_sc := f_sc) (f_o := S.f_o) (oF := S.f_m_ownFew) hs ha hk hR.2.2.2.2.2.2.1
  refine ⟨o, ?_, hA, hP, hR, hB, hC⟩
  show fLa_law_410_0 _ _ _ _ _ _ _ _ _ = _
  rw [hC.1.1]
  exact e1
theorem m_410_1 {N n_sc : Nat} {f_sc : Nat → Int32} (hN : 600000 ≤ N) (hs : n_sc < 2 ^ 30) : LM_410_1 INV N n_sc f_sc := by
  intro S a ha hk h
  obtain ⟨hA, hP, hR, hB, hC⟩ := h
  obtain ⟨o, e1⟩ := kk_410_1 (N := N) (n_sc := n_sc) (a := a) (f_sc := f_sc) (f_o := S.f_o) (oF := S.f_m_ownFew) hs ha hk hR.2.2.2.2.2.2.2.1
  refine ⟨o, ?_, hA, hP, hR, hB, hC⟩
  show fLa_law_410_1 _ _ _ _ _ _ _ _ _ = _
  rw [hC.1.2.2.1]
  exact e1
theorem m_410_2 {N n_sc : Nat} {f_sc : Nat → Int32} (hN : 600000 ≤ N) (hs : n_sc < 2 ^ 30) : LM_410_2 INV N n_sc f_sc := by
  intro S a ha hk h
  obtain ⟨hA, hP, hR, hB, hC⟩ := h
  obtain ⟨o, e1⟩ := kk_410_2 (N := N) (n_sc := n_sc) (a := a) (f_sc := f_sc) (f_o := S.f_o) (oL := S.f_m_ownLengths) hs ha hk hR.2.2.2.2.2.2.2.2
  refine ⟨o, ?_, hA, hP, hR, hB, hC⟩
  show fLa_law_410_2 _ _ _ _ _ _ _ _ _ = _
  rw [hC.1.2.2.2.2.1]
  exact e1
theorem m_410_g {N n_sc : Nat} {f_sc : Nat → Int32} (hN : 600000 ≤ N) (hs : n_sc < 2 ^ 30) : LM_410_g INV N n_sc f_sc := by
  intro S a ha k0 k1 k2 h
  obtain ⟨hA, hP, hR, hB, hC⟩ := h
  obtain ⟨o, e1⟩ := kk_410_g (N := N) (n_sc := n_sc) (a := a) (f_sc := f_sc) (f_o := S.f_o) (oF := S.f_m_ownFew) (oL := S.f_m_ownLengths) hs ha k0 k1 k2
  exact ⟨o, e1, hA, hP, hR, hB, hC⟩
theorem m_478 {N n_sc : Nat} {f_sc : Nat → Int32} (hN : 600000 ≤ N) (hs : n_sc < 2 ^ 30) : LM_478 INV N n_sc f_sc := by
  intro S a ha h
  obtain ⟨⟨n, h1, h2, h3, h4⟩, ⟨k, g1, g2, g3, g4⟩, hR, hB, hC⟩ := h
  obtain ⟨o, k', e1, e2, e3, e4, e5, e6, e7, e8⟩ := kk_478 (N := N) (n_sc := n_sc) (a := a) (f_sc := f_sc) (f_o := S.f_o) (to := S.f_x_unpacked_cells) (cl := S.f_x_unpacker_codeLengths) (lcP := S.f_x_unpacker_lengthCode_perLength) (lcS := S.f_x_unpacker_lengthCode_starts) (lcT := S.f_x_unpacker_lengthCode_sorted) (len := S.f_x_unpacker_lengths) (oP := S.f_x_unpacker_ownSymbols_perLength) (oS := S.f_x_unpacker_ownSymbols_starts) (oT := S.f_x_unpacker_ownSymbols_sorted) (dP := S.f_x_unpacker_ownDistances_perLength) (dS := S.f_x_unpacker_ownDistances_starts) (dT := S.f_x_unpacker_ownDistances_sorted) (few := S.f_m_fewLengths) (M := S.f_m_many) (S2 := S.f_m_sorted) (line := S.f_m_line) (lens := S.f_m_lengths) (fr := S.f_m_fresh) (xl := S.v_x_unpacker_limit) (xb := S.v_x_unpacker_lastBlock) (xc := S.v_x_unpacked_count) (xp := S.v_x_unpacker_source_place) (lcc := S.v_x_unpacker_lengthCode_codes) (lcl := S.v_x_unpacker_lengthCode_left) (oc := S.v_x_unpacker_ownSymbols_codes) (ol := S.v_x_unpacker_ownSymbols_left) (dc0 := S.v_x_unpacker_ownDistances_codes) (dl := S.v_x_unpacker_ownDistances_left) (ps := S.v_m_pos) (tt := S.v_m_total) (ma := S.v_m_made) (lm := S.v_m_limit) hN hs ha h1 h4 hC.2.2.2.2.2.1 hC.2.2.2.2.2.2.1 g1 g4 hB.1 hB.2.1 hB.2.2
  refine ⟨o, ?_, ⟨n, h1, h2, h3, h4⟩, ⟨k', e2, e4, e3, e5⟩, hR, ⟨e6, e7, e8⟩, hC⟩
  rw [← h2, ← g2] at e1
  have h3' : S.v_x_row_count = S.v_m_length := h2.trans h3.symm
  have g3' : S.v_x_product_count = S.v_m_size := g2.trans g3.symm
  show fLa_law_478 N n_sc f_sc S.v_m_length S.v_m_size _ _ _ _ _ _ _ _ _ _ _ _ _ _ _ _ _ _ _ _ _ _ _ _ _ _ _ _ _ _ _ _ _ _ _ _ _ _ _ _ _ _ _ _ _ _ _ _ _ _ = _
  rw [← h3', ← g3']
  exact e1
theorem m_341 {N n_sc : Nat} {f_sc : Nat → Int32} (hN : 600000 ≤ N) (hs : n_sc < 2 ^ 30) : LM_341 INV N n_sc f_sc := by
  intro S a ha h
  obtain ⟨⟨n, h1, h2, h3, h4⟩, hP, hR, hB, ⟨⟨c1, c2, c3, c4, c5, c6, c7, c8, c9, c10⟩, k1, k2, k3, k4, k5⟩⟩ := h
  obtain ⟨o, k, e1, e2, e3, ⟨p1, p2, p3⟩⟩ := kk_341 (N := N) (n := n) (heads := S.f_x_packer_matcher_heads) (before := S.f_x_packer_matcher_before) (tc := S.f_x_packer_matcher_tokens) (sc := S.f_x_packer_symbolCounts) (dc := S.f_x_packer_distanceCounts) (osl := S.f_x_packer_ownSymbols_lengths) (sh := S.f_x_packer_trees_shrunk) (W := S.f_x_packer_trees_weights) (S := S.f_x_packer_trees_leafSymbols) (PC := S.f_x_packer_trees_parents) (DC := S.f_x_packer_trees_depths) (odl := S.f_x_packer_ownDistances_lengths) (osn := S.f_x_packer_ownSymbols_next) (osb := S.f_x_packer_ownSymbols_bits) (odn := S.f_x_packer_ownDistances_next) (odb := S.f_x_packer_ownDistances_bits) (hl := S.f_x_packer_header_lengths) (hc := S.f_x_packer_header_counts) (hi := S.f_x_packer_header_items) (hcl := S.f_x_packer_header_code_lengths) (hcn := S.f_x_packer_header_code_next) (hcb := S.f_x_packer_header_code_bits) (rep := S.f_x_packer_report) (cells := S.f_x_product_cells) (hM := S.f_m_heads) (bM := S.f_m_before) (tm := S.f_m_token) (cM := S.f_m_counts) (lens := S.f_m_lengths) (wM := S.f_m_weights) (pM := S.f_m_parents) (yM := S.f_m_symbols) (line := S.f_m_line) (fewC := S.f_m_fewCounts) (run := S.f_m_run) (rest := S.f_m_rest) (fewL := S.f_m_fewLengths) (ownL := S.f_m_ownLengths) (ownF := S.f_m_ownFew) (prod := S.f_m_product) (fi := S.f_m_firsts) (fewN := S.f_m_fewNumbers) (nums := S.f_m_numbers) (bl := S.v_x_packer_matcher_bestLength) (bd := S.v_x_packer_matcher_bestDistance) (by omega) h1 h4 k1 k2 k3 k4
  refine ⟨o, ?_, ⟨n, h1, h2, h3, h4⟩, ⟨k, p1, e3, e2, p2⟩, p3, hB, ⟨⟨c1, c2, c3, c4, c5, c6, c7, c8, c9, c10⟩, k1, k2, k3, k4, k5⟩⟩
  show fLa_law_341 N S.v_m_length S.v_x_row_count S.f_x_row_cells S.f_m_row _ _ _ _ _ _ _ S.n_x_packer_ownSymbols_lengths _ _ _ _ _ _ S.n_x_packer_ownDistances_lengths _ _ S.n_x_packer_ownSymbols_bits _ _ S.n_x_packer_ownDistances_bits _ _ _ _ S.n_x_packer_header_code_lengths _ _ S.n_x_packer_header_code_bits _ _ S.n_x_packer_fixedSymbols_lengths _ S.n_x_packer_fixedDistances_lengths _ _ S.n_x_packer_fixedSymbols_bits _ S.n_x_packer_fixedDistances_bits _ _ _ _ _ _ _ _ _ _ _ _ _ _ _ _ _ _ _ _ = _
  rw [h2, h3, c1, c2, c3, c4, c5, c6, c7, c8, c9, c10]
  exact e1
theorem u_INV {N : Nat} (hN : 300 ≤ N) : ∃ y1, fPB_init N = some y1 ∧ INV (LS0 y1) := by
  obtain ⟨y1, a1, a2, a3, a4, a5, a6, a7, a8⟩ := u_init hN
  refine ⟨y1, a1, ⟨0, by omega, rfl, rfl, fun j hj => by omega⟩, ⟨0, by omega, rfl, rfl, fun j hj => by omega⟩, ⟨rfl, rfl, rfl, rfl, rfl, rfl, fun _ _ => rfl, fun _ _ => rfl, fun _ _ => rfl⟩, ⟨rfl, rfl, rfl⟩, ⟨⟨rfl, rfl, rfl, rfl, rfl, rfl, rfl, rfl, rfl, rfl⟩, a2, a3, a4, a5, a6, a7, a8⟩⟩
