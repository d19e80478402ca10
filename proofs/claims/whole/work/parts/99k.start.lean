/-! The start: what the Statement gives, turned into the worlds' words; the law's walk; the claim. -/
def R_law : String := "PackedBytesLaw"
def lw_P (b : Addr) (xs : List Int32) (args : Array Value) (s : State) : Prop := args = #[.ref b] ∧ s.IntsAt b xs ∧ xs.length ≤ 3072 ∧ (Jvm.Cond.and given_1 narrow_1).before args s = true
def lw_Q (_ : Array Value) (s : State) (o : Outcome) (t : State) : Prop := o = .returned (some (.int 1)) ∧ Framed s o t [] 601024 7293034
def lw_Z (below : List Frame) (a : Array Value) (s : State) : State → Prop := fun t => ∃ o, t.status = .running ∧ Ended t below o ∧ lw_Q a s o t
/-- the law's own end, with 1 on the stack, nothing written that was there before, its room as the claim has it -/
theorem lw_ret {p : Program} {l : Launch} {e : Env} {s : State} {m : MethodId} {below : List Frame} {meth : Method} {c : Code} {b : Nat} (hx : p.tables.exec = Jvm.exec) (hb : c.code = code) (hr : meth.sig.returnType = ret) (hlocks : meth.locks = false) {pc : Nat} {H : Heap} {ls : Array Slot} (hdg : decode code pc = .ok (.ireturn, 1)) : W p l e room_1 s m #[Value.ref b] below meth c H [] 601024 7293034 (lw_Z below #[Value.ref b] s) (F0 m pc ls [.int 1]) := by
  intro T hT X
  obtain ⟨fs, hret, hrun, hended, hW, hframe⟩ := X.leave (v := some (.int 1)) (hlocks := hlocks) (fun h => by rw [hr] at h; cases h)
  have hmeth' : T.vm.method? m = some meth := X.method'
  refine ⟨T.setFrames fs, ?_, .returned (some (.int 1)), hrun, hended, rfl, ⟨_, rfl⟩, hW, hframe⟩
  jvm_step X.here [X.here.top, hx, hb, hdg, hmeth', hr, ret, narrow_b1]
  (try refine ⟨rfl, ?_⟩); (try refine ⟨rfl, ?_⟩)
  first | (intro acts; rw [hret _ acts rfl rfl rfl]) | rw [hret _ _ rfl rfl rfl]
  exact Steps.refl _
/-- what holds at the law's entry: the machine, the code, the tables' words (any of lw_tbl by 'hts w (by decide +kernel)'), the script of L ints xs at the cell b, what the Statement gives of the start (any of its parts by flat_of_before) -/
def lw_At (p : Program) (s : State) (m : MethodId) (meth : Method) (c : Code) (b L : Nat) (xs : Nat → Int32) : Prop :=
  p.tables.exec = Jvm.exec ∧ c.code = code ∧ meth.sig.returnType = ret ∧ c.maxLocals = 7 ∧ s.vm.findClass R_law = some m.cls ∧ (∀ w ∈ lw_tbl, w.before #[Value.ref b] s = true) ∧ va_X b L xs s s.heap ∧ b < s.heap.size ∧ meth.locks = false ∧ (Jvm.Cond.and given_1 narrow_1).before #[Value.ref b] s = true
theorem len_small {args : Array Value} {s : State} {t : Term} {y : Value} {a : Addr} {cell : Cell} (ht : t.eval args s none [] s = some (.ref a)) (harr : s.arrayAt? a = some cell) (h1 : (Term.length t).eval args s none [] s = some y) : cell.slots.size < 2 ^ 31 := by
  simp only [Term.eval, ht, harr, Option.bind_eq_bind, Option.bind_some] at h1
  by_cases hlt : cell.slots.size < 2147483648
  · exact hlt
  · simp [hlt] at h1
abbrev GN : Cond := Jvm.Cond.and given_1 narrow_1
theorem st_row {args : Array Value} {s : State} {C n : String} {A : Nat → Prop} {L : Nat} {f : Nat → Int32} (ha : (Cond.arrayOf (.static C n "[I") .int).before args s = true) (hlen : (Cond.eq (.length (.static C n "[I")) (.int (nI L))).before args s = true) (hL : L < 2 ^ 31) (hel : ∀ j, j < L → (Cond.eq (.elem (.static C n "[I") (.int (nI j))) (.int (f j))).before args s = true) (hl : (Cond.laysStatic C n "[I").before args s = true) (hini : (Cond.initialized C).before args s = true) (hA : ∀ a : Nat, a < s.heap.size → ¬ A a) : ∃ b, roS C n A b L f s := by
  obtain ⟨y, h1, h2⟩ := Cond.eq_one hlen
  obtain ⟨a, cell, ht, harr, hv⟩ := Term.length_spec h1
  obtain ⟨hcell, hun, -, -⟩ := State.arrayAt?_spec harr
  have hy : y = .int (nI L) := (Option.some.inj h2).symm
  have hsz : cell.slots.size < 2 ^ 31 := len_small ht harr h1
  have hsize : cell.slots.size = L := by
    rw [hy] at hv
    have e : nI L = nI cell.slots.size := Value.int.inj hv
    exact ((nI_eq hL hsz).mp e).symm
  have hof := (Cond.arrayOf_spec ha ht hcell)
  have hlt : a < s.heap.size := (Array.getElem?_eq_some_iff.mp hcell).1
  refine ⟨a, va_Zof hl hini ht hA, ⟨cell, hcell, hof.1, hun, hsize, fun j hj => ?_⟩, hlt, hA a hlt⟩
  obtain ⟨z, g1, g2⟩ := Cond.eq_one (hel j hj)
  have hz : z = .int (f j) := (Option.some.inj g2).symm
  obtain ⟨a', j', cell', k1, k2, k3, k4, k5⟩ := Term.elem_spec g1
  have ea : a' = a := Value.ref.inj (Option.some.inj (k1.symm.trans ht))
  have ej : j' = nI j := (Value.int.inj (Option.some.inj k2)).symm
  subst ea
  subst ej
  have ec : cell' = cell := Option.some.inj (k3.symm.trans harr)
  subst ec
  rw [nI_clamp (by omega), hz] at k5
  exact k5
theorem st_SL {args : Array Value} {s : State} {C n d : String} {A : Nat → Prop} (hl : (Cond.laysStatic C n d).before args s = true) (hini : (Cond.initialized C).before args s = true) (h : (Cond.isRef (.static C n d)).before args s = true) (hA : ∀ a : Nat, a < s.heap.size → ¬ A a) : xx_SL C n d A s s.heap := by
  obtain ⟨c, k, i, f, a, cell, h1, h2, h3, h4, h5, h6, h7, h8, h9⟩ := Cond.laysStatic_spec hl
  have key : ∀ v : Value, v.isRef = true → va_Z C n d v A s s.heap → xx_SL C n d A s s.heap := by
    intro v hv hz
    obtain ⟨c', k', i', f', a', cell', z1, z2, z3, z4, z5, z6, z7, z8⟩ := hz
    have e := Option.some.inj (z1.symm.trans h2)
    obtain ⟨rfl, rfl, rfl, rfl⟩ : c' = c ∧ k' = k ∧ i' = i ∧ f' = f := by
      injection e with e1 e2
      injection e2 with e2 e3
      injection e3 with e3 e4
      exact ⟨e1, e2, e3, e4⟩
    have ea : a' = a := Option.some.inj (z4.symm.trans h4)
    subst ea
    have ec : cell' = cell := Option.some.inj (z5.symm.trans h5)
    subst ec
    exact ⟨c', k', i', f', a', cell', v, h1, h2, h3, h4, h5, h6, h7, h8, h9, z8, z7, hv⟩
  rcases va_Zqof hl hini h hA with q | ⟨t, q⟩
  · exact key _ rfl q
  · exact key _ rfl q
theorem sm_LENGTH_FIRST : ∀ j, j < 29 → (Cond.eq (.elem (.static "PackedBytes" "LENGTH_FIRST" "[I") (.int (nI j))) (.int (S_LENGTH_FIRST j))) ∈ flatC GN := by decide +kernel
theorem sm_DISTANCE_FIRST : ∀ j, j < 30 → (Cond.eq (.elem (.static "PackedBytes" "DISTANCE_FIRST" "[I") (.int (nI j))) (.int (S_DISTANCE_FIRST j))) ∈ flatC GN := by decide +kernel
theorem sm_LENGTH_ORDER : ∀ j, j < 19 → (Cond.eq (.elem (.static "PackedBytes" "LENGTH_ORDER" "[I") (.int (nI j))) (.int (S_LENGTH_ORDER j))) ∈ flatC GN := by decide +kernel
theorem sm_LENGTH_BITS : ∀ j, j < 29 → (Cond.eq (.elem (.static "PackedBytes" "LENGTH_BITS" "[I") (.int (nI j))) (.int (S_LENGTH_BITS j))) ∈ flatC GN := by decide +kernel
theorem sm_DISTANCE_BITS : ∀ j, j < 30 → (Cond.eq (.elem (.static "PackedBytes" "DISTANCE_BITS" "[I") (.int (nI j))) (.int (S_DISTANCE_BITS j))) ∈ flatC GN := by decide +kernel
theorem sw_0 : (Cond.laysStatic "PackedBytes" "LENGTH_FIRST" "[I") ∈ lw_tbl := by decide +kernel
theorem sw_1 : (Cond.laysStatic "PackedBytes" "DISTANCE_FIRST" "[I") ∈ lw_tbl := by decide +kernel
theorem sw_2 : (Cond.laysStatic "PackedBytes" "LENGTH_ORDER" "[I") ∈ lw_tbl := by decide +kernel
theorem sw_3 : (Cond.laysStatic "PackedBytes" "LENGTH_BITS" "[I") ∈ lw_tbl := by decide +kernel
theorem sw_4 : (Cond.laysStatic "PackedBytes" "DISTANCE_BITS" "[I") ∈ lw_tbl := by decide +kernel
theorem sw_5 : (Cond.initialized "PackedBytes") ∈ lw_tbl := by decide +kernel
theorem sw_6 : (Cond.laysStatic Bundle.tN "UNASSIGNED_STACK" Bundle.steD) ∈ lw_tbl := by decide +kernel
theorem sw_7 : (Cond.laysStatic Bundle.tN "SUPPRESSED_SENTINEL" Bundle.listD) ∈ lw_tbl := by decide +kernel
theorem sw_8 : (Cond.initialized Bundle.tN) ∈ lw_tbl := by decide +kernel
theorem sw_9 : (Cond.arrayClass .byte) ∈ lw_tbl := by decide +kernel
theorem sw_10 : (Cond.arrayClass .int) ∈ lw_tbl := by decide +kernel
theorem sw_11 : (Cond.arrayClass .long) ∈ lw_tbl := by decide +kernel
theorem sw_12 : (Cond.instantiable R_BitSink 3) ∈ lw_tbl := by decide +kernel
theorem sw_13 : (Cond.instantiable R_BitSource 2) ∈ lw_tbl := by decide +kernel
theorem sw_14 : (Cond.instantiable R_Code 3) ∈ lw_tbl := by decide +kernel
theorem sw_15 : (Cond.instantiable R_Decoder 5) ∈ lw_tbl := by decide +kernel
theorem sw_16 : (Cond.instantiable R_Header 8) ∈ lw_tbl := by decide +kernel
theorem sw_17 : (Cond.instantiable R_Matcher 8) ∈ lw_tbl := by decide +kernel
theorem sw_18 : (Cond.instantiable R_Packer 13) ∈ lw_tbl := by decide +kernel
theorem sw_19 : (Cond.instantiable R_Row 2) ∈ lw_tbl := by decide +kernel
theorem sw_20 : (Cond.instantiable R_Trees 9) ∈ lw_tbl := by decide +kernel
theorem sw_21 : (Cond.instantiable R_Unpacker 13) ∈ lw_tbl := by decide +kernel
theorem sw_22 : (Cond.instantiable R_PB 6) ∈ lw_tbl := by decide +kernel
theorem sw_23 : (Cond.instantiable R_Mo 45) ∈ lw_tbl := by decide +kernel
theorem sn_0 : (Cond.arrayOf (.static "PackedBytes" "LENGTH_FIRST" "[I") .int) ∈ flatC GN := by decide +kernel
theorem sn_1 : (Cond.eq (.length (.static "PackedBytes" "LENGTH_FIRST" "[I")) (.int (nI 29))) ∈ flatC GN := by decide +kernel
theorem sn_2 : (Cond.arrayOf (.static "PackedBytes" "DISTANCE_FIRST" "[I") .int) ∈ flatC GN := by decide +kernel
theorem sn_3 : (Cond.eq (.length (.static "PackedBytes" "DISTANCE_FIRST" "[I")) (.int (nI 30))) ∈ flatC GN := by decide +kernel
theorem sn_4 : (Cond.arrayOf (.static "PackedBytes" "LENGTH_ORDER" "[I") .int) ∈ flatC GN := by decide +kernel
theorem sn_5 : (Cond.eq (.length (.static "PackedBytes" "LENGTH_ORDER" "[I")) (.int (nI 19))) ∈ flatC GN := by decide +kernel
theorem sn_6 : (Cond.arrayOf (.static "PackedBytes" "LENGTH_BITS" "[I") .int) ∈ flatC GN := by decide +kernel
theorem sn_7 : (Cond.eq (.length (.static "PackedBytes" "LENGTH_BITS" "[I")) (.int (nI 29))) ∈ flatC GN := by decide +kernel
theorem sn_8 : (Cond.arrayOf (.static "PackedBytes" "DISTANCE_BITS" "[I") .int) ∈ flatC GN := by decide +kernel
theorem sn_9 : (Cond.eq (.length (.static "PackedBytes" "DISTANCE_BITS" "[I")) (.int (nI 30))) ∈ flatC GN := by decide +kernel
theorem sn_10 : (Cond.isRef (.static Bundle.tN "UNASSIGNED_STACK" Bundle.steD)) ∈ flatC GN := by decide +kernel
theorem sn_11 : (Cond.isRef (.static Bundle.tN "SUPPRESSED_SENTINEL" Bundle.listD)) ∈ flatC GN := by decide +kernel
theorem sn_12 : (Cond.not (.castable "java/lang/IllegalStateException" "java/lang/IllegalArgumentException")) ∈ flatC GN := by decide +kernel
theorem sn_13 : (Cond.not (.castable "java/lang/IllegalArgumentException" "java/lang/IndexOutOfBoundsException")) ∈ flatC GN := by decide +kernel
theorem sc_in_tbl : ∀ w ∈ CWL, w ∈ lw_tbl := by decide +kernel
theorem st_in_tbl : ∀ q ∈ STL, Cond.stringRef R_PB q.1 q.2 ∈ lw_tbl := by decide +kernel
theorem CWL_on : ∀ w ∈ CWL, w.onTables = true := by decide +kernel
theorem NWL_on : ∀ w ∈ NWL, w.onTables = true := by decide +kernel
theorem st_XF {args : Array Value} {s : State} {A : Nat → Prop} (hts : ∀ w ∈ lw_tbl, w.before args s = true) (hgn : ∀ w ∈ flatC GN, w.before args s = true) (hA : ∀ a : Nat, a < s.heap.size → ¬ A a) (hpb : ∃ c, s.vm.findClass R_PB = some c) : XF A s := by
  obtain ⟨cur, hcur⟩ := hpb
  refine ⟨fun w hw => va_Nw.of (CWL_on w hw) (hts w (sc_in_tbl w hw)), st_SL (hts _ sw_6) (hts _ sw_8) (hgn _ sn_10) hA, st_SL (hts _ sw_7) (hts _ sw_8) (hgn _ sn_11) hA, fun q hq => ?_, va_Nc.of (hgn _ sn_12), va_Nc.of (hgn _ sn_13)⟩
  have h := hts _ (st_in_tbl q hq)
  obtain ⟨k, cf, i, a, -, -, -, -, -, he⟩ := Cond.stringRef_spec hcur h
  exact ⟨a, vk_R.of h he⟩
theorem st_K {args : Array Value} {s : State} (hts : ∀ w ∈ lw_tbl, w.before args s = true) : ∃ (dC : Nat → ClassId) (dI : Nat → Nat → Nat), (∀ (k : Nat) (q : vw_C), vwCl[k]? = some q → u_Kn s q.1 q.2.1 q.2.2 (dC k) (dI k)) ∧ ∃ cur, s.vm.findClass R_PB = some cur := by
  have htb : ∀ w ∈ TB, w.before args s = true := fun w hw => hts w (List.mem_filter.mp hw).1
  obtain ⟨c0, i0, K0⟩ := u_known (C := R_BitSink) (T := F_BitSink) (N := 3) (n := 3) htb in_BitSink (hts _ sw_12)
  obtain ⟨c1, i1, K1⟩ := u_known (C := R_BitSource) (T := F_BitSource) (N := 2) (n := 2) htb in_BitSource (hts _ sw_13)
  obtain ⟨c2, i2, K2⟩ := u_known (C := R_Code) (T := F_Code) (N := 3) (n := 3) htb in_Code (hts _ sw_14)
  obtain ⟨c3, i3, K3⟩ := u_known (C := R_Decoder) (T := F_Decoder) (N := 5) (n := 5) htb in_Decoder (hts _ sw_15)
  obtain ⟨c4, i4, K4⟩ := u_known (C := R_Header) (T := F_Header) (N := 8) (n := 8) htb in_Header (hts _ sw_16)
  obtain ⟨c5, i5, K5⟩ := u_known (C := R_Matcher) (T := F_Matcher) (N := 8) (n := 8) htb in_Matcher (hts _ sw_17)
  obtain ⟨c6, i6, K6⟩ := u_known (C := R_Packer) (T := F_Packer) (N := 13) (n := 13) htb in_Packer (hts _ sw_18)
  obtain ⟨c7, i7, K7⟩ := u_known (C := R_Row) (T := F_Row) (N := 2) (n := 2) htb in_Row (hts _ sw_19)
  obtain ⟨c8, i8, K8⟩ := u_known (C := R_Trees) (T := F_Trees) (N := 9) (n := 9) htb in_Trees (hts _ sw_20)
  obtain ⟨c9, i9, K9⟩ := u_known (C := R_Unpacker) (T := F_Unpacker) (N := 13) (n := 13) htb in_Unpacker (hts _ sw_21)
  obtain ⟨c10, i10, K10⟩ := u_known (C := R_PB) (T := F_PB) (N := 6) (n := 6) htb in_PB (hts _ sw_22)
  obtain ⟨c11, i11, K11⟩ := u_known (C := R_Mo) (T := F_Mo) (N := 45) (n := 45) htb in_Mo (hts _ sw_23)
  obtain ⟨cur, kC, hfc, -⟩ := Cond.instantiable_spec (hts _ sw_22)
  refine ⟨fun k => match k with | 0 => c0 | 1 => c1 | 2 => c2 | 3 => c3 | 4 => c4 | 5 => c5 | 6 => c6 | 7 => c7 | 8 => c8 | 9 => c9 | 10 => c10 | _ => c11, fun k => match k with | 0 => i0 | 1 => i1 | 2 => i2 | 3 => i3 | 4 => i4 | 5 => i5 | 6 => i6 | 7 => i7 | 8 => i8 | 9 => i9 | 10 => i10 | _ => i11, ?_, cur, hfc⟩
  intro k q hq
  match k, hq with
  | 0, hq => cases hq; exact K0
  | 1, hq => cases hq; exact K1
  | 2, hq => cases hq; exact K2
  | 3, hq => cases hq; exact K3
  | 4, hq => cases hq; exact K4
  | 5, hq => cases hq; exact K5
  | 6, hq => cases hq; exact K6
  | 7, hq => cases hq; exact K7
  | 8, hq => cases hq; exact K8
  | 9, hq => cases hq; exact K9
  | 10, hq => cases hq; exact K10
  | 11, hq => cases hq; exact K11
  | k + 12, hq => simp [vwCl] at hq
theorem st_arr {args : Array Value} {s : State} {ty : FieldType} (hp : refKind ty = false) (h : (Cond.arrayClass ty).before args s = true) : ∃ cA, ArrOfT s cA ty ∧ s.vm.findClass ("[" ++ ty.toString) = some cA := by
  obtain ⟨c, k, comp, h1, h2, h3⟩ := Cond.arrayClass_spec h
  exact ⟨c, fun n z => ⟨fun k h => (by cases h), k, h2, comp, h3⟩, h1⟩
set_option maxHeartbeats 4000000 in
set_option maxRecDepth 100000 in
theorem whole_start {p : Program} {e : Env} {s : State} {m : MethodId} {below : List Frame} {meth : Method} {c : Code} (l : Launch) (hl9 : l.stackTraces = false) {b L : Nat} {xs : Nat → Int32} (hL : L ≤ 3072) (C0 : lw_At p s m meth c b L xs) : W p l e room_1 s m #[Value.ref b] below meth c s.heap [] 0 0 (lw_Z below #[Value.ref b] s) (entryFrame m ([Value.ref b] : List Value).toArray 7) := by
  obtain ⟨hx, hb, hr, hml, hown, hts, hX, hbl, hlocks, hgv⟩ := id C0
  have hgn := flat_of_before GN hgv
  have hA : ∀ q : Nat, s.heap.size ≤ q → (fun q : Nat => s.heap.size ≤ q) q := fun _ h => h
  have hA2 : ∀ a : Nat, a < s.heap.size → ¬ (fun q : Nat => s.heap.size ≤ q) a := fun a h => Nat.not_le.mpr h
  obtain ⟨dC, dI, hKc, hpb⟩ := st_K hts
  obtain ⟨cB, kB1, kB2⟩ := st_arr (ty := .byte) rfl (hts _ sw_9)
  obtain ⟨cI, kI1, kI2⟩ := st_arr (ty := .int) rfl (hts _ sw_10)
  obtain ⟨cJ, kJ1, kJ2⟩ := st_arr (ty := .long) rfl (hts _ sw_11)
  have hK : va_K (dC, dI) vwCl [(cB, .byte), (cI, .int), (cJ, .long)] s := ⟨hKc, fun k q h => by
    match k, h with
    | 0, h => cases h; exact ⟨kB1, kB2⟩
    | 1, h => cases h; exact ⟨kI1, kI2⟩
    | 2, h => cases h; exact ⟨kJ1, kJ2⟩
    | k + 3, h => simp at h⟩
  have C : CX p s m #[Value.ref b] c b_La_law 7 R_La (fun q : Nat => s.heap.size ≤ q) (dC, dI) [(cB, .byte), (cI, .int), (cJ, .long)] := ⟨hx, hb, hml, hown, fun w hw => hts w (List.mem_filter.mp hw).1, hA, hK, fun w hw => va_Nw.of (NWL_on w hw) (hts w (NWL_in w hw))⟩
  obtain ⟨b_LENGTH_FIRST, ro_LENGTH_FIRST⟩ := st_row (C := "PackedBytes") (n := "LENGTH_FIRST") (L := 29) (f := S_LENGTH_FIRST) (hgn _ sn_0) (hgn _ sn_1) (by omega) (fun j hj => hgn _ (sm_LENGTH_FIRST j hj)) (hts _ sw_0) (hts _ sw_5) hA2
  obtain ⟨b_DISTANCE_FIRST, ro_DISTANCE_FIRST⟩ := st_row (C := "PackedBytes") (n := "DISTANCE_FIRST") (L := 30) (f := S_DISTANCE_FIRST) (hgn _ sn_2) (hgn _ sn_3) (by omega) (fun j hj => hgn _ (sm_DISTANCE_FIRST j hj)) (hts _ sw_1) (hts _ sw_5) hA2
  obtain ⟨b_LENGTH_ORDER, ro_LENGTH_ORDER⟩ := st_row (C := "PackedBytes") (n := "LENGTH_ORDER") (L := 19) (f := S_LENGTH_ORDER) (hgn _ sn_4) (hgn _ sn_5) (by omega) (fun j hj => hgn _ (sm_LENGTH_ORDER j hj)) (hts _ sw_2) (hts _ sw_5) hA2
  obtain ⟨b_LENGTH_BITS, ro_LENGTH_BITS⟩ := st_row (C := "PackedBytes") (n := "LENGTH_BITS") (L := 29) (f := S_LENGTH_BITS) (hgn _ sn_6) (hgn _ sn_7) (by omega) (fun j hj => hgn _ (sm_LENGTH_BITS j hj)) (hts _ sw_3) (hts _ sw_5) hA2
  obtain ⟨b_DISTANCE_BITS, ro_DISTANCE_BITS⟩ := st_row (C := "PackedBytes") (n := "DISTANCE_BITS") (L := 30) (f := S_DISTANCE_BITS) (hgn _ sn_8) (hgn _ sn_9) (by omega) (fun j hj => hgn _ (sm_DISTANCE_BITS j hj)) (hts _ sw_4) (hts _ sw_5) hA2
  have hXF := st_XF hts hgn hA2 hpb
  obtain ⟨y1, hy1, hI0⟩ := u_INV (N := 1000000) (by omega)
  have hS : va_S (fun q : Nat => s.heap.size ≤ q) s.heap s.heap [] := va_S.rf
  have hP : va_P (dC, dI) vwCl [] s.heap := fun k q h => by simp at h
  have hD : va_D (fun q : Nat => s.heap.size ≤ q) [] := ⟨fun i j p q h => by simp at h, fun k q h => by simp at h⟩
  have hl := lv_entry ([.ref b]) (n := 7) (Nat.le_of_ble_eq_true rfl)
  rw [lg_entry_eq]
  generalize (lg_sl ([.ref b]) ++ List.replicate (7 - (lg_sl ([.ref b])).length) Slot.unset).toArray = ls at hl ⊢
  have hl : lv_has ls 7 [(0, .ref b)] := hl
  have hs : L < 2 ^ 30 := by omega
  refine LT_open b cB cI cJ 1000000 C y1 hy1 () rfl s.heap [] ls hP hD hS hl ?_
  intro h_x h_m h_o h_x_row h_x_row_cells h_m_row h_x_packer h_x_packer_matcher h_x_packer_matcher_heads h_x_packer_matcher_before h_x_packer_matcher_tokens h_x_packer_symbolCounts h_x_packer_distanceCounts h_x_packer_ownSymbols h_x_packer_trees h_x_packer_ownSymbols_lengths h_x_packer_trees_shrunk h_x_packer_trees_weights h_x_packer_trees_leafSymbols h_x_packer_trees_parents h_x_packer_trees_depths h_x_packer_ownDistances h_x_packer_ownDistances_lengths h_x_packer_ownSymbols_next h_x_packer_ownSymbols_bits h_x_packer_ownDistances_next h_x_packer_ownDistances_bits h_x_packer_header h_x_packer_header_lengths h_x_packer_header_counts h_x_packer_header_items h_x_packer_header_code h_x_packer_header_code_lengths h_x_packer_header_code_next h_x_packer_header_code_bits h_x_packer_report h_x_packer_fixedSymbols h_x_packer_fixedSymbols_lengths h_x_packer_fixedDistances h_x_packer_fixedDistances_lengths h_x_packer_sink h_x_product h_x_product_cells h_x_packer_fixedSymbols_bits h_x_packer_fixedDistances_bits h_m_heads h_m_before h_m_token h_m_counts h_m_lengths h_m_weights h_m_parents h_m_symbols h_m_line h_m_fewCounts h_m_run h_m_rest h_m_fewLengths h_m_ownLengths h_m_ownFew h_m_product h_m_firsts h_m_fewNumbers h_m_numbers h_x_unpacker h_x_unpacked h_x_unpacker_source h_x_unpacked_cells h_x_unpacker_report h_x_unpacker_fixedSymbols h_x_unpacker_fixedSymbols_perLength h_x_unpacker_fixedSymbols_sorted h_x_unpacker_fixedDistances h_x_unpacker_fixedDistances_perLength h_x_unpacker_fixedDistances_sorted h_x_unpacker_codeLengths h_x_unpacker_lengthCode h_x_unpacker_lengthCode_perLength h_x_unpacker_lengthCode_starts h_x_unpacker_lengthCode_sorted h_x_unpacker_lengths h_x_unpacker_ownSymbols h_x_unpacker_ownSymbols_perLength h_x_unpacker_ownSymbols_starts h_x_unpacker_ownSymbols_sorted h_x_unpacker_ownDistances h_x_unpacker_ownDistances_perLength h_x_unpacker_ownDistances_starts h_x_unpacker_ownDistances_sorted h_m_many h_m_sorted h_m_fresh h_x_checkTable h_x_packer_fixedSymbols_next h_x_packer_fixedDistances_next h_x_unpacker_fixedSymbols_starts h_x_unpacker_fixedDistances_starts H locs ls hP hD hS hl
  refine LT_loop (h_x := h_x) (h_x_row := h_x_row) (h_x_product := h_x_product) (h_x_unpacked := h_x_unpacked) (h_x_packer := h_x_packer) (h_x_unpacker := h_x_unpacker) (h_x_checkTable := h_x_checkTable) (h_m := h_m) (h_m_row := h_m_row) (h_m_product := h_m_product) (h_m_token := h_m_token) (h_m_heads := h_m_heads) (h_m_before := h_m_before) (h_m_counts := h_m_counts) (h_m_lengths := h_m_lengths) (h_m_fewCounts := h_m_fewCounts) (h_m_fewLengths := h_m_fewLengths) (h_m_weights := h_m_weights) (h_m_parents := h_m_parents) (h_m_symbols := h_m_symbols) (h_m_numbers := h_m_numbers) (h_m_fewNumbers := h_m_fewNumbers) (h_m_firsts := h_m_firsts) (h_m_line := h_m_line) (h_m_run := h_m_run) (h_m_rest := h_m_rest) (h_m_ownLengths := h_m_ownLengths) (h_m_ownFew := h_m_ownFew) (h_m_fresh := h_m_fresh) (h_m_many := h_m_many) (h_m_sorted := h_m_sorted) (h_o := h_o) (h_x_row_cells := h_x_row_cells) (h_x_packer_sink := h_x_packer_sink) (h_x_packer_matcher := h_x_packer_matcher) (h_x_packer_trees := h_x_packer_trees) (h_x_packer_header := h_x_packer_header) (h_x_packer_symbolCounts := h_x_packer_symbolCounts) (h_x_packer_distanceCounts := h_x_packer_distanceCounts) (h_x_packer_ownSymbols := h_x_packer_ownSymbols) (h_x_packer_ownDistances := h_x_packer_ownDistances) (h_x_packer_fixedSymbols := h_x_packer_fixedSymbols) (h_x_packer_fixedDistances := h_x_packer_fixedDistances) (h_x_packer_report := h_x_packer_report) (h_x_packer_matcher_heads := h_x_packer_matcher_heads) (h_x_packer_matcher_before := h_x_packer_matcher_before) (h_x_packer_matcher_tokens := h_x_packer_matcher_tokens) (h_x_packer_ownSymbols_lengths := h_x_packer_ownSymbols_lengths) (h_x_packer_ownSymbols_bits := h_x_packer_ownSymbols_bits) (h_x_packer_ownSymbols_next := h_x_packer_ownSymbols_next) (h_x_packer_trees_weights := h_x_packer_trees_weights) (h_x_packer_trees_parents := h_x_packer_trees_parents) (h_x_packer_trees_depths := h_x_packer_trees_depths) (h_x_packer_trees_leafSymbols := h_x_packer_trees_leafSymbols) (h_x_packer_trees_shrunk := h_x_packer_trees_shrunk) (h_x_packer_ownDistances_lengths := h_x_packer_ownDistances_lengths) (h_x_packer_ownDistances_bits := h_x_packer_ownDistances_bits) (h_x_packer_ownDistances_next := h_x_packer_ownDistances_next) (h_x_packer_header_code := h_x_packer_header_code) (h_x_packer_header_counts := h_x_packer_header_counts) (h_x_packer_header_lengths := h_x_packer_header_lengths) (h_x_packer_header_items := h_x_packer_header_items) (h_x_packer_header_code_lengths := h_x_packer_header_code_lengths) (h_x_packer_header_code_bits := h_x_packer_header_code_bits) (h_x_packer_header_code_next := h_x_packer_header_code_next) (h_x_packer_fixedSymbols_lengths := h_x_packer_fixedSymbols_lengths) (h_x_packer_fixedSymbols_bits := h_x_packer_fixedSymbols_bits) (h_x_packer_fixedSymbols_next := h_x_packer_fixedSymbols_next) (h_x_packer_fixedDistances_lengths := h_x_packer_fixedDistances_lengths) (h_x_packer_fixedDistances_bits := h_x_packer_fixedDistances_bits) (h_x_packer_fixedDistances_next := h_x_packer_fixedDistances_next) (h_x_product_cells := h_x_product_cells) (h_x_unpacker_source := h_x_unpacker_source) (h_x_unpacker_fixedSymbols := h_x_unpacker_fixedSymbols) (h_x_unpacker_fixedDistances := h_x_unpacker_fixedDistances) (h_x_unpacker_ownSymbols := h_x_unpacker_ownSymbols) (h_x_unpacker_ownDistances := h_x_unpacker_ownDistances) (h_x_unpacker_lengthCode := h_x_unpacker_lengthCode) (h_x_unpacker_codeLengths := h_x_unpacker_codeLengths) (h_x_unpacker_lengths := h_x_unpacker_lengths) (h_x_unpacker_report := h_x_unpacker_report) (h_x_unpacked_cells := h_x_unpacked_cells) (h_x_unpacker_fixedSymbols_perLength := h_x_unpacker_fixedSymbols_perLength) (h_x_unpacker_fixedSymbols_starts := h_x_unpacker_fixedSymbols_starts) (h_x_unpacker_fixedSymbols_sorted := h_x_unpacker_fixedSymbols_sorted) (h_x_unpacker_fixedDistances_perLength := h_x_unpacker_fixedDistances_perLength) (h_x_unpacker_fixedDistances_starts := h_x_unpacker_fixedDistances_starts) (h_x_unpacker_fixedDistances_sorted := h_x_unpacker_fixedDistances_sorted) (h_x_unpacker_lengthCode_perLength := h_x_unpacker_lengthCode_perLength) (h_x_unpacker_lengthCode_starts := h_x_unpacker_lengthCode_starts) (h_x_unpacker_lengthCode_sorted := h_x_unpacker_lengthCode_sorted) (h_x_unpacker_ownSymbols_perLength := h_x_unpacker_ownSymbols_perLength) (h_x_unpacker_ownSymbols_starts := h_x_unpacker_ownSymbols_starts) (h_x_unpacker_ownSymbols_sorted := h_x_unpacker_ownSymbols_sorted) (h_x_unpacker_ownDistances_perLength := h_x_unpacker_ownDistances_perLength) (h_x_unpacker_ownDistances_starts := h_x_unpacker_ownDistances_starts) (h_x_unpacker_ownDistances_sorted := h_x_unpacker_ownDistances_sorted) (h_sc := b) (b_LENGTH_FIRST := b_LENGTH_FIRST) (b_DISTANCE_FIRST := b_DISTANCE_FIRST) (b_LENGTH_ORDER := b_LENGTH_ORDER) (b_LENGTH_BITS := b_LENGTH_BITS) (b_DISTANCE_BITS := b_DISTANCE_BITS) (cB := cB) (cI := cI) (cJ := cJ) (N := 1000000) (n_sc := L) (f_sc := xs) (Inv := INV) (m_112 := m_112 (by omega) hs) (m_196 := m_196 (by omega) hs) (m_232 := m_232 (by omega) hs) (m_280 := m_280 (by omega) hs) (m_293 := m_293 (by omega) hs) (m_341 := m_341 (by omega) hs) (m_354 := m_354 (by omega) hs) (m_410_0 := m_410_0 (by omega) hs) (m_410_1 := m_410_1 (by omega) hs) (m_410_2 := m_410_2 (by omega) hs) (m_410_g := m_410_g (by omega) hs) (m_478 := m_478 (by omega) hs) (m_534 := m_534 (by omega) hs) (m_590 := m_590 (by omega) hs) (m_614 := m_614 (by omega) hs) (m_627 := m_627 (by omega) hs) (m_683 := m_683 (by omega) hs) (C := C) (ro_h_sc := ⟨hX, hbl, hA2 b hbl⟩) (ro_b_LENGTH_FIRST := ro_LENGTH_FIRST) (ro_b_DISTANCE_FIRST := ro_DISTANCE_FIRST) (ro_b_LENGTH_ORDER := ro_LENGTH_ORDER) (ro_b_LENGTH_BITS := ro_LENGTH_BITS) (ro_b_DISTANCE_BITS := ro_DISTANCE_BITS) (hl9 := hl9) (hXF := hXF) (hn := hs) ?_ 512 0 99 749745 (LS0 y1) H locs ls (by omega) (by omega) (by omega) (by omega) hI0 hP hD hS hl
  intro a kc ks S H locs ls hkc hks hP hD hS hl
  refine lv_iconst (v := (1 : Int32)) hx hb d_La_law_703 (by decide) ?_
  refine va_forget (fun q hq => hS.2.2 q hq) ?_
  refine W.widen (k := 601024) (n := 7293034) hkc hks ?_
  exact lw_ret hx hb hr hlocks d_La_law_704
set_option maxHeartbeats 4000000 in
theorem lw_walk (l : Launch) (hl9 : l.stackTraces = false) (b : Addr) (xs : List Int32) : MetFree l x (headSpec (Jvm.Cond.code x code maxLocals ret :: tables_1) room_1) (lw_P b xs) (fun _ _ _ _ _ => True) lw_Q := by
  refine MetFree.of_bodyS (code := code) (maxLocals := maxLocals) (ret := ret) (by decide) ?_ ?_
  · intro args s m h hn
    obtain ⟨meth, c, h1, h2, h3, h4, h5, h6, -, -⟩ := Cond.code_spec hn (atoms_spec (ws := Jvm.Cond.code x code maxLocals ret :: tables_1) h _ List.mem_cons_self)
    exact ⟨meth, c, h1, h2, h3, h4, h5, h6⟩
  · intro p e s m args below meth c s₁ B hml0 hP _
    obtain ⟨rfl, hx, hbd, hgv⟩ := hP
    obtain ⟨scr, harrAt, hlist, hof, hsmall⟩ := hx
    obtain ⟨hcb, hkn, -, -⟩ := State.arrayAt?_spec harrAt
    have hown : s.vm.findClass R_law = some m.cls := findClass_of_methodNamed B.named
    have hts0 : ∀ c ∈ (Jvm.Cond.code x code maxLocals ret :: tables_1), c.before #[Value.ref b] s = true := atoms_spec (ws := Jvm.Cond.code x code maxLocals ret :: tables_1) B.pre
    have hts : ∀ w ∈ lw_tbl, w.before #[Value.ref b] s = true := k2_hts_sels lw_privs (fun w hw => hts0 w (List.mem_cons_of_mem _ hw)) lw_privs_ok
    have hml : c.maxLocals = 7 := B.maxLocals_eq (hts0 _ List.mem_cons_self)
    have X₀ : Stand p l e room_1 s m #[Value.ref b] below meth c s₁ [] 0 0 := Stand.of_body B
    have hh0 : s₁.heap = s.heap := by rw [B.state]; rfl
    have hsz : scr.slots.size = xs.length := by rw [← Array.length_toList, hlist, List.length_map]
    have hval : ∀ j : Nat, j < xs.length → scr.slots[j]? = some (.int (xs.getD j 0)) := fun j hj => by
      rw [← Array.getElem?_toList, hlist]
      simp [hj]
    have hbl : b < s.heap.size := (Array.getElem?_eq_some_iff.mp hcb).1
    have hX : va_X b xs.length (fun j => xs.getD j 0) s s.heap := ⟨scr, hcb, hof, hkn, hsz, hval⟩
    have K : W p l e room_1 s m #[Value.ref b] below meth c s₁.heap [] 0 0 (lw_Z below #[Value.ref b] s) (entryFrame m ([Value.ref b] : List Value).toArray 7) := by
      rw [hh0]
      exact whole_start l hl9 hbd ⟨B.exec, B.bytes, B.returns, hml, hown, hts, hX, hbl, B.notSynchronized, hgv⟩
    obtain ⟨t, a1, o, b1, b2, b3⟩ := K s₁ rfl X₀
    exact ⟨t, o, a1, b1, b2, b3⟩
theorem lw_pre_spec {args : Array Value} {s : State} (h : (Jvm.Cond.and given_1 narrow_1).before args s = true) (hr : rest_1_c.before args s = true) : ∃ (b : Addr) (xs : List Int32), lw_P b xs args s := by
  have hs := flat_of_before _ h
  have hq := flat_of_before _ hr
  have hc : (Cond.count 1).before args s = true := hs _ (by decide +kernel)
  have harr : (Cond.arrayOf (.arg 0) .int).before args s = true := hs _ (by decide +kernel)
  have hle : (Cond.le (.length (.arg 0)) (.int 3072)).before args s = true := hs _ (by decide +kernel)
  have hlen : (Cond.isInt (.length (.arg 0))).before args s = true := hq _ (by decide +kernel)
  have hall : (Cond.all (.arg 0) (.isInt (.elem (.arg 0) (.index 0)))).before args s = true := hq _ (by decide +kernel)
  obtain ⟨b, xs, hb, hx⟩ := State.ints_of_pre rfl harr hlen hall
  have hsm : xs.length < 2 ^ 31 := hx.choose_spec.2.2.2
  have hev : (Term.length (.arg 0)).eval args s none [] s = some (.int xs.length.toInt32) := hx.length_eval hb
  have hv := Cond.le_ints hev (show (Term.int 3072).eval args s none [] s = some (.int 3072) from rfl)
  have hd : xs.length.toInt32 ≤ 3072 := by
    simpa [Cond.before, Cond.holds, hv] using hle
  have hN : xs.length ≤ 3072 := (Int32.ofNat_le_ofNat hsm (by decide)).mp (show Int32.ofNat xs.length ≤ Int32.ofNat 3072 from hd)
  exact ⟨b, xs, Cond.one_arg hc (show args[0]? = some (.ref b) from hb), hx, hN, h⟩
theorem lw_comes (l : Launch) (hl9 : l.stackTraces = false) : Comes l x (Jvm.Cond.code x code maxLocals ret :: tables_1) room_1 (fun tb e args s => Calls_1 tb e args s ∧ rest_1 tb e args s ∧ Pre_1 tb e args s)
    (fun _ _ args s o t => lw_Q args s o t) := by
  intro p e ha hc hk s m args below hf hfit hheap happ hpre
  obtain ⟨b, xs, hP⟩ := lw_pre_spec hpre.2.2 hpre.2.1
  obtain ⟨k, o, h1, h2, h3, hQ⟩ := lw_walk l hl9 b xs p e ha hc hk s m args below hf ((Spec.applies_iff_loose hf).mp happ).1 hP trivial
  exact ⟨k, o, h1, h2, h3, hQ⟩
theorem lw_frame {s t : State} {o : Outcome} {args : Array Value} (h : Framed s o t [] 601024 7293034) :
    Framed s o t (fieldLocs frame_1_writes args s ++ arrayLocs frame_1_arrays args s ++ staticLocs frame_1_statics s) 601024 7293034 := h
theorem lw_limb (L : Cond) (hL : ∀ (args : Array Value) (s t : State), L.after args s (.returned (some (.int 1))) t = true) :
    ArmFor flags0 classFile x code maxLocals ret World_1 tables_1 room_1 Calls_1 rest_1 Pre_1
      (fun tb e a s o t => postC L tb e a s o t ∧ Framed s o t (fieldLocs frame_1_writes a s ++ arrayLocs frame_1_arrays a s ++ staticLocs frame_1_statics s) 601024 7293034) := by
  intro l hfl _ _ p e ha hc hk s m args below hf hfit hheap happ hpre
  have hl9 : l.stackTraces = false := by
    rw [Launch.stackTraces, hfl]
    decide +kernel
  obtain ⟨k, o, h1, h2, h3, rfl, hF⟩ := lw_comes l hl9 p e ha hc hk s m args below hf hfit hheap happ hpre
  exact ⟨k, _, h1, h2, h3, hL args s _, lw_frame hF⟩
theorem i_vc : Claimed_1_1 ∧ Claimed_1_2 := ⟨lw_limb limb_1_1 (fun args s t => by simp [limb_1_1, Cond.after, Cond.holds, Cond.value]), lw_limb limb_1_2 (fun args s t => Cond.after_iff.mpr (by
  first | (rw [show limb_1_2 = Cond.eq .result (.int 1) from rfl, Cond.eq_ints (x := 1) (y := 1) rfl rfl]; simp; done) | (simp [limb_1_2, Cond.value, Term.eval]; done)))⟩
