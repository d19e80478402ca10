/-! What throw new E("text") asks of the tables, and of the two statics of Throwable. -/
def CWL : List Cond := [Cond.declares (Bundle.initS "java/lang/RuntimeException"), Cond.declares (Bundle.initS "java/lang/Exception"), Cond.declares (Bundle.initS "java/lang/Throwable"), Cond.castable "java/lang/IllegalStateException" "java/lang/IllegalStateException", Cond.castable "java/lang/IllegalArgumentException" "java/lang/IllegalArgumentException", Cond.castable "java/lang/IndexOutOfBoundsException" "java/lang/IndexOutOfBoundsException"]
theorem cw_0 : Cond.declares (Bundle.initS "java/lang/RuntimeException") ∈ CWL := List.mem_of_getElem? (i := 0) rfl
theorem cw_1 : Cond.declares (Bundle.initS "java/lang/Exception") ∈ CWL := List.mem_of_getElem? (i := 1) rfl
theorem cw_2 : Cond.declares (Bundle.initS "java/lang/Throwable") ∈ CWL := List.mem_of_getElem? (i := 2) rfl
theorem cw_3 : Cond.castable "java/lang/IllegalStateException" "java/lang/IllegalStateException" ∈ CWL := List.mem_of_getElem? (i := 3) rfl
theorem cw_4 : Cond.castable "java/lang/IllegalArgumentException" "java/lang/IllegalArgumentException" ∈ CWL := List.mem_of_getElem? (i := 4) rfl
theorem cw_5 : Cond.castable "java/lang/IndexOutOfBoundsException" "java/lang/IndexOutOfBoundsException" ∈ CWL := List.mem_of_getElem? (i := 5) rfl
theorem CWL_in : ∀ w ∈ CWL, w ∈ lw_tbl := by decide +kernel
def isCD : Cond → Bool
  | .castable .. => true
  | .declares .. => true
  | _ => false
theorem CWL_cd : ∀ w ∈ CWL, isCD w = true := by decide +kernel
/-- the texts that the class throws with: where they stand, and what they are -/
def STL : List (Nat × String) := [(53, "more than 65536 bytes"), (64, "the row has not so many bytes"), (67, "nothing stands so far back"), (69, "n is not 0 .. 65536"), (77, "the row has no such byte"), (80, "b is not 0 .. 255"), (92, "what is not 0 .. 5"), (94, "table is not 0 .. 2"), (100, "the table has no such symbol"), (102, "limit is not 0 .. 65536"), (113, "what is not 0 .. 2"), (115, "the product has more than 65536 bytes"), (117, "the product has no such byte")]
/-- what throwing needs of a state beside the tables' words that keep -/
def XF (A : Nat → Prop) (U : State) : Prop := (∀ w ∈ CWL, va_Nw w U) ∧ xx_SL Bundle.tN "UNASSIGNED_STACK" Bundle.steD A U U.heap ∧ xx_SL Bundle.tN "SUPPRESSED_SENTINEL" Bundle.listD A U U.heap ∧ (∀ q ∈ STL, ∃ a, vk_R R_PB q.1 q.2 a U) ∧ va_Nc "java/lang/IllegalStateException" "java/lang/IllegalArgumentException" U ∧ va_Nc "java/lang/IllegalArgumentException" "java/lang/IndexOutOfBoundsException" U
theorem CW_warm {s U : State} (hW : s.WarmedH U.vm) (h : ∀ w ∈ CWL, va_Nw w s) : ∀ w ∈ CWL, va_Nw w U := by
  intro w hw
  have hn := CWL_cd w hw
  have hz := h w hw
  cases w with
  | castable a b => exact va_Nw.warmC hW hz
  | declares x => exact va_Nw.warmD hW hz
  | _ => cases hn
theorem CW_same {u U : State} (hv : u.vm = U.vm) (h : ∀ w ∈ CWL, va_Nw w u) : ∀ w ∈ CWL, va_Nw w U := by
  intro w hw
  have hn := CWL_cd w hw
  have hz := h w hw
  cases w with
  | castable a b => exact va_Nw.same rfl hv hz
  | declares x => exact va_Nw.same rfl hv hz
  | _ => cases hn
theorem XF_call {A : Nat → Prop} {s U : State} {H : Heap} {locs : List Loc} {wc : va_W} (h : XF A s) (hS : va_S A s.heap H locs) (hF : ∀ q, va_A wc H.size q → A q) (hU : U.heap = H) (hW : s.WarmedH U.vm) : XF (va_A wc H.size) U := by
  obtain ⟨h1, h2, h3, h4, h5, h6⟩ := h
  refine ⟨CW_warm hW h1, ?_, ?_, fun q hq => ?_, va_Nc.moved hW.alike h5, va_Nc.moved hW.alike h6⟩
  · rw [hU]
    exact ((h2.kept (fun a k1 k2 => hS.2.1 a k1 k2)).narrow hF).moved hW.alike
  · rw [hU]
    exact ((h3.kept (fun a k1 k2 => hS.2.1 a k1 k2)).narrow hF).moved hW.alike
  · obtain ⟨a, ha⟩ := h4 q hq
    exact ⟨a, ha.warm hW⟩
theorem XF_blind {A : Nat → Prop} {U : State} {g : JFrame} {mk : MethodId} {a : Array Value} (h : XF A U) : XF A (U.calling g mk a) := by
  obtain ⟨h1, h2, h3, h4, h5, h6⟩ := h
  refine ⟨CW_same (u := U) rfl h1, xx_SL.moved (u := U) (U := U.calling g mk a) (Vm.Alike.refl U.vm) h2, xx_SL.moved (u := U) (U := U.calling g mk a) (Vm.Alike.refl U.vm) h3, fun q hq => ?_, va_Nc.moved (u := U) (U := U.calling g mk a) (Vm.Alike.refl U.vm) h5, va_Nc.moved (u := U) (U := U.calling g mk a) (Vm.Alike.refl U.vm) h6⟩
  obtain ⟨b, hb⟩ := h4 q hq
  exact ⟨b, vk_R.same (u := U) rfl hb⟩
theorem xx_cs {args : Array Value} {s : State} {w : Cond} {B : List Cond} (h : w.before args s = true) (t : ∀ w ∈ B, w.before args s = true) : ∀ w' ∈ w :: B, w'.before args s = true := fun w' h' => (List.mem_cons.mp h').elim (fun e => by rw [e]; exact h) (t w')
theorem xx_nl {args : Array Value} {s : State} : ∀ w ∈ ([] : List Cond), w.before args s = true := fun _ h => nomatch h
theorem xx_ap {args : Array Value} {s : State} {B C : List Cond} (h : ∀ w ∈ B, w.before args s = true) (t : ∀ w ∈ C, w.before args s = true) : ∀ w ∈ B ++ C, w.before args s = true := fun w h' => (List.mem_append.mp h').elim (h w) (t w)
set_option maxRecDepth 20000 in
theorem at_ISE {A : Nat → Prop} {args : Array Value} {s : State} (ht : ∀ w ∈ TB, w.before args s = true) (hx : XF A s) : ∀ w ∈ Bundle.ownAtoms R_PB 55 "java/lang/IllegalStateException" ["java/lang/RuntimeException", "java/lang/Exception"], w.before args s = true :=
  xx_ap (xx_ap (xx_ap (xx_cs (ht _ (TB_1 14 rfl rfl)) (xx_cs (ht _ (TB_3 130 rfl rfl)) (xx_cs (ht _ (TB_3 139 rfl rfl)) (xx_cs (ht _ (TB_3 143 rfl rfl)) (xx_cs (ht _ (TB_3 146 rfl rfl)) (xx_cs (ht _ (TB_3 148 rfl rfl)) (xx_cs (ht _ (TB_3 131 rfl rfl)) (xx_cs (ht _ (TB_3 132 rfl rfl)) (xx_cs (ht _ (TB_1 28 rfl rfl)) (xx_cs (ht _ (TB_1 29 rfl rfl)) (xx_cs (ht _ (TB_3 133 rfl rfl)) (xx_cs (ht _ (TB_3 138 rfl rfl)) (xx_cs (ht _ (TB_3 144 rfl rfl)) (xx_cs (ht _ (TB_3 164 rfl rfl)) (xx_cs (ht _ (TB_3 120 rfl rfl)) (xx_cs (ht _ (TB_3 165 rfl rfl)) (xx_cs (ht _ (TB_3 122 rfl rfl)) (xx_cs (ht _ (TB_3 166 rfl rfl)) (xx_cs (ht _ (TB_3 124 rfl rfl)) (xx_cs (ht _ (TB_3 134 rfl rfl)) (xx_cs (hx.2.1.lays) (xx_cs (ht _ (TB_3 136 rfl rfl)) (xx_cs (hx.2.2.1.lays) (xx_cs (ht _ (TB_3 126 rfl rfl)) (xx_nl))))))))))))))))))))))))) (xx_cs (ht _ (TB_3 160 rfl rfl)) (xx_cs (ht _ (TB_3 161 rfl rfl)) (xx_cs (ht _ (TB_3 163 rfl rfl)) (xx_cs (ht _ (TB_3 126 rfl rfl)) (xx_nl)))))) (xx_ap (xx_cs (ht _ (TB_3 151 rfl rfl)) (xx_cs (ht _ (TB_3 152 rfl rfl)) (xx_cs (ht _ (TB_3 153 rfl rfl)) (xx_cs (ht _ (TB_3 154 rfl rfl)) (xx_cs (va_Nw.use rfl (hx.1 _ cw_0)) (xx_nl)))))) (xx_ap (xx_cs (ht _ (TB_3 154 rfl rfl)) (xx_cs (ht _ (TB_3 155 rfl rfl)) (xx_cs (ht _ (TB_3 156 rfl rfl)) (xx_cs (ht _ (TB_3 157 rfl rfl)) (xx_cs (va_Nw.use rfl (hx.1 _ cw_1)) (xx_nl)))))) (xx_cs (ht _ (TB_3 157 rfl rfl)) (xx_cs (ht _ (TB_3 158 rfl rfl)) (xx_cs (ht _ (TB_3 159 rfl rfl)) (xx_cs (ht _ (TB_3 160 rfl rfl)) (xx_cs (va_Nw.use rfl (hx.1 _ cw_2)) (xx_nl))))))))) (xx_cs (ht _ (TB_3 150 rfl rfl)) (xx_cs (ht _ (TB_3 109 rfl rfl)) (xx_cs (va_Nw.use rfl (hx.1 _ cw_3)) (xx_cs (ht _ (TB_3 117 rfl rfl)) (xx_cs (ht _ (TB_3 118 rfl rfl)) (xx_cs (ht _ (TB_3 119 rfl rfl)) (xx_cs (ht _ (TB_3 121 rfl rfl)) (xx_cs (ht _ (TB_3 123 rfl rfl)) (xx_cs (ht _ (TB_3 125 rfl rfl)) (xx_cs (hx.2.1.ref) (xx_cs (hx.2.2.1.ref) (xx_cs (ht _ (TB_3 129 rfl rfl)) (xx_cs (ht _ (TB_3 128 rfl rfl)) (xx_cs (ht _ (TB_3 127 rfl rfl)) (xx_nl)))))))))))))))
set_option maxRecDepth 20000 in
theorem at_IAE {A : Nat → Prop} {args : Array Value} {s : State} (ht : ∀ w ∈ TB, w.before args s = true) (hx : XF A s) : ∀ w ∈ Bundle.ownAtoms R_PB 66 "java/lang/IllegalArgumentException" ["java/lang/RuntimeException", "java/lang/Exception"], w.before args s = true :=
  xx_ap (xx_ap (xx_ap (xx_cs (ht _ (TB_1 14 rfl rfl)) (xx_cs (ht _ (TB_3 130 rfl rfl)) (xx_cs (ht _ (TB_3 139 rfl rfl)) (xx_cs (ht _ (TB_3 143 rfl rfl)) (xx_cs (ht _ (TB_3 146 rfl rfl)) (xx_cs (ht _ (TB_3 148 rfl rfl)) (xx_cs (ht _ (TB_3 131 rfl rfl)) (xx_cs (ht _ (TB_3 132 rfl rfl)) (xx_cs (ht _ (TB_1 28 rfl rfl)) (xx_cs (ht _ (TB_1 29 rfl rfl)) (xx_cs (ht _ (TB_3 133 rfl rfl)) (xx_cs (ht _ (TB_3 138 rfl rfl)) (xx_cs (ht _ (TB_3 144 rfl rfl)) (xx_cs (ht _ (TB_3 164 rfl rfl)) (xx_cs (ht _ (TB_3 120 rfl rfl)) (xx_cs (ht _ (TB_3 165 rfl rfl)) (xx_cs (ht _ (TB_3 122 rfl rfl)) (xx_cs (ht _ (TB_3 166 rfl rfl)) (xx_cs (ht _ (TB_3 124 rfl rfl)) (xx_cs (ht _ (TB_3 134 rfl rfl)) (xx_cs (hx.2.1.lays) (xx_cs (ht _ (TB_3 136 rfl rfl)) (xx_cs (hx.2.2.1.lays) (xx_cs (ht _ (TB_3 126 rfl rfl)) (xx_nl))))))))))))))))))))))))) (xx_cs (ht _ (TB_3 160 rfl rfl)) (xx_cs (ht _ (TB_3 161 rfl rfl)) (xx_cs (ht _ (TB_3 163 rfl rfl)) (xx_cs (ht _ (TB_3 126 rfl rfl)) (xx_nl)))))) (xx_ap (xx_cs (ht _ (TB_3 199 rfl rfl)) (xx_cs (ht _ (TB_3 200 rfl rfl)) (xx_cs (ht _ (TB_3 201 rfl rfl)) (xx_cs (ht _ (TB_3 154 rfl rfl)) (xx_cs (va_Nw.use rfl (hx.1 _ cw_0)) (xx_nl)))))) (xx_ap (xx_cs (ht _ (TB_3 154 rfl rfl)) (xx_cs (ht _ (TB_3 155 rfl rfl)) (xx_cs (ht _ (TB_3 156 rfl rfl)) (xx_cs (ht _ (TB_3 157 rfl rfl)) (xx_cs (va_Nw.use rfl (hx.1 _ cw_1)) (xx_nl)))))) (xx_cs (ht _ (TB_3 157 rfl rfl)) (xx_cs (ht _ (TB_3 158 rfl rfl)) (xx_cs (ht _ (TB_3 159 rfl rfl)) (xx_cs (ht _ (TB_3 160 rfl rfl)) (xx_cs (va_Nw.use rfl (hx.1 _ cw_2)) (xx_nl))))))))) (xx_cs (ht _ (TB_3 198 rfl rfl)) (xx_cs (ht _ (TB_3 189 rfl rfl)) (xx_cs (va_Nw.use rfl (hx.1 _ cw_4)) (xx_cs (ht _ (TB_3 191 rfl rfl)) (xx_cs (ht _ (TB_3 141 rfl rfl)) (xx_cs (ht _ (TB_3 192 rfl rfl)) (xx_cs (ht _ (TB_3 193 rfl rfl)) (xx_cs (ht _ (TB_3 194 rfl rfl)) (xx_cs (ht _ (TB_3 195 rfl rfl)) (xx_cs (hx.2.1.ref) (xx_cs (hx.2.2.1.ref) (xx_cs (ht _ (TB_3 129 rfl rfl)) (xx_cs (ht _ (TB_3 128 rfl rfl)) (xx_cs (ht _ (TB_3 196 rfl rfl)) (xx_nl)))))))))))))))
set_option maxRecDepth 20000 in
theorem at_IOB {A : Nat → Prop} {args : Array Value} {s : State} (ht : ∀ w ∈ TB, w.before args s = true) (hx : XF A s) : ∀ w ∈ Bundle.ownAtoms R_PB 79 "java/lang/IndexOutOfBoundsException" ["java/lang/RuntimeException", "java/lang/Exception"], w.before args s = true :=
  xx_ap (xx_ap (xx_ap (xx_cs (ht _ (TB_1 14 rfl rfl)) (xx_cs (ht _ (TB_3 130 rfl rfl)) (xx_cs (ht _ (TB_3 139 rfl rfl)) (xx_cs (ht _ (TB_3 143 rfl rfl)) (xx_cs (ht _ (TB_3 146 rfl rfl)) (xx_cs (ht _ (TB_3 148 rfl rfl)) (xx_cs (ht _ (TB_3 131 rfl rfl)) (xx_cs (ht _ (TB_3 132 rfl rfl)) (xx_cs (ht _ (TB_1 28 rfl rfl)) (xx_cs (ht _ (TB_1 29 rfl rfl)) (xx_cs (ht _ (TB_3 133 rfl rfl)) (xx_cs (ht _ (TB_3 138 rfl rfl)) (xx_cs (ht _ (TB_3 144 rfl rfl)) (xx_cs (ht _ (TB_3 164 rfl rfl)) (xx_cs (ht _ (TB_3 120 rfl rfl)) (xx_cs (ht _ (TB_3 165 rfl rfl)) (xx_cs (ht _ (TB_3 122 rfl rfl)) (xx_cs (ht _ (TB_3 166 rfl rfl)) (xx_cs (ht _ (TB_3 124 rfl rfl)) (xx_cs (ht _ (TB_3 134 rfl rfl)) (xx_cs (hx.2.1.lays) (xx_cs (ht _ (TB_3 136 rfl rfl)) (xx_cs (hx.2.2.1.lays) (xx_cs (ht _ (TB_3 126 rfl rfl)) (xx_nl))))))))))))))))))))))))) (xx_cs (ht _ (TB_3 160 rfl rfl)) (xx_cs (ht _ (TB_3 161 rfl rfl)) (xx_cs (ht _ (TB_3 163 rfl rfl)) (xx_cs (ht _ (TB_3 126 rfl rfl)) (xx_nl)))))) (xx_ap (xx_cs (ht _ (TB_3 237 rfl rfl)) (xx_cs (ht _ (TB_3 238 rfl rfl)) (xx_cs (ht _ (TB_3 239 rfl rfl)) (xx_cs (ht _ (TB_3 154 rfl rfl)) (xx_cs (va_Nw.use rfl (hx.1 _ cw_0)) (xx_nl)))))) (xx_ap (xx_cs (ht _ (TB_3 154 rfl rfl)) (xx_cs (ht _ (TB_3 155 rfl rfl)) (xx_cs (ht _ (TB_3 156 rfl rfl)) (xx_cs (ht _ (TB_3 157 rfl rfl)) (xx_cs (va_Nw.use rfl (hx.1 _ cw_1)) (xx_nl)))))) (xx_cs (ht _ (TB_3 157 rfl rfl)) (xx_cs (ht _ (TB_3 158 rfl rfl)) (xx_cs (ht _ (TB_3 159 rfl rfl)) (xx_cs (ht _ (TB_3 160 rfl rfl)) (xx_cs (va_Nw.use rfl (hx.1 _ cw_2)) (xx_nl))))))))) (xx_cs (ht _ (TB_3 236 rfl rfl)) (xx_cs (ht _ (TB_3 227 rfl rfl)) (xx_cs (va_Nw.use rfl (hx.1 _ cw_5)) (xx_cs (ht _ (TB_3 229 rfl rfl)) (xx_cs (ht _ (TB_3 142 rfl rfl)) (xx_cs (ht _ (TB_3 230 rfl rfl)) (xx_cs (ht _ (TB_3 231 rfl rfl)) (xx_cs (ht _ (TB_3 232 rfl rfl)) (xx_cs (ht _ (TB_3 233 rfl rfl)) (xx_cs (hx.2.1.ref) (xx_cs (hx.2.2.1.ref) (xx_cs (ht _ (TB_3 129 rfl rfl)) (xx_cs (ht _ (TB_3 128 rfl rfl)) (xx_cs (ht _ (TB_3 234 rfl rfl)) (xx_nl)))))))))))))))
