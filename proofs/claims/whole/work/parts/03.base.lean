/-! Words of this claim's own rows: names for what the machine computes, and small lemmas for the printed walks. -/
/-- a logical shift to the right, as iushr does it -/
def jus (x y : Int32) : Int32 := (x.toUInt32 >>> (y.toUInt32 &&& Int32.toUInt32 31)).toInt32
def jlus (x : Int64) (y : Int32) : Int64 := (x.toUInt64 >>> (y.toInt64.toUInt64 &&& Int64.toUInt64 63)).toInt64
/-- what a row of bytes holds, by any ints whose lowest bytes they are -/
def bf (f : Nat → Int32) : Nat → Int32 := fun j => (f j).toInt8.toInt32
theorem bf_upd (f : Nat → Int32) (k : Nat) (x : Int32) : upd (bf f) k (vp_nar .byte x) = bf (upd f k x) := by
  funext j
  rw [vp_nar_byte]
  by_cases h : j = k
  · simp [upd, bf, h]
  · simp [upd, bf, h]
theorem bf_cpy (f g : Nat → Int32) (sp dp n : Nat) : va_cpy (bf f) (bf g) sp dp n = bf (va_cpy f g sp dp n) := by
  funext j
  by_cases h : dp ≤ j ∧ j < dp + n
  · simp [va_cpy, bf, h]
  · simp [va_cpy, bf, h]
theorem bf_fit (f : Nat → Int32) (k : Nat) : fits .byte (.int (bf f k)) = true := pk_fb _
theorem bf_0 : bf (fun _ => 0) = fun _ => 0 := by
  funext j
  rfl
theorem na_b {n : Nat} (cA : ClassId) : vp_cell cA (n, .inl (bf (fun _ => 0))) = arrV cA n (fun _ => defaultValue .byte) := by
  rw [bf_0]
  rfl
def bI (b : Bool) : Int32 := if b then 1 else 0
theorem bI_nar (b : Bool) : narrow .boolean (.int (bI b)) = .int (bI b) := by
  cases b <;> rfl
theorem gd {c : Prop} [Decidable c] {α : Type} {x : Option α} {o : α} (h : (if c then x else none) = some o) : c ∧ x = some o := by
  by_cases hc : c
  · rw [if_pos hc] at h
    exact ⟨hc, h⟩
  · rw [if_neg hc] at h
    cases h
theorem ip_p {c : Prop} [Decidable c] {α : Type} {a b o : α} (hc : c) (h : (if c then a else b) = o) : a = o := by
  rw [if_pos hc] at h
  exact h
theorem ip_n {c : Prop} [Decidable c] {α : Type} {a b o : α} (hc : ¬ c) (h : (if c then a else b) = o) : b = o := by
  rw [if_neg hc] at h
  exact h
theorem bd {α β : Type} {x : Option α} {k : α → Option β} {o : β} (h : x.bind k = some o) : ∃ y, x = some y ∧ k y = some o := by
  cases x with
  | none => cases h
  | some y => exact ⟨y, rfl, h⟩
theorem se_l {α β γ : Type} {f : α → γ} {g : β → γ} {y : α} {o : γ} (h : Sum.elim f g (.inl y) = o) : f y = o := h
theorem se_r {α β γ : Type} {f : α → γ} {g : β → γ} {y : β} {o : γ} (h : Sum.elim f g (.inr y) = o) : g y = o := h
/-- the words on nest mates, of a state -/
def NW (U : State) : Prop := ∀ w ∈ NWL, va_Nw w U
def isNest : Cond → Bool
  | .fieldLinkNest .. => true
  | .methodLinkNest .. => true
  | _ => false
theorem NWL_nest : ∀ w ∈ NWL, isNest w = true := by decide +kernel
theorem NW_warm {s U : State} (hW : s.WarmedH U.vm) (h : NW s) : NW U := by
  intro w hw
  have hn := NWL_nest w hw
  have hz := h w hw
  cases w with
  | fieldLinkNest a i b n d h => exact va_Nw.warmF hW hz
  | methodLinkNest a i x h => exact va_Nw.warmM hW hz
  | _ => cases hn
theorem NW_same {u U : State} (h : u.vm = U.vm) (hN : NW u) : NW U := by
  intro w hw
  have hn := NWL_nest w hw
  have hz := hN w hw
  cases w with
  | fieldLinkNest a i b n d h9 => exact va_Nw.same rfl h hz
  | methodLinkNest a i x h9 => exact va_Nw.same rfl h hz
  | _ => cases hn
/-- what every stretch of a walk stands on -/
def CX (p : Program) (s : State) (m : MethodId) (args : Array Value) (c : Code) (cc : ByteArray) (nL : Nat) (own : String) (A : Nat → Prop) (D : va_G) (TY : List (ClassId × FieldType)) : Prop :=
  p.tables.exec = Jvm.exec ∧ c.code = cc ∧ c.maxLocals = nL ∧ s.vm.findClass own = some m.cls ∧ (∀ w ∈ TB, w.before args s = true) ∧ (∀ q : Nat, s.heap.size ≤ q → A q) ∧ va_K D vwCl TY s ∧ NW s
/-- a row that is only read: it is old, and lies outside of what may be written -/
def roX (A : Nat → Prop) (b n : Nat) (f : Nat → Int32) (U : State) : Prop := va_X b n f U U.heap ∧ b < U.heap.size ∧ ¬ A b
def roS (C nm : String) (A : Nat → Prop) (b n : Nat) (f : Nat → Int32) (U : State) : Prop := va_Z C nm "[I" (.ref b) A U U.heap ∧ roX A b n f U
theorem roX_call {A : Nat → Prop} {b n : Nat} {f : Nat → Int32} {s U : State} {H : Heap} {locs : List Loc} {wc : va_W} (h : roX A b n f s) (hS : va_S A s.heap H locs) (hF : ∀ q, va_A wc H.size q → A q) (hU : U.heap = H) (hvm : s.vm.Alike U.vm) : roX (va_A wc H.size) b n f U := by
  obtain ⟨h1, h2, h3⟩ := h
  refine ⟨?_, ?_, fun q => h3 (hF _ q)⟩
  · rw [hU]
    exact (h1.kept (hS.2.1 b h2 h3)).moved hvm
  · rw [hU]
    exact Nat.lt_of_lt_of_le h2 hS.1
theorem roS_call {C nm : String} {A : Nat → Prop} {b n : Nat} {f : Nat → Int32} {s U : State} {H : Heap} {locs : List Loc} {wc : va_W} (h : roS C nm A b n f s) (hS : va_S A s.heap H locs) (hF : ∀ q, va_A wc H.size q → A q) (hU : U.heap = H) (hvm : s.vm.Alike U.vm) : roS C nm (va_A wc H.size) b n f U := by
  refine ⟨?_, roX_call h.2 hS hF hU hvm⟩
  rw [hU]
  exact ((h.1.kept (fun a h1 h2 => hS.2.1 a h1 h2)).narrow hF).moved hvm
theorem roX_blind {A : Nat → Prop} {b n : Nat} {f : Nat → Int32} {U : State} {g : JFrame} {mk : MethodId} {a : Array Value} (h : roX A b n f U) : roX A b n f (U.calling g mk a) := ⟨va_X.moved (u := U) (U := U.calling g mk a) (Vm.Alike.refl U.vm) h.1, h.2⟩
theorem roS_blind {C nm : String} {A : Nat → Prop} {b n : Nat} {f : Nat → Int32} {U : State} {g : JFrame} {mk : MethodId} {a : Array Value} (h : roS C nm A b n f U) : roS C nm A b n f (U.calling g mk a) := ⟨va_Z.moved (u := U) (U := U.calling g mk a) (Vm.Alike.refl U.vm) h.1, roX_blind h.2⟩
theorem tyA_eq {D : va_G} {cl : List vw_C} {tys : List (ClassId × FieldType)} {s : State} {i j : Nat} {c1 c2 : ClassId} {ty : FieldType} (h : va_K D cl tys s) (h1 : tys[i]? = some (c1, ty)) (h2 : tys[j]? = some (c2, ty)) (hp : refKind ty = false) : c1 = c2 := by
  have a := (h.2 i _ h1).2
  have b := (h.2 j _ h2).2
  cases ty with
  | object C => cases hp
  | _ => exact Option.some.inj (a.symm.trans b)
theorem tyAB {D : va_G} {cl : List vw_C} {s : State} {cA cB cI cJ : ClassId} (h : va_K D cl ([(cB, .byte), (cI, .int), (cJ, .long)] ++ [(cA, .byte)]) s) : cA = cB := tyA_eq h (i := 3) (j := 0) rfl rfl rfl
theorem tyAI {D : va_G} {cl : List vw_C} {s : State} {cA cB cI cJ : ClassId} (h : va_K D cl ([(cB, .byte), (cI, .int), (cJ, .long)] ++ [(cA, .int)]) s) : cA = cI := tyA_eq h (i := 3) (j := 1) rfl rfl rfl
theorem tyAJ {D : va_G} {cl : List vw_C} {s : State} {cA cB cI cJ : ClassId} (h : va_K D cl ([(cB, .byte), (cI, .int), (cJ, .long)] ++ [(cA, .long)]) s) : cA = cJ := tyA_eq h (i := 3) (j := 2) rfl rfl rfl
/-- the class's written tables -/
def S_LENGTH_FIRST : Nat → Int32 := fun k => ([3, 4, 5, 6, 7, 8, 9, 10, 11, 13, 15, 17, 19, 23, 27, 31, 35, 43, 51, 59, 67, 83, 99, 115, 131, 163, 195, 227, 258] : List Int32).getD k 0
def S_LENGTH_BITS : Nat → Int32 := fun k => ([0, 0, 0, 0, 0, 0, 0, 0, 1, 1, 1, 1, 2, 2, 2, 2, 3, 3, 3, 3, 4, 4, 4, 4, 5, 5, 5, 5, 0] : List Int32).getD k 0
def S_DISTANCE_FIRST : Nat → Int32 := fun k => ([1, 2, 3, 4, 5, 7, 9, 13, 17, 25, 33, 49, 65, 97, 129, 193, 257, 385, 513, 769, 1025, 1537, 2049, 3073, 4097, 6145, 8193, 12289, 16385, 24577] : List Int32).getD k 0
def S_DISTANCE_BITS : Nat → Int32 := fun k => ([0, 0, 0, 0, 1, 1, 2, 2, 3, 3, 4, 4, 5, 5, 6, 6, 7, 7, 8, 8, 9, 9, 10, 10, 11, 11, 12, 12, 13, 13] : List Int32).getD k 0
def S_LENGTH_ORDER : Nat → Int32 := fun k => ([16, 17, 18, 0, 8, 7, 9, 6, 10, 5, 11, 4, 12, 3, 13, 2, 14, 1, 15] : List Int32).getD k 0
/-- two ways that only compute a number and meet again -/
theorem lv_tern {p : Program} {l : Launch} {e : Env} {R : Room} {s : State} {m : MethodId} {args : Array Value} {below : List Frame} {meth : Method} {c : Code} {H : Heap} {locs : List Loc} {cells slots : Nat} {Q : State → Prop} {pc J : Nat} {ls : Array Slot} {st0 rest : List Value} {cd : Prop} [Decidable cd] {a b : Int32}
    (hbr : (cd → W p l e R s m args below meth c H locs cells slots Q (F0 m J ls (.int a :: rest))) → (¬ cd → W p l e R s m args below meth c H locs cells slots Q (F0 m J ls (.int b :: rest))) → W p l e R s m args below meth c H locs cells slots Q (F0 m pc ls st0))
    (hk : W p l e R s m args below meth c H locs cells slots Q (F0 m J ls (.int (if cd then a else b) :: rest))) : W p l e R s m args below meth c H locs cells slots Q (F0 m pc ls st0) :=
  hbr (fun h => by rw [if_pos h] at hk; exact hk) (fun h => by rw [if_neg h] at hk; exact hk)
theorem bI_fit (b : Bool) : fits .boolean (.int (bI b)) = true := by
  cases b <;> rfl
theorem lv_ternB {p : Program} {l : Launch} {e : Env} {R : Room} {s : State} {m : MethodId} {args : Array Value} {below : List Frame} {meth : Method} {c : Code} {H : Heap} {locs : List Loc} {cells slots : Nat} {Q : State → Prop} {pc J : Nat} {ls : Array Slot} {st0 rest : List Value} {cd : Prop} [Decidable cd] {a b : Bool}
    (hbr : (cd → W p l e R s m args below meth c H locs cells slots Q (F0 m J ls (.int (bI a) :: rest))) → (¬ cd → W p l e R s m args below meth c H locs cells slots Q (F0 m J ls (.int (bI b) :: rest))) → W p l e R s m args below meth c H locs cells slots Q (F0 m pc ls st0))
    (hk : W p l e R s m args below meth c H locs cells slots Q (F0 m J ls (.int (bI (if cd then a else b)) :: rest))) : W p l e R s m args below meth c H locs cells slots Q (F0 m pc ls st0) :=
  hbr (fun h => by rw [if_pos h] at hk; exact hk) (fun h => by rw [if_neg h] at hk; exact hk)
