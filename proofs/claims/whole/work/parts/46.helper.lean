/-! Rows for the law's own helpers, which catch. -/
theorem xx_catchW {p : Program} {l : Launch} {e : Env} {R : Room} {s : State} {m : MethodId} {args : Array Value} {below : List Frame} {meth : Method} {c : Code} {H : Heap} {locs : List Loc} {cells slots : Nat} {Q : State → Prop}
    {y : MethodName} {bytes cc : ByteArray} {maxL nL mc ms n index pc : Nat} {ret : Option FieldType} {ws : List Cond} {rm : Room} {Pc : Array Value → State → Prop} {free : Addr → Prop} {own C E0 name : String} {b : Addr} {As rest st0 : List Value} {ls : Array Slot}
    (hexec : p.tables.exec = Jvm.exec) (hb : c.code = cc) (hml : c.maxLocals = nL) (hown : s.vm.findClass own = some m.cls)
    (hM : xx_Met l y ws rm Pc (fun _ _ _ _ => False) (fun E => E = E0) mc ms free) (cw : CallW R s args own C index y bytes maxL ret ws rm mc ms n) (hp : PreV s H C b Pc As)
    (hn : As.length = n) (hsize : ls.size = nL) (hst : st0 = As.reverse ++ .ref b :: rest) (hW : (rest.map fun v => v.category).sum ≤ 8) (hdg : decode cc pc = .ok (.invokevirtual index, 3)) (hf : cells + mc ≤ R.cells ∧ slots + ms ≤ R.slots)
    (pre : List ExceptionTableEntry) (x : ExceptionTableEntry) (suf : List ExceptionTableEntry) (hsplit : c.exceptionTable.toList = pre ++ x :: suf)
    (hpass : ∀ z ∈ pre, z.catchType ≠ 0 ∧ ∃ nm : String, (Cond.classLink own z.catchType nm).before args s = true ∧ va_Nc E0 nm s) (hx : covers x pc = true) (h0 : x.catchType ≠ 0)
    (hlink : (Cond.classLink own x.catchType name).before args s = true) (hcast : (Cond.castable E0 name).before args s = true)
    (kk : ∀ (q : Nat) (H1 : Heap), H.size ≤ H1.size → (∀ a : Nat, a < H.size → H1[a]? = H[a]?) → W p l e R s m args below meth c H1 locs (cells + mc) (slots + ms) Q (F0 m x.handlerPc ls [.ref q])) :
    W p l e R s m args below meth c H locs cells slots Q (F0 m pc ls st0) := by
  subst hst
  exact xx_catchV hexec hb hml hown hM cw hp hn hsize hW hdg hf pre x suf hsplit hpass hx h0 hlink hcast kk
theorem xx_keep {D : va_G} {cl : List vw_C} {ws : va_W} {A : Nat → Prop} {H0 H H1 : Heap} {locs : List Loc} (hP : va_P D cl ws H) (hS : va_S A H0 H locs) (hz : H.size ≤ H1.size) (hk : ∀ a : Nat, a < H.size → H1[a]? = H[a]?) : va_P D cl ws H1 ∧ va_S A H0 H1 locs :=
  ⟨hP.kept (fun k q h => hk q.1 ((hP k q h).lt)), Nat.le_trans hS.1 hz, fun q h1 h2 => (hk q (Nat.lt_of_lt_of_le h1 hS.1)).trans (hS.2.1 q h1 h2), hS.2.2⟩
theorem xx_tab : ∀ {l : List ExceptionTableEntry} {hh : List (Nat × Nat × Nat × Nat)}, l.map (fun h => (h.startPc, h.endPc, h.handlerPc, h.catchType)) = hh → l = hh.map (fun q => ⟨q.1, q.2.1, q.2.2.1, q.2.2.2⟩)
  | [], _, rfl => rfl
  | x :: t, _, rfl => by
    show x :: t = ⟨x.startPc, x.endPc, x.handlerPc, x.catchType⟩ :: _
    rw [← xx_tab (l := t) rfl]
theorem xx_table {p : Program} {l : Launch} {y : MethodName} {S : Spec} {cc bytes : ByteArray} {maxL maxL' : Nat} {ret ret' : Option FieldType} {e : Env} {s s₁ : State} {m : MethodId} {args : Array Value} {below : List Frame} {meth : Method} {c : Code} {hh : List (Nat × Nat × Nat × Nat)}
    (B : BodyLoose p l y S cc maxL ret e s m args below meth c s₁) (h : (Cond.codeWith y bytes maxL' ret' hh).before args s = true) : c.exceptionTable.toList = hh.map (fun q => ⟨q.1, q.2.1, q.2.2.1, q.2.2.2⟩) := by
  obtain ⟨m9, meth9, c9, hn9, h1, h2, -, -, h6, -⟩ := Cond.codeWith_spec h
  cases Option.some.inj (hn9.symm.trans B.named)
  cases Option.some.inj (h1.symm.trans B.method)
  cases Option.some.inj (h2.symm.trans (Stand.of_body B).code)
  exact xx_tab h6
