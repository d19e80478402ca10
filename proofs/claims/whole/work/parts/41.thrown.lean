/-! A call of a method that throws, at the caller's frame: the walk goes on with the note 'q is being thrown' over it. -/
section XXC
variable {p : Program} {l : Launch} {e : Env} {R : Room} {s : State} {m : MethodId} {args : Array Value} {below : List Frame} {meth : Method} {c : Code} {T : State} {H : Heap} {locs : List Loc} {cells slots : Nat}
theorem xx_callX {y : MethodName} {bytes : ByteArray} {maxL mc ms n index : Nat} {ret : Option FieldType} {ws : List Cond} {rm : Room} {Pc : Array Value → State → Prop} {XE : String → Prop} {free : Addr → Prop} {own C : String} {b : Addr} {As rest : List Value} {g : JFrame}
    (X : Stand p l e R s m args below meth c T locs cells slots) (hT : T.heap = H) (hexec : p.tables.exec = Jvm.exec) (hown : s.vm.findClass own = some m.cls)
    (hM : xx_Met l y ws rm Pc (fun _ _ _ _ => False) XE mc ms free) (cw : CallW R s args own C index y bytes maxL ret ws rm mc ms n) (hp : PreV s H C b Pc As)
    (hg : g.method = m) (hn : As.length = n) (hsize : g.locals.size = c.maxLocals) (hstack : g.stack = As.reverse ++ .ref b :: rest) (hW : 2 * g.monitorRoom + (rest.map fun v => v.category).sum ≤ 8) (hdg : decode c.code g.pc = .ok (.invokevirtual index, 3)) (hf : cells + mc ≤ R.cells ∧ slots + ms ≤ R.slots) :
    ∃ (q : Addr) (E : String) (ce : Cell) (T' : State), XE E ∧ T'.heap[q]? = some ce ∧ ce.vm = .none ∧ s.vm.findClass E = some ce.cls ∧ Stand p l e R s m args below meth c T' locs (cells + mc) (slots + ms) ∧
      H.size ≤ T'.heap.size ∧ (∀ a : Nat, a < H.size → T'.heap[a]? = H[a]?) ∧ Steps p.tables e below (T.setTop g) ((T'.setTop { g with stack := rest }).pushFrame (.throwing q)) := by
  obtain ⟨⟨hrc, hrs, hfr, hlo, hws, hcw, hcode, hini, hy, hlen, hl⟩, hin, hse⟩ := cw
  obtain ⟨hbl, ⟨cellB, hcB, hoB, hclB⟩, hPc⟩ := hp
  obtain ⟨mk, methM, hnamed, hmethM, hstM, habM⟩ := Cond.instanceMethod_spec hin
  obtain ⟨methM', cM, hmethM', -, -, -, -, -, -, hsigM⟩ := Cond.code_spec hnamed hcode
  cases hmethM.symm.trans hmethM'
  obtain ⟨c2, r2, m2, q1, q2, q3, q4, kP, hkP, hkPi⟩ := Cond.selects_spec hse
  cases hclB.symm.trans q1
  cases (State.methodFound?_of_named hnamed hy).symm.trans q2
  cases hnamed.symm.trans q3
  have hselP : selectMethod e.platform s.vm cellB.cls mk = .method mk := by rw [Launch.admits_selectMethod X.admits]; exact q4
  obtain ⟨vm₁, X₁, hstep₁⟩ := X.invokevirtual hexec hown hl hnamed hmethM hstM hkP hkPi hy (a := b) (cell := cellB) (by rw [hT]; exact hcB)
    (fun z h => by rw [h] at hoB; cases hoB) hselP hmethM habM hkP hkPi (g := g) hg (argsL := As) (rest := rest) (hn.trans (hlen _ hsigM)) hstack hdg
  obtain ⟨gg, hgg⟩ : ∃ z : JFrame, z = { g with stack := rest } := ⟨_, rfl⟩
  have ggm : gg.method = m := by rw [hgg]; exact hg
  have ggs : gg.locals.size = c.maxLocals := by rw [hgg]; exact hsize
  have ggd : decode c.code gg.pc = .ok (.invokevirtual index, 3) := by rw [hgg]; exact hdg
  have ggw : 2 * gg.monitorRoom + (gg.stack.map fun v => v.category).sum ≤ 8 := by rw [hgg]; exact hW
  obtain ⟨U, hU⟩ : ∃ z : State, z = T.setVm vm₁ := ⟨_, rfl⟩
  rw [← hU] at X₁
  have hUh : U.heap = H := by rw [hU]; exact hT
  obtain ⟨a, ha⟩ : ∃ z : Array Value, z = (Value.ref b :: As).toArray := ⟨_, rfl⟩
  have hnU : U.methodNamed? y = some mk := X₁.named hnamed
  obtain ⟨methY, cY, hmY, hcY, -, hlY, -, -, -, -⟩ := Cond.code_spec hnU (hws _ hcw a U X₁.warmed)
  obtain ⟨kY, hkY, -⟩ := className_of_methodNamed hnU
  have hiniU : (Cond.initialized y.cls).before a U = true := word_at X₁.warmed (Or.inl (by first | rfl | simp [Cond.onTables, Cond.keeps, Cond.steady])) hini
  have hinitY : kY.init = .initialized := Cond.initialized_spec (findClass_of_methodNamed hnU) hkY hiniU
  have h : At U gg.method c below := by rw [ggm]; exact X₁.here
  have happ : (headSpec ws rm).appliesLoose y e.platform (U.calling gg mk a) = true :=
    Spec.appliesLoose_calling (g := gg) h ggd hnU hkY hinitY
      (X₁.room_calling (g := gg) (R' := (headSpec ws rm).room) ggs hmY hcY hfr (by rw [hlY]; show 2 * gg.monitorRoom + (gg.stack.map fun v => v.category).sum + (maxL + 11) + rm.locals ≤ R.locals; omega) (by rw [show (headSpec ws rm).room.cells = mc from hrc]; exact hf.1) (by rw [show (headSpec ws rm).room.slots = ms from hrs]; exact hf.2)) (atoms_intro fun w hw => hws w hw _ _ X₁.warmed)
  obtain ⟨mid, hmid⟩ := h.above
  have hfrm : (U.setTop gg).frames = (.java gg :: mid) ++ below := by rw [State.frames_setTop' gg h.top, hmid]; rfl
  obtain ⟨o, s₂, hsteps, -, hend, hq⟩ := Steps.callFree hM p X₁.admits X₁.cas X₁.clock (acts := []) hfrm happ (hbl _ _ gg mk (by rw [ha]; exact hPc U hUh X₁.warmed)) trivial
  rcases hq with ⟨hF, -⟩ | ⟨q, rfl, E, ce, hXE, hce, hcv, hcl, hW₂, e2, r2, r3, r4, r5, r6⟩
  · exact hF.elim
  rw [State.frames_setTop' gg h.top] at hend
  have hf₂ : s₂.frames = .throwing q :: .java gg :: U.frames.tail := hend
  replace e2 : ({ s₂ with vm := (U.calling gg mk a).vm } : State) = { (U.calling gg mk a).setFrames s₂.frames with heap := s₂.heap, slotsUsed := s₂.slotsUsed } := e2
  have e3 : s₂ = ({ (U.calling gg mk a).setFrames s₂.frames with heap := s₂.heap, slotsUsed := s₂.slotsUsed } : State).setVm s₂.vm := by
    have : s₂ = ({ s₂ with vm := (U.calling gg mk a).vm } : State).setVm s₂.vm := rfl
    rw [e2] at this
    exact this
  have hW' : U.WarmedH s₂.vm := hW₂
  obtain ⟨g₀, hg0⟩ := Option.isSome_iff_exists.mp h.top
  obtain ⟨r, hr⟩ := State.topJava?_eq_some.mp hg0
  obtain ⟨T', hT'⟩ : ∃ z : State, z = (({ U with heap := s₂.heap, slotsUsed := s₂.slotsUsed } : State).setVm s₂.vm) := ⟨_, rfl⟩
  have hrT : T'.frames = .java g₀ :: r := by rw [hT']; exact hr
  have hs₂ : s₂ = (T'.setTop gg).pushFrame (.throwing q) := by
    refine e3.trans ?_
    rw [State.pushFrame, State.frames_setTop _ hrT, State.setTop_of_frames _ hrT, State.setFrames_setFrames, hf₂, State.calling_eq h.top, State.setFrames_setFrames, hr, hT']
    rfl
  have hsame : U.sameButNew ({ U with heap := s₂.heap, slotsUsed := s₂.slotsUsed } : State) [] mc ms := by
    refine ⟨?_, r2, r3, r4, r5, r6⟩
    obtain ⟨t, ht, -⟩ := State.frames_cons hr
    show ({ U with heap := s₂.heap, slotsUsed := s₂.slotsUsed } : State) = { U.setFrames U.frames with heap := s₂.heap, slotsUsed := s₂.slotsUsed }
    rw [State.setFrames_self ht]
  refine ⟨q, E, ce, T', hXE, by rw [hT']; exact hce, hcv, ?_, ?_, ?_, ?_, ?_⟩
  · rw [← X₁.warmed.alike.findClass E]
    exact hcl
  · rw [hT']
    have X' : Stand p l e R s m args below meth c (({ U with heap := s₂.heap, slotsUsed := s₂.slotsUsed } : State).setVm s₂.vm) (locs ++ []) (cells + mc) (slots + ms) :=
      ⟨X₁.admits, X₁.cas, X₁.clock, X₁.frames, X₁.room, X₁.hears, X₁.method, X₁.code, (X₁.here.setHeapUsed s₂.heap s₂.slotsUsed).setVm hW'.alike, X₁.tail, State.WarmedH.trans X₁.warmed hW', X₁.limits, X₁.bytes, X₁.same.trans (hsame.setVm s.vm)⟩
    rw [List.append_nil] at X'
    exact X'
  · rw [hT', ← hUh]
    exact r2
  · intro a0 h0
    have hc0 : H[a0]? = some H[a0] := Array.getElem?_eq_getElem h0
    obtain ⟨c', h1, h2, h3, h4⟩ := r6 a0 H[a0] (by show U.heap[a0]? = _; rw [hUh]; exact hc0)
    have hsl : c'.slots = H[a0].slots := Array.ext_getElem? (fun i => h4 i (by simp))
    have hcc : c' = H[a0] := h2.trans (by rw [hsl])
    rw [hT', hc0, ← hcc]
    exact h1
  · rw [← hgg, ← hs₂]
    exact hstep₁ _ fun acts => by rw [doInvoke_state, ← hU, ← hgg, ← ha]; exact hsteps
end XXC
