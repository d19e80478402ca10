/-! The caller's handlers: the search goes entry by entry, each entry's class may be linked only now. -/
section XXF
variable {Q : Handler → Pre} {E : CtlPost} {e : Env} {d : Bool} {acts : List Action} {f : JFrame} {a : Addr}
theorem xx_here {S : State} {x : ExceptionTableEntry} {t : List ExceptionTableEntry} {k : ClassId} {cell : Cell} (hx : covers x f.pc = true) (h0 : x.catchType ≠ 0) (hl : S.vm.ClassLinks e.platform f.method.cls x.catchType k)
    (hcell : S.heap[a]? = some cell) (hobj : ∀ z, cell.vm ≠ .statics z) (hk : ∃ z, S.vm.classes[cell.cls]? = some z) (hc : ∃ z, S.vm.classes[k]? = some z) :
    wp (findHandler.go f a (x :: t)) Q E e d acts S ↔ (if S.vm.assignable cell.cls k = true then Q (.found x.handlerPc) d acts (S.setVm (S.vm.noted f.method.cls x.catchType (.cls k))) else wp (findHandler.go f a t) Q E e d acts (S.setVm (S.vm.noted f.method.cls x.catchType (.cls k)))) := by
  simp only [covers] at hx
  obtain ⟨ha, ht⟩ := (resolveClass_links e.toSetting hl).op (op := VmOp.resolveClass f.method.cls x.catchType) rfl
  have al : S.vm.Alike (S.vm.noted f.method.cls x.catchType (.cls k)) := (Vm.Alike.refl S.vm).noted _ _ _
  obtain ⟨z1, hz1⟩ := hk
  obtain ⟨z2, hz2⟩ := hc
  obtain ⟨y1, hy1, -⟩ := al.2.2 _ _ hz1
  obtain ⟨y2, hy2, -⟩ := al.2.2 _ _ hz2
  by_cases hfit : S.vm.assignable cell.cls k = true
  · have hf' : (S.vm.noted f.method.cls x.catchType (.cls k)).assignable cell.cls k = true := by rw [al.assignable]; exact hfit
    rw [if_pos hfit]
    simp [findHandler.go, hx, h0, ha, ht, hcell, hobj, hy1, hy2, hf', VmOp.dirties, VmOp.acts]
  · have hf' : (S.vm.noted f.method.cls x.catchType (.cls k)).assignable cell.cls k = false := by rw [al.assignable]; simpa using hfit
    rw [if_neg hfit]
    simp [findHandler.go, hx, h0, ha, ht, hcell, hobj, hy1, hy2, hf', VmOp.dirties, VmOp.acts]
end XXF
/-- an entry that this exception passes by -/
def xx_By (pl : Platform) (s : State) (dc : ClassId) (pc : Nat) (k : ClassId) (y : ExceptionTableEntry) : Prop := covers y pc = false ∨ (y.catchType ≠ 0 ∧ ∃ c, s.vm.ClassLinks pl dc y.catchType c ∧ s.vm.assignable k c = false)
theorem xx_find {e : Env} {s : State} {f : JFrame} {a : Addr} {cell : Cell} {x : ExceptionTableEntry} {suf : List ExceptionTableEntry} {ck : ClassId} (hobj : ∀ z, cell.vm ≠ .statics z) (hk : ∃ z, s.vm.classes[cell.cls]? = some z) (hx : covers x f.pc = true) (h0 : x.catchType ≠ 0)
    (hl : s.vm.ClassLinks e.platform f.method.cls x.catchType ck) (hfit : s.vm.assignable cell.cls ck = true) : ∀ (pre : List ExceptionTableEntry) (S : State), s.WarmedH S.vm → S.heap[a]? = some cell → (∀ y ∈ pre, xx_By e.platform s f.method.cls f.pc cell.cls y) →
    ∃ vm', s.WarmedH vm' ∧ ∀ (Q : Handler → Pre) (E : CtlPost) (d : Bool) (acts : List Action), wp (findHandler.go f a (pre ++ x :: suf)) Q E e d acts S ↔ Q (.found x.handlerPc) d acts (S.setVm vm')
  | [], S, hW, hcell, _ => by
    obtain ⟨z, hz⟩ := hk
    obtain ⟨z', hz', -⟩ := hW.alike.2.2 _ _ hz
    obtain ⟨dk, _, _, kt, hd, _, _, _, _, hkt, _, hopen⟩ := hl.here
    obtain ⟨kt', hkt', -⟩ := hW.alike.2.2 _ _ hkt
    refine ⟨_, hW.noted hd hopen (State.rightAt_cls hl), fun Q E d acts => ?_⟩
    rw [List.nil_append, xx_here hx h0 (hW.classLinks hl) hcell hobj ⟨z', hz'⟩ ⟨kt', hkt'⟩, if_pos (by rw [hW.alike.assignable]; exact hfit)]
  | y :: ys, S, hW, hcell, hby => by
    have hr : ∀ z ∈ ys, xx_By e.platform s f.method.cls f.pc cell.cls z := fun z hz => hby z (List.mem_cons_of_mem _ hz)
    cases hcov : covers y f.pc with
    | false =>
      obtain ⟨vm', h1, h2⟩ := xx_find (suf := suf) hobj hk hx h0 hl hfit ys S hW hcell hr
      refine ⟨vm', h1, fun Q E d acts => ?_⟩
      rw [List.cons_append, W.findHandler_go_skip hcov]
      exact h2 Q E d acts
    | true =>
      rcases hby y List.mem_cons_self with h | ⟨hy0, c, hcl, hno⟩
      · rw [h] at hcov
        cases hcov
      · obtain ⟨z, hz⟩ := id hk
        obtain ⟨z', hz', -⟩ := hW.alike.2.2 _ _ hz
        obtain ⟨dk, _, _, kt, hd, _, _, _, _, hkt, _, hopen⟩ := hcl.here
        obtain ⟨kt', hkt', -⟩ := hW.alike.2.2 _ _ hkt
        obtain ⟨vm', h1, h2⟩ := xx_find (suf := suf) hobj hk hx h0 hl hfit ys (S.setVm (S.vm.noted f.method.cls y.catchType (.cls c))) (hW.noted hd hopen (State.rightAt_cls hcl)) hcell hr
        refine ⟨vm', h1, fun Q E d acts => ?_⟩
        rw [List.cons_append, xx_here hcov hy0 (hW.classLinks hcl) hcell hobj ⟨z', hz'⟩ ⟨kt', hkt'⟩, if_neg (by rw [hW.alike.assignable, hno]; decide)]
        exact h2 Q E d acts
/-- from the note over the frame into the handler -/
theorem xx_into {tb : Tables} {e : Env} {s : State} {g : JFrame} {meth : Method} {c : Code} {below : List Frame} {a : Addr} (h : At s g.method c below) (hm : s.vm.method? g.method = some meth) (hc : meth.code = some c) {pc : Nat} {vm' : Vm}
    (hfind : ∀ (Q : Handler → Pre) (E : CtlPost) (d : Bool) (acts : List Action), wp (findHandler.go g a c.exceptionTable.toList) Q E e d acts ((s.setTop g).pushFrame (.throwing a)) ↔ Q (.found pc) d acts (((s.setTop g).pushFrame (.throwing a)).setVm vm')) :
    Steps tb e below ((s.setTop g).pushFrame (.throwing a)) ((s.setVm vm').setTop { g with pc := pc, stack := [.ref a] }) := by
  obtain ⟨hgo, hw⟩ := h.throwing a
  refine Steps.head hgo hw ?_
  have hF : ∀ (Q : Handler → Pre) (E : CtlPost) (d : Bool) (acts : List Action), wp (findHandler g a) Q E e d acts ((s.setTop g).pushFrame (.throwing a)) ↔ Q (.found pc) d acts (((s.setTop g).pushFrame (.throwing a)).setVm vm') := fun Q E d acts => by
    rw [W.findHandler_eq (meth := meth) (code := c) (by rw [Stand.throwing_vm]; exact hm) hc]
    exact hfind Q E d acts
  have hst : (stepThrowing e ((s.setTop g).pushFrame (.throwing a)) a (.java g :: s.frames.tail)).1 = (((s.setTop g).pushFrame (.throwing a)).setVm vm').setFrames (.java { g with pc := pc, stack := [.ref a] } :: s.frames.tail) := by
    simp only [stepThrowing, searchFrame, vmDo]
    generalize hr : Sem.go _ e false [] _ = res
    obtain ⟨as, rfl, -⟩ := Sem.eq_ok_of hr (a := Handler.found pc) (s' := ((s.setTop g).pushFrame (.throwing a)).setVm vm') (acts' := []) (by simp [hF _ _ _ _])
    rfl
  rw [stepThread_throwing (frames_entered h.top _), hst]
  obtain ⟨g₀, hg⟩ := Option.isSome_iff_exists.mp h.top
  obtain ⟨r, hr⟩ := State.topJava?_eq_some.mp hg
  have hr' : (s.setVm vm').frames = .java g₀ :: r := hr
  have sv : ∀ (u : State) (F G : List Frame), ((u.setFrames F).setVm vm').setFrames G = (u.setVm vm').setFrames G := fun u F G => by
    rw [show (u.setFrames F).setVm vm' = (u.setVm vm').setFrames F from rfl, State.setFrames_setFrames]
  rw [State.setTop_of_frames _ hr', State.pushFrame, State.setTop_of_frames _ hr, hr, List.tail_cons, State.setFrames_setFrames, sv]
  exact Steps.refl _
