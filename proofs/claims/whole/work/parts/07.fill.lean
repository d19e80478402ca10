theorem d_JA_fill_0 : decode b_JA_fill 0 = .ok (.iconst 0, 1) := by decide +kernel
theorem d_JA_fill_1 : decode b_JA_fill 1 = .ok (.istore_n 2, 1) := by decide +kernel
theorem d_JA_fill_2 : decode b_JA_fill 2 = .ok (.aload_n 0, 1) := by decide +kernel
theorem d_JA_fill_3 : decode b_JA_fill 3 = .ok (.arraylength, 1) := by decide +kernel
theorem d_JA_fill_4 : decode b_JA_fill 4 = .ok (.istore_n 3, 1) := by decide +kernel
theorem d_JA_fill_5 : decode b_JA_fill 5 = .ok (.iload_n 2, 1) := by decide +kernel
theorem d_JA_fill_6 : decode b_JA_fill 6 = .ok (.iload_n 3, 1) := by decide +kernel
theorem d_JA_fill_7 : decode b_JA_fill 7 = .ok (.if_icmp .ge 13, 3) := by decide +kernel
theorem d_JA_fill_10 : decode b_JA_fill 10 = .ok (.aload_n 0, 1) := by decide +kernel
theorem d_JA_fill_11 : decode b_JA_fill 11 = .ok (.iload_n 2, 1) := by decide +kernel
theorem d_JA_fill_12 : decode b_JA_fill 12 = .ok (.iload_n 1, 1) := by decide +kernel
theorem d_JA_fill_13 : decode b_JA_fill 13 = .ok (.iastore, 1) := by decide +kernel
theorem d_JA_fill_14 : decode b_JA_fill 14 = .ok (.iinc 2 1, 3) := by decide +kernel
theorem d_JA_fill_17 : decode b_JA_fill 17 = .ok (.goto (-12), 3) := by decide +kernel
theorem d_JA_fill_20 : decode b_JA_fill 20 = .ok (.return_, 1) := by decide +kernel
/-! java/util/Arrays.fill([II)V -/
def fJA_fill_5 (N : Nat) (n_p1 : Nat) (x1 : Int32) (x3 : Int32) : Nat → (Int32) → (Nat → Int32) → Option ((Nat → Int32))
  | 0, _, _ => none
  | k + 1, x2, f_p1 =>
    if x3 ≤ x2 then
      some f_p1
    else
      if ¬ (x2 < 0 ∨ n_p1 ≤ x2.toNatClampNeg) then
        fJA_fill_5 N n_p1 x1 x3 k (x2 + (1 : Int32)) (upd f_p1 x2.toNatClampNeg x1)
      else none
def fJA_fill (N : Nat) (p2 : Int32) (n_p1 : Nat) (f_p1 : Nat → Int32) : Option ((Nat → Int32)) :=
    (fJA_fill_5 N n_p1 p2 (nI n_p1) N (0 : Int32) f_p1).bind (fun y3 =>
      some y3)
set_option maxHeartbeats 4000000 in
set_option maxRecDepth 100000 in
theorem wJA_fill_5 {p : Program} {l : Launch} {e : Env} {s : State} {m : MethodId} {args : Array Value} {below : List Frame} {meth : Method} {c : Code} {Q : State → Prop} {A : Nat → Prop} {dC : Nat → ClassId} {dI : Nat → Nat → Nat} (h_p1 : Nat) (cB cI cJ : ClassId) (N : Nat) (n_p1 : Nat) (x1 : Int32) (x3 : Int32) (C : CX p s m args c b_JA_fill 4 R_JA A (dC, dI) [(cB, .byte), (cI, .int), (cJ, .long)]) :
    ∀ (n : Nat) (x2 : Int32) (f_p1 : Nat → Int32) (H : Heap) (locs : List Loc) (ls : Array Slot) (o : (Nat → Int32)), va_P (dC, dI) vwCl [(h_p1, .inl (cI, n_p1, .inl f_p1))] H → va_D A [(h_p1, .inl (cI, n_p1, .inl f_p1))] → va_S A s.heap H locs → lv_has ls 4 [(0, .ref h_p1), (1, .int x1), (2, .int x2), (3, .int x3)] → fJA_fill_5 N n_p1 x1 x3 n x2 f_p1 = some o → (∀ (H : Heap) (locs : List Loc) (ls : Array Slot), va_P (dC, dI) vwCl [(h_p1, .inl (cI, n_p1, .inl o))] H → va_D A [(h_p1, .inl (cI, n_p1, .inl o))] → va_S A s.heap H locs → lv_has ls 4 [] → W p l e ({ frames := 0, cells := 0, slots := 0, locals := 0 } : Room) s m args below meth c H locs 0 0 Q (F0 m 20 ls [])) → W p l e ({ frames := 0, cells := 0, slots := 0, locals := 0 } : Room) s m args below meth c H locs 0 0 Q (F0 m 5 ls []) := by
  obtain ⟨hx, hb, hml, hown, ht, hA, hK, hN⟩ := id C
  intro n
  induction n with
  | zero => intro x2 f_p1 H locs ls o _ _ _ _ h; exact nomatch h
  | succ k ih =>
    intro x2 f_p1 H locs ls o hP hD hS hl h kx
    refine lv_iload_n hx hb d_JA_fill_5 rfl (lv_at hl 2 rfl) ?_
    refine lv_iload_n hx hb d_JA_fill_6 rfl (lv_at hl 3 rfl) ?_
    refine lv_icmp_ge (tgt := 20) hx hb d_JA_fill_7 (by decide) (fun c1 => ?_) (fun c1 => ?_)
    · replace h := ip_p c1 h
      obtain rfl := Option.some.inj h
      exact kx _ _ _ hP hD hS (lv_sub hl [] rfl)
    · replace h := ip_n c1 h
      refine lv_aload_n hx hb d_JA_fill_10 rfl (lv_at hl 0 rfl) ?_
      refine lv_iload_n hx hb d_JA_fill_11 rfl (lv_at hl 2 rfl) ?_
      refine lv_iload_n hx hb d_JA_fill_12 rfl (lv_at hl 1 rfl) ?_
      obtain ⟨g2, h⟩ := gd h
      refine va_iast hx hb hK hP hD hS 0 1 rfl rfl g2 d_JA_fill_13 (fun H locs hP hD hS => ?_)
      have hP : va_P (dC, dI) vwCl [(h_p1, .inl (cI, n_p1, .inl (upd f_p1 x2.toNatClampNeg x1)))] H := hP
      have hD : va_D A [(h_p1, .inl (cI, n_p1, .inl (upd f_p1 x2.toNatClampNeg x1)))] := hD
      refine lv_iinc (v := x2 + (1 : Int32)) (lv' := [(2, .int (x2 + (1 : Int32))), (0, .ref h_p1), (1, .int x1), (3, .int x3)]) hx hb d_JA_fill_14 hl (k := 2) rfl rfl (by decide) rfl (fun ls hl => ?_)
      refine lv_goto (tgt := 5) hx hb d_JA_fill_17 (by decide) ?_
      exact ih (x2 + (1 : Int32)) (upd f_p1 x2.toNatClampNeg x1) _ _ _ _ hP hD hS (lv_sub hl [1, 2, 0, 3] rfl) h kx
set_option maxHeartbeats 4000000 in
set_option maxRecDepth 100000 in
theorem cJA_fill (l : Launch) (dC : Nat → ClassId) (dI : Nat → Nat → Nat) (h_p1 : Nat) (cB cI cJ : ClassId) (sz : Nat) (N : Nat) (p2 : Int32) (n_p1 : Nat) (f_p1 : Nat → Int32) (o : (Nat → Int32)) (h : fJA_fill N p2 n_p1 f_p1 = some o) : Met l y_JA_fill w_JA_fill ({ frames := 0, cells := 0, slots := 0, locals := 0 } : Room) (va_Pc [.ref h_p1, .int p2] (fun U => U.heap.size = sz ∧ va_P (dC, dI) vwCl [(h_p1, .inl (cI, n_p1, .inl f_p1))] U.heap ∧ va_K (dC, dI) vwCl [(cB, .byte), (cI, .int), (cJ, .long)] U ∧ va_D (fun _ => True) [(h_p1, .inl (cI, n_p1, .inl f_p1))] ∧ NW U)) (va_Qv (fun _ : Unit => True) (fun _ t => va_P (dC, dI) vwCl [(h_p1, .inl (cI, n_p1, .inl o))] t.heap ∧ va_K (dC, dI) vwCl [(cB, .byte), (cI, .int), (cJ, .long)] t ∧ va_D (va_A [(h_p1, .inl (cI, n_p1, .inl f_p1))] sz) [(h_p1, .inl (cI, n_p1, .inl o))]) (va_A [(h_p1, .inl (cI, n_p1, .inl f_p1))] sz)) 0 0 (va_A [(h_p1, .inl (cI, n_p1, .inl f_p1))] sz) := by
  refine Met.ofW (cc := b_JA_fill) (maxL := 4) (ret := none) (by decide) rfl ?_
  intro p e s m args below meth c s₁ B hml hv
  obtain ⟨rfl, hsz, hP, hK, hD0, hN⟩ := hv
  have hx := B.exec
  have hb := B.bytes
  have hr := B.returns
  have hts := atoms_spec (ws := w_JA_fill) B.pre
  have ht : ∀ w ∈ TB, w.before ([.ref h_p1, .int p2]).toArray s = true := fun w h => hts w (List.mem_cons_of_mem _ h)
  have hown : s.vm.findClass R_JA = some m.cls := findClass_of_methodNamed B.named
  have hlocks := B.notSynchronized
  subst hsz
  have hD := hD0.self (sz := s.heap.size)
  generalize hAe : va_A [(h_p1, .inl (cI, n_p1, .inl f_p1))] s.heap.size = A at hD ⊢
  have hA : ∀ q : Nat, s.heap.size ≤ q → A q := fun q h => by rw [← hAe]; exact Or.inr h
  have hS : va_S A s.heap s.heap [] := va_S.rf
  have hP : va_P (dC, dI) vwCl [(h_p1, .inl (cI, n_p1, .inl f_p1))] s.heap := hP
  have C : CX p s m ([.ref h_p1, .int p2]).toArray c b_JA_fill 4 R_JA A (dC, dI) [(cB, .byte), (cI, .int), (cJ, .long)] := ⟨hx, hb, hml, hown, ht, hA, hK, hN⟩
  have hl := lv_entry ([.ref h_p1, .int p2]) (n := 4) (Nat.le_of_ble_eq_true rfl)
  rw [lg_entry_eq]
  generalize (lg_sl ([.ref h_p1, .int p2]) ++ List.replicate (4 - (lg_sl ([.ref h_p1, .int p2])).length) Slot.unset).toArray = ls at hl ⊢
  have hl : lv_has ls 4 [(0, .ref h_p1), (1, .int p2)] := hl
  refine lv_iconst (v := (0 : Int32)) hx hb d_JA_fill_0 (by decide) ?_
  refine lv_istore_n (lv' := [(2, .int (0 : Int32)), (0, .ref h_p1), (1, .int p2)]) hx hb d_JA_fill_1 rfl hl (by decide) rfl (fun ls hl => ?_)
  refine lv_aload_n hx hb d_JA_fill_2 rfl (lv_at hl 1 rfl) ?_
  refine va_alen (v := nI n_p1) hx hb hK hP 0 1 rfl rfl rfl d_JA_fill_3 ?_
  refine lv_istore_n (lv' := [(3, .int (nI n_p1)), (2, .int (0 : Int32)), (0, .ref h_p1), (1, .int p2)]) hx hb d_JA_fill_4 rfl hl (by decide) rfl (fun ls hl => ?_)
  obtain ⟨y3, hy3, h⟩ := bd h
  refine wJA_fill_5 h_p1 cB cI cJ N n_p1 p2 (nI n_p1) C N (0 : Int32) f_p1 _ _ _ _ hP hD hS (lv_sub hl [2, 3, 1, 0] rfl) hy3 (fun H locs ls hP hD hS hl => ?_)
  obtain rfl := Option.some.inj h
  exact W.vret hx hb hr (fun t ht hW => ⟨⟨(), rfl, trivial, by rw [ht]; exact hP, va_K.moved hW.alike hK, hD⟩, hS.F ht⟩) hS.2.2 d_JA_fill_20
