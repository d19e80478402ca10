theorem d_BitSource_bitsLeft_0 : decode b_BitSource_bitsLeft 0 = .ok (.aload_n 0, 1) := by decide +kernel
theorem d_BitSource_bitsLeft_1 : decode b_BitSource_bitsLeft 1 = .ok (.getfield 15, 3) := by decide +kernel
theorem d_BitSource_bitsLeft_4 : decode b_BitSource_bitsLeft 4 = .ok (.getfield 19, 3) := by decide +kernel
theorem d_BitSource_bitsLeft_7 : decode b_BitSource_bitsLeft 7 = .ok (.bipush 8, 2) := by decide +kernel
theorem d_BitSource_bitsLeft_9 : decode b_BitSource_bitsLeft 9 = .ok (.imul, 1) := by decide +kernel
theorem d_BitSource_bitsLeft_10 : decode b_BitSource_bitsLeft 10 = .ok (.aload_n 0, 1) := by decide +kernel
theorem d_BitSource_bitsLeft_11 : decode b_BitSource_bitsLeft 11 = .ok (.getfield 9, 3) := by decide +kernel
theorem d_BitSource_bitsLeft_14 : decode b_BitSource_bitsLeft 14 = .ok (.isub, 1) := by decide +kernel
theorem d_BitSource_bitsLeft_15 : decode b_BitSource_bitsLeft 15 = .ok (.ireturn, 1) := by decide +kernel
theorem d_BitSource_take_0 : decode b_BitSource_take 0 = .ok (.aload_n 0, 1) := by decide +kernel
theorem d_BitSource_take_1 : decode b_BitSource_take 1 = .ok (.getfield 9, 3) := by decide +kernel
theorem d_BitSource_take_4 : decode b_BitSource_take 4 = .ok (.iload_n 1, 1) := by decide +kernel
theorem d_BitSource_take_5 : decode b_BitSource_take 5 = .ok (.iadd, 1) := by decide +kernel
theorem d_BitSource_take_6 : decode b_BitSource_take 6 = .ok (.aload_n 0, 1) := by decide +kernel
theorem d_BitSource_take_7 : decode b_BitSource_take 7 = .ok (.getfield 15, 3) := by decide +kernel
theorem d_BitSource_take_10 : decode b_BitSource_take 10 = .ok (.getfield 19, 3) := by decide +kernel
theorem d_BitSource_take_13 : decode b_BitSource_take 13 = .ok (.bipush 8, 2) := by decide +kernel
theorem d_BitSource_take_15 : decode b_BitSource_take 15 = .ok (.imul, 1) := by decide +kernel
theorem d_BitSource_take_16 : decode b_BitSource_take 16 = .ok (.if_icmp .le 5, 3) := by decide +kernel
theorem d_BitSource_take_19 : decode b_BitSource_take 19 = .ok (.iconst (-1), 1) := by decide +kernel
theorem d_BitSource_take_20 : decode b_BitSource_take 20 = .ok (.ireturn, 1) := by decide +kernel
theorem d_BitSource_take_21 : decode b_BitSource_take 21 = .ok (.aload_n 0, 1) := by decide +kernel
theorem d_BitSource_take_22 : decode b_BitSource_take 22 = .ok (.getfield 15, 3) := by decide +kernel
theorem d_BitSource_take_25 : decode b_BitSource_take 25 = .ok (.getfield 24, 3) := by decide +kernel
theorem d_BitSource_take_28 : decode b_BitSource_take 28 = .ok (.astore_n 2, 1) := by decide +kernel
theorem d_BitSource_take_29 : decode b_BitSource_take 29 = .ok (.iconst 0, 1) := by decide +kernel
theorem d_BitSource_take_30 : decode b_BitSource_take 30 = .ok (.istore_n 3, 1) := by decide +kernel
theorem d_BitSource_take_31 : decode b_BitSource_take 31 = .ok (.iconst 0, 1) := by decide +kernel
theorem d_BitSource_take_32 : decode b_BitSource_take 32 = .ok (.istore 4, 2) := by decide +kernel
theorem d_BitSource_take_34 : decode b_BitSource_take 34 = .ok (.iload 4, 2) := by decide +kernel
theorem d_BitSource_take_36 : decode b_BitSource_take 36 = .ok (.iload_n 1, 1) := by decide +kernel
theorem d_BitSource_take_37 : decode b_BitSource_take 37 = .ok (.if_icmp .ge 43, 3) := by decide +kernel
theorem d_BitSource_take_40 : decode b_BitSource_take 40 = .ok (.iload_n 3, 1) := by decide +kernel
theorem d_BitSource_take_41 : decode b_BitSource_take 41 = .ok (.aload_n 2, 1) := by decide +kernel
theorem d_BitSource_take_42 : decode b_BitSource_take 42 = .ok (.aload_n 0, 1) := by decide +kernel
theorem d_BitSource_take_43 : decode b_BitSource_take 43 = .ok (.getfield 9, 3) := by decide +kernel
theorem d_BitSource_take_46 : decode b_BitSource_take 46 = .ok (.iconst 3, 1) := by decide +kernel
theorem d_BitSource_take_47 : decode b_BitSource_take 47 = .ok (.ishr, 1) := by decide +kernel
theorem d_BitSource_take_48 : decode b_BitSource_take 48 = .ok (.baload, 1) := by decide +kernel
theorem d_BitSource_take_49 : decode b_BitSource_take 49 = .ok (.aload_n 0, 1) := by decide +kernel
theorem d_BitSource_take_50 : decode b_BitSource_take 50 = .ok (.getfield 9, 3) := by decide +kernel
theorem d_BitSource_take_53 : decode b_BitSource_take 53 = .ok (.bipush 7, 2) := by decide +kernel
theorem d_BitSource_take_55 : decode b_BitSource_take 55 = .ok (.iand, 1) := by decide +kernel
theorem d_BitSource_take_56 : decode b_BitSource_take 56 = .ok (.ishr, 1) := by decide +kernel
theorem d_BitSource_take_57 : decode b_BitSource_take 57 = .ok (.iconst 1, 1) := by decide +kernel
theorem d_BitSource_take_58 : decode b_BitSource_take 58 = .ok (.iand, 1) := by decide +kernel
theorem d_BitSource_take_59 : decode b_BitSource_take 59 = .ok (.iload 4, 2) := by decide +kernel
theorem d_BitSource_take_61 : decode b_BitSource_take 61 = .ok (.ishl, 1) := by decide +kernel
theorem d_BitSource_take_62 : decode b_BitSource_take 62 = .ok (.ior, 1) := by decide +kernel
theorem d_BitSource_take_63 : decode b_BitSource_take 63 = .ok (.istore_n 3, 1) := by decide +kernel
theorem d_BitSource_take_64 : decode b_BitSource_take 64 = .ok (.aload_n 0, 1) := by decide +kernel
theorem d_BitSource_take_65 : decode b_BitSource_take 65 = .ok (.dup, 1) := by decide +kernel
theorem d_BitSource_take_66 : decode b_BitSource_take 66 = .ok (.getfield 9, 3) := by decide +kernel
theorem d_BitSource_take_69 : decode b_BitSource_take 69 = .ok (.iconst 1, 1) := by decide +kernel
theorem d_BitSource_take_70 : decode b_BitSource_take 70 = .ok (.iadd, 1) := by decide +kernel
theorem d_BitSource_take_71 : decode b_BitSource_take 71 = .ok (.putfield 9, 3) := by decide +kernel
theorem d_BitSource_take_74 : decode b_BitSource_take 74 = .ok (.iinc 4 1, 3) := by decide +kernel
theorem d_BitSource_take_77 : decode b_BitSource_take 77 = .ok (.goto (-43), 3) := by decide +kernel
theorem d_BitSource_take_80 : decode b_BitSource_take 80 = .ok (.iload_n 3, 1) := by decide +kernel
theorem d_BitSource_take_81 : decode b_BitSource_take 81 = .ok (.ireturn, 1) := by decide +kernel
theorem d_BitSource_toWholeByte_0 : decode b_BitSource_toWholeByte 0 = .ok (.aload_n 0, 1) := by decide +kernel
theorem d_BitSource_toWholeByte_1 : decode b_BitSource_toWholeByte 1 = .ok (.aload_n 0, 1) := by decide +kernel
theorem d_BitSource_toWholeByte_2 : decode b_BitSource_toWholeByte 2 = .ok (.getfield 9, 3) := by decide +kernel
theorem d_BitSource_toWholeByte_5 : decode b_BitSource_toWholeByte 5 = .ok (.bipush 7, 2) := by decide +kernel
theorem d_BitSource_toWholeByte_7 : decode b_BitSource_toWholeByte 7 = .ok (.iadd, 1) := by decide +kernel
theorem d_BitSource_toWholeByte_8 : decode b_BitSource_toWholeByte 8 = .ok (.bipush (-8), 2) := by decide +kernel
theorem d_BitSource_toWholeByte_10 : decode b_BitSource_toWholeByte 10 = .ok (.iand, 1) := by decide +kernel
theorem d_BitSource_toWholeByte_11 : decode b_BitSource_toWholeByte 11 = .ok (.putfield 9, 3) := by decide +kernel
theorem d_BitSource_toWholeByte_14 : decode b_BitSource_toWholeByte 14 = .ok (.return_, 1) := by decide +kernel
theorem d_BitSource_bytesTaken_0 : decode b_BitSource_bytesTaken 0 = .ok (.aload_n 0, 1) := by decide +kernel
theorem d_BitSource_bytesTaken_1 : decode b_BitSource_bytesTaken 1 = .ok (.getfield 9, 3) := by decide +kernel
theorem d_BitSource_bytesTaken_4 : decode b_BitSource_bytesTaken 4 = .ok (.bipush 7, 2) := by decide +kernel
theorem d_BitSource_bytesTaken_6 : decode b_BitSource_bytesTaken 6 = .ok (.iadd, 1) := by decide +kernel
theorem d_BitSource_bytesTaken_7 : decode b_BitSource_bytesTaken 7 = .ok (.iconst 3, 1) := by decide +kernel
theorem d_BitSource_bytesTaken_8 : decode b_BitSource_bytesTaken 8 = .ok (.ishr, 1) := by decide +kernel
theorem d_BitSource_bytesTaken_9 : decode b_BitSource_bytesTaken 9 = .ok (.ireturn, 1) := by decide +kernel
/-! PackedBytes$BitSource.bitsLeft()I -/
def fBitSource_bitsLeft (N : Nat) (v_t_place : Int32) (v_t_from_count : Int32) : Option (Int32) :=
    some ((v_t_from_count * (8 : Int32)) - v_t_place)
set_option maxHeartbeats 4000000 in
set_option maxRecDepth 100000 in
theorem cBitSource_bitsLeft (l : Launch) (dC : Nat → ClassId) (dI : Nat → Nat → Nat) (h_t h_t_from h_t_from_cells : Nat) (cB cI cJ : ClassId) (sz : Nat) (N : Nat) (v_t_place : Int32) (v_t_from_count : Int32) (o : Int32) (h : fBitSource_bitsLeft N v_t_place v_t_from_count = some o) : Met l y_BitSource_bitsLeft w_BitSource_bitsLeft ({ frames := 0, cells := 0, slots := 0, locals := 0 } : Room) (va_Pc [.ref h_t] (fun U => U.heap.size = sz ∧ va_P (dC, dI) vwCl [(h_t, .inr (1, [.ref h_t_from, .int v_t_place])), (h_t_from, .inr (7, [.ref h_t_from_cells, .int v_t_from_count]))] U.heap ∧ va_K (dC, dI) vwCl [(cB, .byte), (cI, .int), (cJ, .long)] U ∧ va_D (fun _ => True) [(h_t, .inr (1, [.ref h_t_from, .int v_t_place])), (h_t_from, .inr (7, [.ref h_t_from_cells, .int v_t_from_count]))] ∧ NW U)) (va_Qi (fun r (_ : Unit) => r = o) (fun _ t => va_P (dC, dI) vwCl [(h_t, .inr (1, [.ref h_t_from, .int v_t_place])), (h_t_from, .inr (7, [.ref h_t_from_cells, .int v_t_from_count]))] t.heap ∧ va_K (dC, dI) vwCl [(cB, .byte), (cI, .int), (cJ, .long)] t ∧ va_D (va_A [(h_t, .inr (1, [.ref h_t_from, .int v_t_place])), (h_t_from, .inr (7, [.ref h_t_from_cells, .int v_t_from_count]))] sz) [(h_t, .inr (1, [.ref h_t_from, .int v_t_place])), (h_t_from, .inr (7, [.ref h_t_from_cells, .int v_t_from_count]))]) (va_A [(h_t, .inr (1, [.ref h_t_from, .int v_t_place])), (h_t_from, .inr (7, [.ref h_t_from_cells, .int v_t_from_count]))] sz)) 0 0 (va_A [(h_t, .inr (1, [.ref h_t_from, .int v_t_place])), (h_t_from, .inr (7, [.ref h_t_from_cells, .int v_t_from_count]))] sz) := by
  refine Met.ofW (cc := b_BitSource_bitsLeft) (maxL := 1) (ret := (some .int)) (by decide) rfl ?_
  intro p e s m args below meth c s₁ B hml hv
  obtain ⟨rfl, hsz, hP, hK, hD0, hN⟩ := hv
  have hx := B.exec
  have hb := B.bytes
  have hr := B.returns
  have hts := atoms_spec (ws := w_BitSource_bitsLeft) B.pre
  have ht : ∀ w ∈ TB, w.before ([.ref h_t]).toArray s = true := fun w h => hts w (List.mem_cons_of_mem _ h)
  have hown : s.vm.findClass R_BitSource = some m.cls := findClass_of_methodNamed B.named
  have hlocks := B.notSynchronized
  subst hsz
  have hD := hD0.self (sz := s.heap.size)
  generalize hAe : va_A [(h_t, .inr (1, [.ref h_t_from, .int v_t_place])), (h_t_from, .inr (7, [.ref h_t_from_cells, .int v_t_from_count]))] s.heap.size = A at hD ⊢
  have hA : ∀ q : Nat, s.heap.size ≤ q → A q := fun q h => by rw [← hAe]; exact Or.inr h
  have hS : va_S A s.heap s.heap [] := va_S.rf
  have hP : va_P (dC, dI) vwCl [(h_t, .inr (1, [.ref h_t_from, .int v_t_place])), (h_t_from, .inr (7, [.ref h_t_from_cells, .int v_t_from_count]))] s.heap := hP
  skip
  have hl := lv_entry ([.ref h_t]) (n := 1) (Nat.le_of_ble_eq_true rfl)
  rw [lg_entry_eq]
  generalize (lg_sl ([.ref h_t]) ++ List.replicate (1 - (lg_sl ([.ref h_t])).length) Slot.unset).toArray = ls at hl ⊢
  have hl : lv_has ls 1 [(0, .ref h_t)] := hl
  refine lv_aload_n hx hb d_BitSource_bitsLeft_0 rfl (lv_at hl 0 rfl) ?_
  refine va_get (D := (dC, dI)) (ci := 1) (v := .ref h_t_from) (C := R_BitSource) (T := F_BitSource) (N := 2) hx hb ht in_BitSource hown hK hP 0 rfl rfl 0 (by decide) (ht _ k_361) (fun _ h9 => h9) rfl d_BitSource_bitsLeft_1 ?_
  refine va_get (D := (dC, dI)) (ci := 7) (v := .int v_t_from_count) (C := R_Row) (T := F_Row) (N := 2) hx hb ht in_Row hown hK hP 1 rfl rfl 1 (by decide) (ht _ k_108) (fun _ h9 => h9) rfl d_BitSource_bitsLeft_4 ?_
  refine lv_bipush (v := (8 : Int32)) hx hb d_BitSource_bitsLeft_7 (by decide) ?_
  refine lv_imul hx hb d_BitSource_bitsLeft_9 ?_
  refine lv_aload_n hx hb d_BitSource_bitsLeft_10 rfl (lv_at hl 0 rfl) ?_
  refine va_get (D := (dC, dI)) (ci := 1) (v := .int v_t_place) (C := R_BitSource) (T := F_BitSource) (N := 2) hx hb ht in_BitSource hown hK hP 0 rfl rfl 1 (by decide) (ht _ k_363) (fun _ h9 => h9) rfl d_BitSource_bitsLeft_11 ?_
  refine lv_isub hx hb d_BitSource_bitsLeft_14 ?_
  obtain rfl := Option.some.inj h
  exact W.iret (v := (v_t_from_count * (8 : Int32)) - v_t_place) hx hb hr (fun t ht hW => ⟨⟨_, (), rfl, rfl, by rw [ht]; exact hP, va_K.moved hW.alike hK, hD⟩, hS.F ht⟩) hS.2.2 d_BitSource_bitsLeft_15
/-! PackedBytes$BitSource.take(I)I -/
def fBitSource_take_34 (N : Nat) (x1 : Int32) (f_t_from_cells : Nat → Int32) : Nat → (Int32) → (Int32) → (Int32) → Option (Int32 × Int32)
  | 0, _, _, _ => none
  | k + 1, x3, x4, v_t_place =>
    if x1 ≤ x4 then
      some (x3, v_t_place)
    else
      if ¬ ((v_t_place >>> ((3 : Int32) &&& 31)) < 0 ∨ 65546 ≤ (v_t_place >>> ((3 : Int32) &&& 31)).toNatClampNeg) then
        fBitSource_take_34 N x1 f_t_from_cells k (x3 ||| (((((f_t_from_cells (v_t_place >>> ((3 : Int32) &&& 31)).toNatClampNeg).toInt8.toInt32) >>> ((v_t_place &&& (7 : Int32)) &&& 31)) &&& (1 : Int32)) <<< (x4 &&& 31))) (x4 + (1 : Int32)) (v_t_place + (1 : Int32))
      else none
def fBitSource_take (N : Nat) (p1 : Int32) (v_t_place : Int32) (v_t_from_count : Int32) (f_t_from_cells : Nat → Int32) : Option (Int32 × Int32) :=
    if (v_t_place + p1) ≤ (v_t_from_count * (8 : Int32)) then
      (fBitSource_take_34 N p1 f_t_from_cells N (0 : Int32) (0 : Int32) v_t_place).bind (fun y4 =>
        some (y4.1, y4.2))
    else
      some ((-1 : Int32), v_t_place)
set_option maxHeartbeats 4000000 in
set_option maxRecDepth 100000 in
theorem wBitSource_take_34 {p : Program} {l : Launch} {e : Env} {s : State} {m : MethodId} {args : Array Value} {below : List Frame} {meth : Method} {c : Code} {Q : State → Prop} {A : Nat → Prop} {dC : Nat → ClassId} {dI : Nat → Nat → Nat} (h_t h_t_from h_t_from_cells : Nat) (cB cI cJ : ClassId) (N : Nat) (v_t_from_count : Int32) (f_t_from_cells : Nat → Int32) (x1 : Int32) (C : CX p s m args c b_BitSource_take 5 R_BitSource A (dC, dI) [(cB, .byte), (cI, .int), (cJ, .long)]) :
    ∀ (n : Nat) (x3 : Int32) (x4 : Int32) (v_t_place : Int32) (H : Heap) (locs : List Loc) (ls : Array Slot) (o : Int32 × Int32), va_P (dC, dI) vwCl [(h_t, .inr (1, [.ref h_t_from, .int v_t_place])), (h_t_from, .inr (7, [.ref h_t_from_cells, .int v_t_from_count])), (h_t_from_cells, .inl (cB, 65546, .inl (bf f_t_from_cells)))] H → va_D A [(h_t, .inr (1, [.ref h_t_from, .int v_t_place])), (h_t_from, .inr (7, [.ref h_t_from_cells, .int v_t_from_count])), (h_t_from_cells, .inl (cB, 65546, .inl (bf f_t_from_cells)))] → va_S A s.heap H locs → lv_has ls 5 [(0, .ref h_t), (1, .int x1), (2, .ref h_t_from_cells), (3, .int x3), (4, .int x4)] → fBitSource_take_34 N x1 f_t_from_cells n x3 x4 v_t_place = some o → (∀ (H : Heap) (locs : List Loc) (ls : Array Slot), va_P (dC, dI) vwCl [(h_t, .inr (1, [.ref h_t_from, .int o.2])), (h_t_from, .inr (7, [.ref h_t_from_cells, .int v_t_from_count])), (h_t_from_cells, .inl (cB, 65546, .inl (bf f_t_from_cells)))] H → va_D A [(h_t, .inr (1, [.ref h_t_from, .int o.2])), (h_t_from, .inr (7, [.ref h_t_from_cells, .int v_t_from_count])), (h_t_from_cells, .inl (cB, 65546, .inl (bf f_t_from_cells)))] → va_S A s.heap H locs → lv_has ls 5 [(3, .int o.1)] → W p l e ({ frames := 0, cells := 0, slots := 0, locals := 0 } : Room) s m args below meth c H locs 0 0 Q (F0 m 80 ls [])) → W p l e ({ frames := 0, cells := 0, slots := 0, locals := 0 } : Room) s m args below meth c H locs 0 0 Q (F0 m 34 ls []) := by
  obtain ⟨hx, hb, hml, hown, ht, hA, hK, hN⟩ := id C
  intro n
  induction n with
  | zero => intro x3 x4 v_t_place H locs ls o _ _ _ _ h; exact nomatch h
  | succ k ih =>
    intro x3 x4 v_t_place H locs ls o hP hD hS hl h kx
    refine lv_iload hx hb d_BitSource_take_34 (lv_at hl 4 rfl) ?_
    refine lv_iload_n hx hb d_BitSource_take_36 rfl (lv_at hl 1 rfl) ?_
    refine lv_icmp_ge (tgt := 80) hx hb d_BitSource_take_37 (by decide) (fun c2 => ?_) (fun c2 => ?_)
    · replace h := ip_p c2 h
      obtain rfl := Option.some.inj h
      exact kx _ _ _ hP hD hS (lv_sub hl [3] rfl)
    · replace h := ip_n c2 h
      refine lv_iload_n hx hb d_BitSource_take_40 rfl (lv_at hl 3 rfl) ?_
      refine lv_aload_n hx hb d_BitSource_take_41 rfl (lv_at hl 2 rfl) ?_
      refine lv_aload_n hx hb d_BitSource_take_42 rfl (lv_at hl 0 rfl) ?_
      refine va_get (D := (dC, dI)) (ci := 1) (v := .int v_t_place) (C := R_BitSource) (T := F_BitSource) (N := 2) hx hb ht in_BitSource hown hK hP 0 rfl rfl 1 (by decide) (ht _ k_363) (fun _ h9 => h9) rfl d_BitSource_take_43 ?_
      refine lv_iconst (v := (3 : Int32)) hx hb d_BitSource_take_46 (by decide) ?_
      refine lv_ishr hx hb d_BitSource_take_47 ?_
      obtain ⟨g3, h⟩ := gd h
      refine va_bald (f := bf f_t_from_cells) hx hb hK hP 2 0 rfl rfl g3 d_BitSource_take_48 ?_
      refine lv_aload_n hx hb d_BitSource_take_49 rfl (lv_at hl 0 rfl) ?_
      refine va_get (D := (dC, dI)) (ci := 1) (v := .int v_t_place) (C := R_BitSource) (T := F_BitSource) (N := 2) hx hb ht in_BitSource hown hK hP 0 rfl rfl 1 (by decide) (ht _ k_363) (fun _ h9 => h9) rfl d_BitSource_take_50 ?_
      refine lv_bipush (v := (7 : Int32)) hx hb d_BitSource_take_53 (by decide) ?_
      refine lv_iand hx hb d_BitSource_take_55 ?_
      refine lv_ishr hx hb d_BitSource_take_56 ?_
      refine lv_iconst (v := (1 : Int32)) hx hb d_BitSource_take_57 (by decide) ?_
      refine lv_iand hx hb d_BitSource_take_58 ?_
      refine lv_iload hx hb d_BitSource_take_59 (lv_at hl 4 rfl) ?_
      refine lv_ishl hx hb d_BitSource_take_61 ?_
      refine lv_ior hx hb d_BitSource_take_62 ?_
      refine lv_istore_n (lv' := [(3, .int (x3 ||| (((((f_t_from_cells (v_t_place >>> ((3 : Int32) &&& 31)).toNatClampNeg).toInt8.toInt32) >>> ((v_t_place &&& (7 : Int32)) &&& 31)) &&& (1 : Int32)) <<< (x4 &&& 31)))), (0, .ref h_t), (1, .int x1), (2, .ref h_t_from_cells), (4, .int x4)]) hx hb d_BitSource_take_63 rfl hl (by decide) rfl (fun ls hl => ?_)
      refine lv_aload_n hx hb d_BitSource_take_64 rfl (lv_at hl 1 rfl) ?_
      refine lv_dup hx hb d_BitSource_take_65 rfl ?_
      refine va_get (D := (dC, dI)) (ci := 1) (v := .int v_t_place) (C := R_BitSource) (T := F_BitSource) (N := 2) hx hb ht in_BitSource hown hK hP 0 rfl rfl 1 (by decide) (ht _ k_363) (fun _ h9 => h9) rfl d_BitSource_take_66 ?_
      refine lv_iconst (v := (1 : Int32)) hx hb d_BitSource_take_69 (by decide) ?_
      refine lv_iadd hx hb d_BitSource_take_70 ?_
      refine va_put (D := (dC, dI)) (ci := 1) (v := .int (v_t_place + (1 : Int32))) (ty := .int) (C := R_BitSource) (T := F_BitSource) (N := 2) hx hb ht in_BitSource t_BitSource t_BitSource_ok n_BitSource hown hK hP hD hS 0 rfl rfl 1 (by decide) (ht _ k_363) (fun _ h9 => h9) rfl (by decide +kernel) rfl rfl (Nat.le_of_ble_eq_true rfl) d_BitSource_take_71 (fun H locs hP hD hS => ?_)
      have hP : va_P (dC, dI) vwCl [(h_t, .inr (1, [.ref h_t_from, .int (v_t_place + (1 : Int32))])), (h_t_from, .inr (7, [.ref h_t_from_cells, .int v_t_from_count])), (h_t_from_cells, .inl (cB, 65546, .inl (bf f_t_from_cells)))] H := hP
      have hD : va_D A [(h_t, .inr (1, [.ref h_t_from, .int (v_t_place + (1 : Int32))])), (h_t_from, .inr (7, [.ref h_t_from_cells, .int v_t_from_count])), (h_t_from_cells, .inl (cB, 65546, .inl (bf f_t_from_cells)))] := hD
      refine lv_iinc (v := x4 + (1 : Int32)) (lv' := [(4, .int (x4 + (1 : Int32))), (3, .int (x3 ||| (((((f_t_from_cells (v_t_place >>> ((3 : Int32) &&& 31)).toNatClampNeg).toInt8.toInt32) >>> ((v_t_place &&& (7 : Int32)) &&& 31)) &&& (1 : Int32)) <<< (x4 &&& 31)))), (0, .ref h_t), (1, .int x1), (2, .ref h_t_from_cells)]) hx hb d_BitSource_take_74 hl (k := 4) rfl rfl (by decide) rfl (fun ls hl => ?_)
      refine lv_goto (tgt := 34) hx hb d_BitSource_take_77 (by decide) ?_
      exact ih (x3 ||| (((((f_t_from_cells (v_t_place >>> ((3 : Int32) &&& 31)).toNatClampNeg).toInt8.toInt32) >>> ((v_t_place &&& (7 : Int32)) &&& 31)) &&& (1 : Int32)) <<< (x4 &&& 31))) (x4 + (1 : Int32)) (v_t_place + (1 : Int32)) _ _ _ _ hP hD hS (lv_sub hl [2, 3, 4, 1, 0] rfl) h kx
set_option maxHeartbeats 4000000 in
set_option maxRecDepth 100000 in
theorem cBitSource_take (l : Launch) (dC : Nat → ClassId) (dI : Nat → Nat → Nat) (h_t h_t_from h_t_from_cells : Nat) (cB cI cJ : ClassId) (sz : Nat) (N : Nat) (p1 : Int32) (v_t_place : Int32) (v_t_from_count : Int32) (f_t_from_cells : Nat → Int32) (o : Int32 × Int32) (h : fBitSource_take N p1 v_t_place v_t_from_count f_t_from_cells = some o) : Met l y_BitSource_take w_BitSource_take ({ frames := 0, cells := 0, slots := 0, locals := 0 } : Room) (va_Pc [.ref h_t, .int p1] (fun U => U.heap.size = sz ∧ va_P (dC, dI) vwCl [(h_t, .inr (1, [.ref h_t_from, .int v_t_place])), (h_t_from, .inr (7, [.ref h_t_from_cells, .int v_t_from_count])), (h_t_from_cells, .inl (cB, 65546, .inl (bf f_t_from_cells)))] U.heap ∧ va_K (dC, dI) vwCl [(cB, .byte), (cI, .int), (cJ, .long)] U ∧ va_D (fun _ => True) [(h_t, .inr (1, [.ref h_t_from, .int v_t_place])), (h_t_from, .inr (7, [.ref h_t_from_cells, .int v_t_from_count])), (h_t_from_cells, .inl (cB, 65546, .inl (bf f_t_from_cells)))] ∧ NW U)) (va_Qi (fun r (_ : Unit) => r = o.1) (fun _ t => va_P (dC, dI) vwCl [(h_t, .inr (1, [.ref h_t_from, .int o.2])), (h_t_from, .inr (7, [.ref h_t_from_cells, .int v_t_from_count])), (h_t_from_cells, .inl (cB, 65546, .inl (bf f_t_from_cells)))] t.heap ∧ va_K (dC, dI) vwCl [(cB, .byte), (cI, .int), (cJ, .long)] t ∧ va_D (va_A [(h_t, .inr (1, [.ref h_t_from, .int v_t_place])), (h_t_from, .inr (7, [.ref h_t_from_cells, .int v_t_from_count])), (h_t_from_cells, .inl (cB, 65546, .inl (bf f_t_from_cells)))] sz) [(h_t, .inr (1, [.ref h_t_from, .int o.2])), (h_t_from, .inr (7, [.ref h_t_from_cells, .int v_t_from_count])), (h_t_from_cells, .inl (cB, 65546, .inl (bf f_t_from_cells)))]) (va_A [(h_t, .inr (1, [.ref h_t_from, .int v_t_place])), (h_t_from, .inr (7, [.ref h_t_from_cells, .int v_t_from_count])), (h_t_from_cells, .inl (cB, 65546, .inl (bf f_t_from_cells)))] sz)) 0 0 (va_A [(h_t, .inr (1, [.ref h_t_from, .int v_t_place])), (h_t_from, .inr (7, [.ref h_t_from_cells, .int v_t_from_count])), (h_t_from_cells, .inl (cB, 65546, .inl (bf f_t_from_cells)))] sz) := by
  refine Met.ofW (cc := b_BitSource_take) (maxL := 5) (ret := (some .int)) (by decide) rfl ?_
  intro p e s m args below meth c s₁ B hml hv
  obtain ⟨rfl, hsz, hP, hK, hD0, hN⟩ := hv
  have hx := B.exec
  have hb := B.bytes
  have hr := B.returns
  have hts := atoms_spec (ws := w_BitSource_take) B.pre
  have ht : ∀ w ∈ TB, w.before ([.ref h_t, .int p1]).toArray s = true := fun w h => hts w (List.mem_cons_of_mem _ h)
  have hown : s.vm.findClass R_BitSource = some m.cls := findClass_of_methodNamed B.named
  have hlocks := B.notSynchronized
  subst hsz
  have hD := hD0.self (sz := s.heap.size)
  generalize hAe : va_A [(h_t, .inr (1, [.ref h_t_from, .int v_t_place])), (h_t_from, .inr (7, [.ref h_t_from_cells, .int v_t_from_count])), (h_t_from_cells, .inl (cB, 65546, .inl (bf f_t_from_cells)))] s.heap.size = A at hD ⊢
  have hA : ∀ q : Nat, s.heap.size ≤ q → A q := fun q h => by rw [← hAe]; exact Or.inr h
  have hS : va_S A s.heap s.heap [] := va_S.rf
  have hP : va_P (dC, dI) vwCl [(h_t, .inr (1, [.ref h_t_from, .int v_t_place])), (h_t_from, .inr (7, [.ref h_t_from_cells, .int v_t_from_count])), (h_t_from_cells, .inl (cB, 65546, .inl (bf f_t_from_cells)))] s.heap := hP
  have C : CX p s m ([.ref h_t, .int p1]).toArray c b_BitSource_take 5 R_BitSource A (dC, dI) [(cB, .byte), (cI, .int), (cJ, .long)] := ⟨hx, hb, hml, hown, ht, hA, hK, hN⟩
  have hl := lv_entry ([.ref h_t, .int p1]) (n := 5) (Nat.le_of_ble_eq_true rfl)
  rw [lg_entry_eq]
  generalize (lg_sl ([.ref h_t, .int p1]) ++ List.replicate (5 - (lg_sl ([.ref h_t, .int p1])).length) Slot.unset).toArray = ls at hl ⊢
  have hl : lv_has ls 5 [(0, .ref h_t), (1, .int p1)] := hl
  refine lv_aload_n hx hb d_BitSource_take_0 rfl (lv_at hl 0 rfl) ?_
  refine va_get (D := (dC, dI)) (ci := 1) (v := .int v_t_place) (C := R_BitSource) (T := F_BitSource) (N := 2) hx hb ht in_BitSource hown hK hP 0 rfl rfl 1 (by decide) (ht _ k_363) (fun _ h9 => h9) rfl d_BitSource_take_1 ?_
  refine lv_iload_n hx hb d_BitSource_take_4 rfl (lv_at hl 1 rfl) ?_
  refine lv_iadd hx hb d_BitSource_take_5 ?_
  refine lv_aload_n hx hb d_BitSource_take_6 rfl (lv_at hl 0 rfl) ?_
  refine va_get (D := (dC, dI)) (ci := 1) (v := .ref h_t_from) (C := R_BitSource) (T := F_BitSource) (N := 2) hx hb ht in_BitSource hown hK hP 0 rfl rfl 0 (by decide) (ht _ k_361) (fun _ h9 => h9) rfl d_BitSource_take_7 ?_
  refine va_get (D := (dC, dI)) (ci := 7) (v := .int v_t_from_count) (C := R_Row) (T := F_Row) (N := 2) hx hb ht in_Row hown hK hP 1 rfl rfl 1 (by decide) (ht _ k_108) (fun _ h9 => h9) rfl d_BitSource_take_10 ?_
  refine lv_bipush (v := (8 : Int32)) hx hb d_BitSource_take_13 (by decide) ?_
  refine lv_imul hx hb d_BitSource_take_15 ?_
  refine lv_icmp_le (tgt := 21) hx hb d_BitSource_take_16 (by decide) (fun c1 => ?_) (fun c1 => ?_)
  · replace h := ip_p c1 h
    refine lv_aload_n hx hb d_BitSource_take_21 rfl (lv_at hl 0 rfl) ?_
    refine va_get (D := (dC, dI)) (ci := 1) (v := .ref h_t_from) (C := R_BitSource) (T := F_BitSource) (N := 2) hx hb ht in_BitSource hown hK hP 0 rfl rfl 0 (by decide) (ht _ k_361) (fun _ h9 => h9) rfl d_BitSource_take_22 ?_
    refine va_get (D := (dC, dI)) (ci := 7) (v := .ref h_t_from_cells) (C := R_Row) (T := F_Row) (N := 2) hx hb ht in_Row hown hK hP 1 rfl rfl 0 (by decide) (ht _ k_103) (fun _ h9 => h9) rfl d_BitSource_take_25 ?_
    refine lv_astore_n (lv' := [(2, .ref h_t_from_cells), (0, .ref h_t), (1, .int p1)]) hx hb d_BitSource_take_28 rfl hl (by decide) rfl (fun ls hl => ?_)
    refine lv_iconst (v := (0 : Int32)) hx hb d_BitSource_take_29 (by decide) ?_
    refine lv_istore_n (lv' := [(3, .int (0 : Int32)), (2, .ref h_t_from_cells), (0, .ref h_t), (1, .int p1)]) hx hb d_BitSource_take_30 rfl hl (by decide) rfl (fun ls hl => ?_)
    refine lv_iconst (v := (0 : Int32)) hx hb d_BitSource_take_31 (by decide) ?_
    refine lv_istore (lv' := [(4, .int (0 : Int32)), (3, .int (0 : Int32)), (2, .ref h_t_from_cells), (0, .ref h_t), (1, .int p1)]) hx hb d_BitSource_take_32 hl (by decide) rfl (fun ls hl => ?_)
    obtain ⟨y4, hy4, h⟩ := bd h
    refine wBitSource_take_34 h_t h_t_from h_t_from_cells cB cI cJ N v_t_from_count f_t_from_cells p1 C N (0 : Int32) (0 : Int32) v_t_place _ _ _ _ hP hD hS (lv_sub hl [3, 4, 2, 1, 0] rfl) hy4 (fun H locs ls hP hD hS hl => ?_)
    refine lv_iload_n hx hb d_BitSource_take_80 rfl (lv_at hl 0 rfl) ?_
    obtain rfl := Option.some.inj h
    exact W.iret (v := y4.1) hx hb hr (fun t ht hW => ⟨⟨_, (), rfl, rfl, by rw [ht]; exact hP, va_K.moved hW.alike hK, hD⟩, hS.F ht⟩) hS.2.2 d_BitSource_take_81
  · replace h := ip_n c1 h
    refine lv_iconst (v := (-1 : Int32)) hx hb d_BitSource_take_19 (by decide) ?_
    obtain rfl := Option.some.inj h
    exact W.iret (v := (-1 : Int32)) hx hb hr (fun t ht hW => ⟨⟨_, (), rfl, rfl, by rw [ht]; exact hP, va_K.moved hW.alike hK, hD⟩, hS.F ht⟩) hS.2.2 d_BitSource_take_20
/-! PackedBytes$BitSource.toWholeByte()V -/
def fBitSource_toWholeByte (N : Nat) (v_t_place : Int32) : Option (Int32) :=
    some ((v_t_place + (7 : Int32)) &&& (-8 : Int32))
set_option maxHeartbeats 4000000 in
set_option maxRecDepth 100000 in
theorem cBitSource_toWholeByte (l : Launch) (dC : Nat → ClassId) (dI : Nat → Nat → Nat) (h_t h_t_from : Nat) (cB cI cJ : ClassId) (sz : Nat) (N : Nat) (v_t_place : Int32) (o : Int32) (h : fBitSource_toWholeByte N v_t_place = some o) : Met l y_BitSource_toWholeByte w_BitSource_toWholeByte ({ frames := 0, cells := 0, slots := 0, locals := 0 } : Room) (va_Pc [.ref h_t] (fun U => U.heap.size = sz ∧ va_P (dC, dI) vwCl [(h_t, .inr (1, [.ref h_t_from, .int v_t_place]))] U.heap ∧ va_K (dC, dI) vwCl [(cB, .byte), (cI, .int), (cJ, .long)] U ∧ va_D (fun _ => True) [(h_t, .inr (1, [.ref h_t_from, .int v_t_place]))] ∧ NW U)) (va_Qv (fun _ : Unit => True) (fun _ t => va_P (dC, dI) vwCl [(h_t, .inr (1, [.ref h_t_from, .int o]))] t.heap ∧ va_K (dC, dI) vwCl [(cB, .byte), (cI, .int), (cJ, .long)] t ∧ va_D (va_A [(h_t, .inr (1, [.ref h_t_from, .int v_t_place]))] sz) [(h_t, .inr (1, [.ref h_t_from, .int o]))]) (va_A [(h_t, .inr (1, [.ref h_t_from, .int v_t_place]))] sz)) 0 0 (va_A [(h_t, .inr (1, [.ref h_t_from, .int v_t_place]))] sz) := by
  refine Met.ofW (cc := b_BitSource_toWholeByte) (maxL := 1) (ret := none) (by decide) rfl ?_
  intro p e s m args below meth c s₁ B hml hv
  obtain ⟨rfl, hsz, hP, hK, hD0, hN⟩ := hv
  have hx := B.exec
  have hb := B.bytes
  have hr := B.returns
  have hts := atoms_spec (ws := w_BitSource_toWholeByte) B.pre
  have ht : ∀ w ∈ TB, w.before ([.ref h_t]).toArray s = true := fun w h => hts w (List.mem_cons_of_mem _ h)
  have hown : s.vm.findClass R_BitSource = some m.cls := findClass_of_methodNamed B.named
  have hlocks := B.notSynchronized
  subst hsz
  have hD := hD0.self (sz := s.heap.size)
  generalize hAe : va_A [(h_t, .inr (1, [.ref h_t_from, .int v_t_place]))] s.heap.size = A at hD ⊢
  have hA : ∀ q : Nat, s.heap.size ≤ q → A q := fun q h => by rw [← hAe]; exact Or.inr h
  have hS : va_S A s.heap s.heap [] := va_S.rf
  have hP : va_P (dC, dI) vwCl [(h_t, .inr (1, [.ref h_t_from, .int v_t_place]))] s.heap := hP
  skip
  have hl := lv_entry ([.ref h_t]) (n := 1) (Nat.le_of_ble_eq_true rfl)
  rw [lg_entry_eq]
  generalize (lg_sl ([.ref h_t]) ++ List.replicate (1 - (lg_sl ([.ref h_t])).length) Slot.unset).toArray = ls at hl ⊢
  have hl : lv_has ls 1 [(0, .ref h_t)] := hl
  refine lv_aload_n hx hb d_BitSource_toWholeByte_0 rfl (lv_at hl 0 rfl) ?_
  refine lv_aload_n hx hb d_BitSource_toWholeByte_1 rfl (lv_at hl 0 rfl) ?_
  refine va_get (D := (dC, dI)) (ci := 1) (v := .int v_t_place) (C := R_BitSource) (T := F_BitSource) (N := 2) hx hb ht in_BitSource hown hK hP 0 rfl rfl 1 (by decide) (ht _ k_363) (fun _ h9 => h9) rfl d_BitSource_toWholeByte_2 ?_
  refine lv_bipush (v := (7 : Int32)) hx hb d_BitSource_toWholeByte_5 (by decide) ?_
  refine lv_iadd hx hb d_BitSource_toWholeByte_7 ?_
  refine lv_bipush (v := (-8 : Int32)) hx hb d_BitSource_toWholeByte_8 (by decide) ?_
  refine lv_iand hx hb d_BitSource_toWholeByte_10 ?_
  refine va_put (D := (dC, dI)) (ci := 1) (v := .int ((v_t_place + (7 : Int32)) &&& (-8 : Int32))) (ty := .int) (C := R_BitSource) (T := F_BitSource) (N := 2) hx hb ht in_BitSource t_BitSource t_BitSource_ok n_BitSource hown hK hP hD hS 0 rfl rfl 1 (by decide) (ht _ k_363) (fun _ h9 => h9) rfl (by decide +kernel) rfl rfl (Nat.le_of_ble_eq_true rfl) d_BitSource_toWholeByte_11 (fun H locs hP hD hS => ?_)
  have hP : va_P (dC, dI) vwCl [(h_t, .inr (1, [.ref h_t_from, .int ((v_t_place + (7 : Int32)) &&& (-8 : Int32))]))] H := hP
  have hD : va_D A [(h_t, .inr (1, [.ref h_t_from, .int ((v_t_place + (7 : Int32)) &&& (-8 : Int32))]))] := hD
  obtain rfl := Option.some.inj h
  exact W.vret hx hb hr (fun t ht hW => ⟨⟨(), rfl, trivial, by rw [ht]; exact hP, va_K.moved hW.alike hK, hD⟩, hS.F ht⟩) hS.2.2 d_BitSource_toWholeByte_14
/-! PackedBytes$BitSource.bytesTaken()I -/
def fBitSource_bytesTaken (N : Nat) (v_t_place : Int32) : Option (Int32) :=
    some ((v_t_place + (7 : Int32)) >>> ((3 : Int32) &&& 31))
set_option maxHeartbeats 4000000 in
set_option maxRecDepth 100000 in
theorem cBitSource_bytesTaken (l : Launch) (dC : Nat → ClassId) (dI : Nat → Nat → Nat) (h_t h_t_from : Nat) (cB cI cJ : ClassId) (sz : Nat) (N : Nat) (v_t_place : Int32) (o : Int32) (h : fBitSource_bytesTaken N v_t_place = some o) : Met l y_BitSource_bytesTaken w_BitSource_bytesTaken ({ frames := 0, cells := 0, slots := 0, locals := 0 } : Room) (va_Pc [.ref h_t] (fun U => U.heap.size = sz ∧ va_P (dC, dI) vwCl [(h_t, .inr (1, [.ref h_t_from, .int v_t_place]))] U.heap ∧ va_K (dC, dI) vwCl [(cB, .byte), (cI, .int), (cJ, .long)] U ∧ va_D (fun _ => True) [(h_t, .inr (1, [.ref h_t_from, .int v_t_place]))] ∧ NW U)) (va_Qi (fun r (_ : Unit) => r = o) (fun _ t => va_P (dC, dI) vwCl [(h_t, .inr (1, [.ref h_t_from, .int v_t_place]))] t.heap ∧ va_K (dC, dI) vwCl [(cB, .byte), (cI, .int), (cJ, .long)] t ∧ va_D (va_A [(h_t, .inr (1, [.ref h_t_from, .int v_t_place]))] sz) [(h_t, .inr (1, [.ref h_t_from, .int v_t_place]))]) (va_A [(h_t, .inr (1, [.ref h_t_from, .int v_t_place]))] sz)) 0 0 (va_A [(h_t, .inr (1, [.ref h_t_from, .int v_t_place]))] sz) := by
  refine Met.ofW (cc := b_BitSource_bytesTaken) (maxL := 1) (ret := (some .int)) (by decide) rfl ?_
  intro p e s m args below meth c s₁ B hml hv
  obtain ⟨rfl, hsz, hP, hK, hD0, hN⟩ := hv
  have hx := B.exec
  have hb := B.bytes
  have hr := B.returns
  have hts := atoms_spec (ws := w_BitSource_bytesTaken) B.pre
  have ht : ∀ w ∈ TB, w.before ([.ref h_t]).toArray s = true := fun w h => hts w (List.mem_cons_of_mem _ h)
  have hown : s.vm.findClass R_BitSource = some m.cls := findClass_of_methodNamed B.named
  have hlocks := B.notSynchronized
  subst hsz
  have hD := hD0.self (sz := s.heap.size)
  generalize hAe : va_A [(h_t, .inr (1, [.ref h_t_from, .int v_t_place]))] s.heap.size = A at hD ⊢
  have hA : ∀ q : Nat, s.heap.size ≤ q → A q := fun q h => by rw [← hAe]; exact Or.inr h
  have hS : va_S A s.heap s.heap [] := va_S.rf
  have hP : va_P (dC, dI) vwCl [(h_t, .inr (1, [.ref h_t_from, .int v_t_place]))] s.heap := hP
  skip
  have hl := lv_entry ([.ref h_t]) (n := 1) (Nat.le_of_ble_eq_true rfl)
  rw [lg_entry_eq]
  generalize (lg_sl ([.ref h_t]) ++ List.replicate (1 - (lg_sl ([.ref h_t])).length) Slot.unset).toArray = ls at hl ⊢
  have hl : lv_has ls 1 [(0, .ref h_t)] := hl
  refine lv_aload_n hx hb d_BitSource_bytesTaken_0 rfl (lv_at hl 0 rfl) ?_
  refine va_get (D := (dC, dI)) (ci := 1) (v := .int v_t_place) (C := R_BitSource) (T := F_BitSource) (N := 2) hx hb ht in_BitSource hown hK hP 0 rfl rfl 1 (by decide) (ht _ k_363) (fun _ h9 => h9) rfl d_BitSource_bytesTaken_1 ?_
  refine lv_bipush (v := (7 : Int32)) hx hb d_BitSource_bytesTaken_4 (by decide) ?_
  refine lv_iadd hx hb d_BitSource_bytesTaken_6 ?_
  refine lv_iconst (v := (3 : Int32)) hx hb d_BitSource_bytesTaken_7 (by decide) ?_
  refine lv_ishr hx hb d_BitSource_bytesTaken_8 ?_
  obtain rfl := Option.some.inj h
  exact W.iret (v := (v_t_place + (7 : Int32)) >>> ((3 : Int32) &&& 31)) hx hb hr (fun t ht hW => ⟨⟨_, (), rfl, rfl, by rw [ht]; exact hP, va_K.moved hW.alike hK, hD⟩, hS.F ht⟩) hS.2.2 d_BitSource_bytesTaken_9
