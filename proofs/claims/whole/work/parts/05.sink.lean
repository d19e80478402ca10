theorem d_BitSink_restart_0 : decode b_BitSink_restart 0 = .ok (.aload_n 0, 1) := by decide +kernel
theorem d_BitSink_restart_1 : decode b_BitSink_restart 1 = .ok (.getfield 16, 3) := by decide +kernel
theorem d_BitSink_restart_4 : decode b_BitSink_restart 4 = .ok (.iconst 0, 1) := by decide +kernel
theorem d_BitSink_restart_5 : decode b_BitSink_restart 5 = .ok (.putfield 20, 3) := by decide +kernel
theorem d_BitSink_restart_8 : decode b_BitSink_restart 8 = .ok (.aload_n 0, 1) := by decide +kernel
theorem d_BitSink_restart_9 : decode b_BitSink_restart 9 = .ok (.iconst 0, 1) := by decide +kernel
theorem d_BitSink_restart_10 : decode b_BitSink_restart 10 = .ok (.putfield 7, 3) := by decide +kernel
theorem d_BitSink_restart_13 : decode b_BitSink_restart 13 = .ok (.aload_n 0, 1) := by decide +kernel
theorem d_BitSink_restart_14 : decode b_BitSink_restart 14 = .ok (.iconst 0, 1) := by decide +kernel
theorem d_BitSink_restart_15 : decode b_BitSink_restart 15 = .ok (.putfield 13, 3) := by decide +kernel
theorem d_BitSink_restart_18 : decode b_BitSink_restart 18 = .ok (.return_, 1) := by decide +kernel
theorem d_BitSink_put_0 : decode b_BitSink_put 0 = .ok (.aload_n 0, 1) := by decide +kernel
theorem d_BitSink_put_1 : decode b_BitSink_put 1 = .ok (.dup, 1) := by decide +kernel
theorem d_BitSink_put_2 : decode b_BitSink_put 2 = .ok (.getfield 7, 3) := by decide +kernel
theorem d_BitSink_put_5 : decode b_BitSink_put 5 = .ok (.iload_n 1, 1) := by decide +kernel
theorem d_BitSink_put_6 : decode b_BitSink_put 6 = .ok (.aload_n 0, 1) := by decide +kernel
theorem d_BitSink_put_7 : decode b_BitSink_put 7 = .ok (.getfield 13, 3) := by decide +kernel
theorem d_BitSink_put_10 : decode b_BitSink_put 10 = .ok (.ishl, 1) := by decide +kernel
theorem d_BitSink_put_11 : decode b_BitSink_put 11 = .ok (.ior, 1) := by decide +kernel
theorem d_BitSink_put_12 : decode b_BitSink_put 12 = .ok (.putfield 7, 3) := by decide +kernel
theorem d_BitSink_put_15 : decode b_BitSink_put 15 = .ok (.aload_n 0, 1) := by decide +kernel
theorem d_BitSink_put_16 : decode b_BitSink_put 16 = .ok (.dup, 1) := by decide +kernel
theorem d_BitSink_put_17 : decode b_BitSink_put 17 = .ok (.getfield 13, 3) := by decide +kernel
theorem d_BitSink_put_20 : decode b_BitSink_put 20 = .ok (.iload_n 2, 1) := by decide +kernel
theorem d_BitSink_put_21 : decode b_BitSink_put 21 = .ok (.iadd, 1) := by decide +kernel
theorem d_BitSink_put_22 : decode b_BitSink_put 22 = .ok (.putfield 13, 3) := by decide +kernel
theorem d_BitSink_put_25 : decode b_BitSink_put 25 = .ok (.aload_n 0, 1) := by decide +kernel
theorem d_BitSink_put_26 : decode b_BitSink_put 26 = .ok (.getfield 13, 3) := by decide +kernel
theorem d_BitSink_put_29 : decode b_BitSink_put 29 = .ok (.bipush 8, 2) := by decide +kernel
theorem d_BitSink_put_31 : decode b_BitSink_put 31 = .ok (.if_icmp .lt 39, 3) := by decide +kernel
theorem d_BitSink_put_34 : decode b_BitSink_put 34 = .ok (.aload_n 0, 1) := by decide +kernel
theorem d_BitSink_put_35 : decode b_BitSink_put 35 = .ok (.getfield 16, 3) := by decide +kernel
theorem d_BitSink_put_38 : decode b_BitSink_put 38 = .ok (.aload_n 0, 1) := by decide +kernel
theorem d_BitSink_put_39 : decode b_BitSink_put 39 = .ok (.getfield 7, 3) := by decide +kernel
theorem d_BitSink_put_42 : decode b_BitSink_put 42 = .ok (.invokevirtual 25, 3) := by decide +kernel
theorem d_BitSink_put_45 : decode b_BitSink_put 45 = .ok (.aload_n 0, 1) := by decide +kernel
theorem d_BitSink_put_46 : decode b_BitSink_put 46 = .ok (.dup, 1) := by decide +kernel
theorem d_BitSink_put_47 : decode b_BitSink_put 47 = .ok (.getfield 7, 3) := by decide +kernel
theorem d_BitSink_put_50 : decode b_BitSink_put 50 = .ok (.bipush 8, 2) := by decide +kernel
theorem d_BitSink_put_52 : decode b_BitSink_put 52 = .ok (.iushr, 1) := by decide +kernel
theorem d_BitSink_put_53 : decode b_BitSink_put 53 = .ok (.putfield 7, 3) := by decide +kernel
theorem d_BitSink_put_56 : decode b_BitSink_put 56 = .ok (.aload_n 0, 1) := by decide +kernel
theorem d_BitSink_put_57 : decode b_BitSink_put 57 = .ok (.dup, 1) := by decide +kernel
theorem d_BitSink_put_58 : decode b_BitSink_put 58 = .ok (.getfield 13, 3) := by decide +kernel
theorem d_BitSink_put_61 : decode b_BitSink_put 61 = .ok (.bipush 8, 2) := by decide +kernel
theorem d_BitSink_put_63 : decode b_BitSink_put 63 = .ok (.isub, 1) := by decide +kernel
theorem d_BitSink_put_64 : decode b_BitSink_put 64 = .ok (.putfield 13, 3) := by decide +kernel
theorem d_BitSink_put_67 : decode b_BitSink_put 67 = .ok (.goto (-42), 3) := by decide +kernel
theorem d_BitSink_put_70 : decode b_BitSink_put 70 = .ok (.return_, 1) := by decide +kernel
theorem d_BitSink_fillByte_0 : decode b_BitSink_fillByte 0 = .ok (.aload_n 0, 1) := by decide +kernel
theorem d_BitSink_fillByte_1 : decode b_BitSink_fillByte 1 = .ok (.getfield 13, 3) := by decide +kernel
theorem d_BitSink_fillByte_4 : decode b_BitSink_fillByte 4 = .ok (.ifCond .le 14, 3) := by decide +kernel
theorem d_BitSink_fillByte_7 : decode b_BitSink_fillByte 7 = .ok (.aload_n 0, 1) := by decide +kernel
theorem d_BitSink_fillByte_8 : decode b_BitSink_fillByte 8 = .ok (.getfield 16, 3) := by decide +kernel
theorem d_BitSink_fillByte_11 : decode b_BitSink_fillByte 11 = .ok (.aload_n 0, 1) := by decide +kernel
theorem d_BitSink_fillByte_12 : decode b_BitSink_fillByte 12 = .ok (.getfield 7, 3) := by decide +kernel
theorem d_BitSink_fillByte_15 : decode b_BitSink_fillByte 15 = .ok (.invokevirtual 25, 3) := by decide +kernel
theorem d_BitSink_fillByte_18 : decode b_BitSink_fillByte 18 = .ok (.aload_n 0, 1) := by decide +kernel
theorem d_BitSink_fillByte_19 : decode b_BitSink_fillByte 19 = .ok (.iconst 0, 1) := by decide +kernel
theorem d_BitSink_fillByte_20 : decode b_BitSink_fillByte 20 = .ok (.putfield 7, 3) := by decide +kernel
theorem d_BitSink_fillByte_23 : decode b_BitSink_fillByte 23 = .ok (.aload_n 0, 1) := by decide +kernel
theorem d_BitSink_fillByte_24 : decode b_BitSink_fillByte 24 = .ok (.iconst 0, 1) := by decide +kernel
theorem d_BitSink_fillByte_25 : decode b_BitSink_fillByte 25 = .ok (.putfield 13, 3) := by decide +kernel
theorem d_BitSink_fillByte_28 : decode b_BitSink_fillByte 28 = .ok (.return_, 1) := by decide +kernel
/-! PackedBytes$BitSink.restart()V -/
def fBitSink_restart (N : Nat) : Option (Int32 × Int32 × Int32) :=
    some ((0 : Int32), (0 : Int32), (0 : Int32))
set_option maxHeartbeats 4000000 in
set_option maxRecDepth 100000 in
theorem cBitSink_restart (l : Launch) (dC : Nat → ClassId) (dI : Nat → Nat → Nat) (h_t h_t_to h_t_to_cells : Nat) (cB cI cJ : ClassId) (sz : Nat) (N : Nat) (v_t_held : Int32) (v_t_heldBits : Int32) (v_t_to_count : Int32) (o : Int32 × Int32 × Int32) (h : fBitSink_restart N = some o) : Met l y_BitSink_restart w_BitSink_restart ({ frames := 0, cells := 0, slots := 0, locals := 0 } : Room) (va_Pc [.ref h_t] (fun U => U.heap.size = sz ∧ va_P (dC, dI) vwCl [(h_t, .inr (0, [.ref h_t_to, .int v_t_held, .int v_t_heldBits])), (h_t_to, .inr (7, [.ref h_t_to_cells, .int v_t_to_count]))] U.heap ∧ va_K (dC, dI) vwCl [(cB, .byte), (cI, .int), (cJ, .long)] U ∧ va_D (fun _ => True) [(h_t, .inr (0, [.ref h_t_to, .int v_t_held, .int v_t_heldBits])), (h_t_to, .inr (7, [.ref h_t_to_cells, .int v_t_to_count]))] ∧ NW U)) (va_Qv (fun _ : Unit => True) (fun _ t => va_P (dC, dI) vwCl [(h_t, .inr (0, [.ref h_t_to, .int o.1, .int o.2.1])), (h_t_to, .inr (7, [.ref h_t_to_cells, .int o.2.2]))] t.heap ∧ va_K (dC, dI) vwCl [(cB, .byte), (cI, .int), (cJ, .long)] t ∧ va_D (va_A [(h_t, .inr (0, [.ref h_t_to, .int v_t_held, .int v_t_heldBits])), (h_t_to, .inr (7, [.ref h_t_to_cells, .int v_t_to_count]))] sz) [(h_t, .inr (0, [.ref h_t_to, .int o.1, .int o.2.1])), (h_t_to, .inr (7, [.ref h_t_to_cells, .int o.2.2]))]) (va_A [(h_t, .inr (0, [.ref h_t_to, .int v_t_held, .int v_t_heldBits])), (h_t_to, .inr (7, [.ref h_t_to_cells, .int v_t_to_count]))] sz)) 0 0 (va_A [(h_t, .inr (0, [.ref h_t_to, .int v_t_held, .int v_t_heldBits])), (h_t_to, .inr (7, [.ref h_t_to_cells, .int v_t_to_count]))] sz) := by
  refine Met.ofW (cc := b_BitSink_restart) (maxL := 1) (ret := none) (by decide) rfl ?_
  intro p e s m args below meth c s₁ B hml hv
  obtain ⟨rfl, hsz, hP, hK, hD0, hN⟩ := hv
  have hx := B.exec
  have hb := B.bytes
  have hr := B.returns
  have hts := atoms_spec (ws := w_BitSink_restart) B.pre
  have ht : ∀ w ∈ TB, w.before ([.ref h_t]).toArray s = true := fun w h => hts w (List.mem_cons_of_mem _ h)
  have hown : s.vm.findClass R_BitSink = some m.cls := findClass_of_methodNamed B.named
  have hlocks := B.notSynchronized
  subst hsz
  have hD := hD0.self (sz := s.heap.size)
  generalize hAe : va_A [(h_t, .inr (0, [.ref h_t_to, .int v_t_held, .int v_t_heldBits])), (h_t_to, .inr (7, [.ref h_t_to_cells, .int v_t_to_count]))] s.heap.size = A at hD ⊢
  have hA : ∀ q : Nat, s.heap.size ≤ q → A q := fun q h => by rw [← hAe]; exact Or.inr h
  have hS : va_S A s.heap s.heap [] := va_S.rf
  have hP : va_P (dC, dI) vwCl [(h_t, .inr (0, [.ref h_t_to, .int v_t_held, .int v_t_heldBits])), (h_t_to, .inr (7, [.ref h_t_to_cells, .int v_t_to_count]))] s.heap := hP
  skip
  have hl := lv_entry ([.ref h_t]) (n := 1) (Nat.le_of_ble_eq_true rfl)
  rw [lg_entry_eq]
  generalize (lg_sl ([.ref h_t]) ++ List.replicate (1 - (lg_sl ([.ref h_t])).length) Slot.unset).toArray = ls at hl ⊢
  have hl : lv_has ls 1 [(0, .ref h_t)] := hl
  refine lv_aload_n hx hb d_BitSink_restart_0 rfl (lv_at hl 0 rfl) ?_
  refine va_get (D := (dC, dI)) (ci := 0) (v := .ref h_t_to) (C := R_BitSink) (T := F_BitSink) (N := 3) hx hb ht in_BitSink hown hK hP 0 rfl rfl 0 (by decide) (ht _ k_233) (fun _ h9 => h9) rfl d_BitSink_restart_1 ?_
  refine lv_iconst (v := (0 : Int32)) hx hb d_BitSink_restart_4 (by decide) ?_
  refine va_put (D := (dC, dI)) (ci := 7) (v := .int (0 : Int32)) (ty := .int) (C := R_Row) (T := F_Row) (N := 2) hx hb ht in_Row t_Row t_Row_ok n_Row hown hK hP hD hS 1 rfl rfl 1 (by decide) (ht _ k_109) (fun _ h9 => h9) rfl (by decide +kernel) rfl rfl (Nat.le_of_ble_eq_true rfl) d_BitSink_restart_5 (fun H locs hP hD hS => ?_)
  have hP : va_P (dC, dI) vwCl [(h_t, .inr (0, [.ref h_t_to, .int v_t_held, .int v_t_heldBits])), (h_t_to, .inr (7, [.ref h_t_to_cells, .int (0 : Int32)]))] H := hP
  have hD : va_D A [(h_t, .inr (0, [.ref h_t_to, .int v_t_held, .int v_t_heldBits])), (h_t_to, .inr (7, [.ref h_t_to_cells, .int (0 : Int32)]))] := hD
  refine lv_aload_n hx hb d_BitSink_restart_8 rfl (lv_at hl 0 rfl) ?_
  refine lv_iconst (v := (0 : Int32)) hx hb d_BitSink_restart_9 (by decide) ?_
  refine va_put (D := (dC, dI)) (ci := 0) (v := .int (0 : Int32)) (ty := .int) (C := R_BitSink) (T := F_BitSink) (N := 3) hx hb ht in_BitSink t_BitSink t_BitSink_ok n_BitSink hown hK hP hD hS 0 rfl rfl 1 (by decide) (ht _ k_234) (fun _ h9 => h9) rfl (by decide +kernel) rfl rfl (Nat.le_of_ble_eq_true rfl) d_BitSink_restart_10 (fun H locs hP hD hS => ?_)
  have hP : va_P (dC, dI) vwCl [(h_t, .inr (0, [.ref h_t_to, .int (0 : Int32), .int v_t_heldBits])), (h_t_to, .inr (7, [.ref h_t_to_cells, .int (0 : Int32)]))] H := hP
  have hD : va_D A [(h_t, .inr (0, [.ref h_t_to, .int (0 : Int32), .int v_t_heldBits])), (h_t_to, .inr (7, [.ref h_t_to_cells, .int (0 : Int32)]))] := hD
  refine lv_aload_n hx hb d_BitSink_restart_13 rfl (lv_at hl 0 rfl) ?_
  refine lv_iconst (v := (0 : Int32)) hx hb d_BitSink_restart_14 (by decide) ?_
  refine va_put (D := (dC, dI)) (ci := 0) (v := .int (0 : Int32)) (ty := .int) (C := R_BitSink) (T := F_BitSink) (N := 3) hx hb ht in_BitSink t_BitSink t_BitSink_ok n_BitSink hown hK hP hD hS 0 rfl rfl 2 (by decide) (ht _ k_235) (fun _ h9 => h9) rfl (by decide +kernel) rfl rfl (Nat.le_of_ble_eq_true rfl) d_BitSink_restart_15 (fun H locs hP hD hS => ?_)
  have hP : va_P (dC, dI) vwCl [(h_t, .inr (0, [.ref h_t_to, .int (0 : Int32), .int (0 : Int32)])), (h_t_to, .inr (7, [.ref h_t_to_cells, .int (0 : Int32)]))] H := hP
  have hD : va_D A [(h_t, .inr (0, [.ref h_t_to, .int (0 : Int32), .int (0 : Int32)])), (h_t_to, .inr (7, [.ref h_t_to_cells, .int (0 : Int32)]))] := hD
  obtain rfl := Option.some.inj h
  exact W.vret hx hb hr (fun t ht hW => ⟨⟨(), rfl, trivial, by rw [ht]; exact hP, va_K.moved hW.alike hK, hD⟩, hS.F ht⟩) hS.2.2 d_BitSink_restart_18
/-! PackedBytes$BitSink.put(II)V -/
def fBitSink_put_25 (N : Nat) : Nat → (Int32) → (Int32) → (Int32) → (Nat → Int32) → Option (Int32 × Int32 × Int32 × (Nat → Int32))
  | 0, _, _, _, _ => none
  | k + 1, v_t_held, v_t_heldBits, v_t_to_count, f_t_to_cells =>
    if v_t_heldBits < (8 : Int32) then
      some (v_t_held, v_t_heldBits, v_t_to_count, f_t_to_cells)
    else
      (fRow_add N v_t_held v_t_to_count f_t_to_cells).bind (fun y2 =>
        fBitSink_put_25 N k (jus v_t_held (8 : Int32)) (v_t_heldBits - (8 : Int32)) y2.1 y2.2)
def fBitSink_put (N : Nat) (p1 : Int32) (p2 : Int32) (v_t_held : Int32) (v_t_heldBits : Int32) (v_t_to_count : Int32) (f_t_to_cells : Nat → Int32) : Option (Int32 × Int32 × Int32 × (Nat → Int32)) :=
    (fBitSink_put_25 N N (v_t_held ||| (p1 <<< (v_t_heldBits &&& 31))) (v_t_heldBits + p2) v_t_to_count f_t_to_cells).bind (fun y3 =>
      some (y3.1, y3.2.1, y3.2.2.1, y3.2.2.2))
set_option maxHeartbeats 4000000 in
set_option maxRecDepth 100000 in
theorem wBitSink_put_25 {p : Program} {l : Launch} {e : Env} {s : State} {m : MethodId} {args : Array Value} {below : List Frame} {meth : Method} {c : Code} {Q : State → Prop} {A : Nat → Prop} {dC : Nat → ClassId} {dI : Nat → Nat → Nat} (h_t h_t_to h_t_to_cells : Nat) (cB cI cJ : ClassId) (N : Nat) (C : CX p s m args c b_BitSink_put 3 R_BitSink A (dC, dI) [(cB, .byte), (cI, .int), (cJ, .long)]) :
    ∀ (n : Nat) (v_t_held : Int32) (v_t_heldBits : Int32) (v_t_to_count : Int32) (f_t_to_cells : Nat → Int32) (H : Heap) (locs : List Loc) (ls : Array Slot) (o : Int32 × Int32 × Int32 × (Nat → Int32)), va_P (dC, dI) vwCl [(h_t, .inr (0, [.ref h_t_to, .int v_t_held, .int v_t_heldBits])), (h_t_to, .inr (7, [.ref h_t_to_cells, .int v_t_to_count])), (h_t_to_cells, .inl (cB, 65546, .inl (bf f_t_to_cells)))] H → va_D A [(h_t, .inr (0, [.ref h_t_to, .int v_t_held, .int v_t_heldBits])), (h_t_to, .inr (7, [.ref h_t_to_cells, .int v_t_to_count])), (h_t_to_cells, .inl (cB, 65546, .inl (bf f_t_to_cells)))] → va_S A s.heap H locs → lv_has ls 3 [(0, .ref h_t)] → fBitSink_put_25 N n v_t_held v_t_heldBits v_t_to_count f_t_to_cells = some o → (∀ (H : Heap) (locs : List Loc) (ls : Array Slot), va_P (dC, dI) vwCl [(h_t, .inr (0, [.ref h_t_to, .int o.1, .int o.2.1])), (h_t_to, .inr (7, [.ref h_t_to_cells, .int o.2.2.1])), (h_t_to_cells, .inl (cB, 65546, .inl (bf o.2.2.2)))] H → va_D A [(h_t, .inr (0, [.ref h_t_to, .int o.1, .int o.2.1])), (h_t_to, .inr (7, [.ref h_t_to_cells, .int o.2.2.1])), (h_t_to_cells, .inl (cB, 65546, .inl (bf o.2.2.2)))] → va_S A s.heap H locs → lv_has ls 3 [] → W p l e ({ frames := 1, cells := 0, slots := 0, locals := 21 } : Room) s m args below meth c H locs 0 0 Q (F0 m 70 ls [])) → W p l e ({ frames := 1, cells := 0, slots := 0, locals := 21 } : Room) s m args below meth c H locs 0 0 Q (F0 m 25 ls []) := by
  obtain ⟨hx, hb, hml, hown, ht, hA, hK, hN⟩ := id C
  intro n
  induction n with
  | zero => intro v_t_held v_t_heldBits v_t_to_count f_t_to_cells H locs ls o _ _ _ _ h; exact nomatch h
  | succ k ih =>
    intro v_t_held v_t_heldBits v_t_to_count f_t_to_cells H locs ls o hP hD hS hl h kx
    refine lv_aload_n hx hb d_BitSink_put_25 rfl (lv_at hl 0 rfl) ?_
    refine va_get (D := (dC, dI)) (ci := 0) (v := .int v_t_heldBits) (C := R_BitSink) (T := F_BitSink) (N := 3) hx hb ht in_BitSink hown hK hP 0 rfl rfl 2 (by decide) (ht _ k_235) (fun _ h9 => h9) rfl d_BitSink_put_26 ?_
    refine lv_bipush (v := (8 : Int32)) hx hb d_BitSink_put_29 (by decide) ?_
    refine lv_icmp_lt (tgt := 70) hx hb d_BitSink_put_31 (by decide) (fun c1 => ?_) (fun c1 => ?_)
    · replace h := ip_p c1 h
      obtain rfl := Option.some.inj h
      exact kx _ _ _ hP hD hS (lv_sub hl [] rfl)
    · replace h := ip_n c1 h
      refine lv_aload_n hx hb d_BitSink_put_34 rfl (lv_at hl 0 rfl) ?_
      refine va_get (D := (dC, dI)) (ci := 0) (v := .ref h_t_to) (C := R_BitSink) (T := F_BitSink) (N := 3) hx hb ht in_BitSink hown hK hP 0 rfl rfl 0 (by decide) (ht _ k_233) (fun _ h9 => h9) rfl d_BitSink_put_35 ?_
      refine lv_aload_n hx hb d_BitSink_put_38 rfl (lv_at hl 0 rfl) ?_
      refine va_get (D := (dC, dI)) (ci := 0) (v := .int v_t_held) (C := R_BitSink) (T := F_BitSink) (N := 3) hx hb ht in_BitSink hown hK hP 0 rfl rfl 1 (by decide) (ht _ k_234) (fun _ h9 => h9) rfl d_BitSink_put_39 ?_
      obtain ⟨y2, hy2, h⟩ := bd h
      have hPc := hP.sub (ws' := [(h_t_to, .inr (7, [.ref h_t_to_cells, .int v_t_to_count])), (h_t_to_cells, .inl (cB, 65546, .inl (bf f_t_to_cells)))]) [1, 2] rfl
      have hDc := hD.sub (ws' := [(h_t_to, .inr (7, [.ref h_t_to_cells, .int v_t_to_count])), (h_t_to_cells, .inl (cB, 65546, .inl (bf f_t_to_cells)))]) [1, 2] (by decide) rfl
      have hFc := va_free (wc := [(h_t_to, .inr (7, [.ref h_t_to_cells, .int v_t_to_count])), (h_t_to_cells, .inl (cB, 65546, .inl (bf f_t_to_cells)))]) hD hS hA [1, 2] rfl
      refine va_callv (va_runV (As := [.int v_t_held]) (rest := []) ⟨hx, hb, hml, hown, ht⟩ (cRow_add l dC dI h_t_to h_t_to_cells cB cI cJ _ N v_t_held v_t_to_count f_t_to_cells y2 hy2) (⟨callB_of 1 ht (gTB (k_611)) rfl rfl rfl (ht _ k_66) (ht _ k_608) (by decide +kernel) ⟨Nat.le_of_ble_eq_true rfl, Nat.le_of_ble_eq_true rfl⟩, ht _ k_609, ht _ k_610⟩) ⟨fun a U g mk q => by obtain ⟨q0, q1, qP, qK, qD, qN⟩ := q; exact ⟨q0, q1, qP, va_K.moved (u := U) (U := U.calling g mk a) (Vm.Alike.refl U.vm) qK, qD, NW_same (u := U) rfl qN⟩, va_recv hK hPc (ci := 7) (q0 := 0) rfl rfl, fun U hU hW => ⟨rfl, by rw [hU], by rw [hU]; exact hPc, va_K.moved hW.alike hK, hDc.weaken (fun _ _ _ _ => trivial), NW_warm hW hN⟩⟩ rfl rfl hl.1 rfl (lv_room (Nat.le_of_ble_eq_true rfl)) d_BitSink_put_42 ⟨Nat.le_of_ble_eq_true rfl, Nat.le_of_ble_eq_true rfl⟩) hS (fun q _ h => hFc q h) hFc (fun u t H1 locs htH hvm hw hB hz1 hk1 hS => ?_)
      obtain ⟨hP1, hK1, hD1⟩ := hB
      rw [htH] at hP1
      obtain ⟨hP, hD⟩ := va_join (wr := [(h_t, .inr (0, [.ref h_t_to, .int v_t_held, .int v_t_heldBits]))]) (w1 := [(h_t_to, .inr (7, [.ref h_t_to_cells, .int y2.1])), (h_t_to_cells, .inl (cB, 65546, .inl (bf y2.2)))]) hP hD [1, 2] [0] rfl rfl (by decide) (by decide) hk1 hFc hP1 hD1
      generalize H1 = H at hP hS ⊢
      have hP : va_P (dC, dI) vwCl [(h_t, .inr (0, [.ref h_t_to, .int v_t_held, .int v_t_heldBits])), (h_t_to, .inr (7, [.ref h_t_to_cells, .int y2.1])), (h_t_to_cells, .inl (cB, 65546, .inl (bf y2.2)))] H := hP.sub [0, 1, 2] rfl
      have hD : va_D A [(h_t, .inr (0, [.ref h_t_to, .int v_t_held, .int v_t_heldBits])), (h_t_to, .inr (7, [.ref h_t_to_cells, .int y2.1])), (h_t_to_cells, .inl (cB, 65546, .inl (bf y2.2)))] := hD.sub [0, 1, 2] (by decide) rfl
      refine lv_aload_n hx hb d_BitSink_put_45 rfl (lv_at hl 0 rfl) ?_
      refine lv_dup hx hb d_BitSink_put_46 rfl ?_
      refine va_get (D := (dC, dI)) (ci := 0) (v := .int v_t_held) (C := R_BitSink) (T := F_BitSink) (N := 3) hx hb ht in_BitSink hown hK hP 0 rfl rfl 1 (by decide) (ht _ k_234) (fun _ h9 => h9) rfl d_BitSink_put_47 ?_
      refine lv_bipush (v := (8 : Int32)) hx hb d_BitSink_put_50 (by decide) ?_
      refine lv_iushr (v := jus v_t_held (8 : Int32)) hx hb d_BitSink_put_52 rfl ?_
      refine va_put (D := (dC, dI)) (ci := 0) (v := .int (jus v_t_held (8 : Int32))) (ty := .int) (C := R_BitSink) (T := F_BitSink) (N := 3) hx hb ht in_BitSink t_BitSink t_BitSink_ok n_BitSink hown hK hP hD hS 0 rfl rfl 1 (by decide) (ht _ k_234) (fun _ h9 => h9) rfl (by decide +kernel) rfl rfl (Nat.le_of_ble_eq_true rfl) d_BitSink_put_53 (fun H locs hP hD hS => ?_)
      have hP : va_P (dC, dI) vwCl [(h_t, .inr (0, [.ref h_t_to, .int (jus v_t_held (8 : Int32)), .int v_t_heldBits])), (h_t_to, .inr (7, [.ref h_t_to_cells, .int y2.1])), (h_t_to_cells, .inl (cB, 65546, .inl (bf y2.2)))] H := hP
      have hD : va_D A [(h_t, .inr (0, [.ref h_t_to, .int (jus v_t_held (8 : Int32)), .int v_t_heldBits])), (h_t_to, .inr (7, [.ref h_t_to_cells, .int y2.1])), (h_t_to_cells, .inl (cB, 65546, .inl (bf y2.2)))] := hD
      refine lv_aload_n hx hb d_BitSink_put_56 rfl (lv_at hl 0 rfl) ?_
      refine lv_dup hx hb d_BitSink_put_57 rfl ?_
      refine va_get (D := (dC, dI)) (ci := 0) (v := .int v_t_heldBits) (C := R_BitSink) (T := F_BitSink) (N := 3) hx hb ht in_BitSink hown hK hP 0 rfl rfl 2 (by decide) (ht _ k_235) (fun _ h9 => h9) rfl d_BitSink_put_58 ?_
      refine lv_bipush (v := (8 : Int32)) hx hb d_BitSink_put_61 (by decide) ?_
      refine lv_isub hx hb d_BitSink_put_63 ?_
      refine va_put (D := (dC, dI)) (ci := 0) (v := .int (v_t_heldBits - (8 : Int32))) (ty := .int) (C := R_BitSink) (T := F_BitSink) (N := 3) hx hb ht in_BitSink t_BitSink t_BitSink_ok n_BitSink hown hK hP hD hS 0 rfl rfl 2 (by decide) (ht _ k_235) (fun _ h9 => h9) rfl (by decide +kernel) rfl rfl (Nat.le_of_ble_eq_true rfl) d_BitSink_put_64 (fun H locs hP hD hS => ?_)
      have hP : va_P (dC, dI) vwCl [(h_t, .inr (0, [.ref h_t_to, .int (jus v_t_held (8 : Int32)), .int (v_t_heldBits - (8 : Int32))])), (h_t_to, .inr (7, [.ref h_t_to_cells, .int y2.1])), (h_t_to_cells, .inl (cB, 65546, .inl (bf y2.2)))] H := hP
      have hD : va_D A [(h_t, .inr (0, [.ref h_t_to, .int (jus v_t_held (8 : Int32)), .int (v_t_heldBits - (8 : Int32))])), (h_t_to, .inr (7, [.ref h_t_to_cells, .int y2.1])), (h_t_to_cells, .inl (cB, 65546, .inl (bf y2.2)))] := hD
      refine lv_goto (tgt := 25) hx hb d_BitSink_put_67 (by decide) ?_
      exact ih (jus v_t_held (8 : Int32)) (v_t_heldBits - (8 : Int32)) y2.1 y2.2 _ _ _ _ hP hD hS (lv_sub hl [0] rfl) h kx
set_option maxHeartbeats 4000000 in
set_option maxRecDepth 100000 in
theorem cBitSink_put (l : Launch) (dC : Nat → ClassId) (dI : Nat → Nat → Nat) (h_t h_t_to h_t_to_cells : Nat) (cB cI cJ : ClassId) (sz : Nat) (N : Nat) (p1 : Int32) (p2 : Int32) (v_t_held : Int32) (v_t_heldBits : Int32) (v_t_to_count : Int32) (f_t_to_cells : Nat → Int32) (o : Int32 × Int32 × Int32 × (Nat → Int32)) (h : fBitSink_put N p1 p2 v_t_held v_t_heldBits v_t_to_count f_t_to_cells = some o) : Met l y_BitSink_put w_BitSink_put ({ frames := 1, cells := 0, slots := 0, locals := 21 } : Room) (va_Pc [.ref h_t, .int p1, .int p2] (fun U => U.heap.size = sz ∧ va_P (dC, dI) vwCl [(h_t, .inr (0, [.ref h_t_to, .int v_t_held, .int v_t_heldBits])), (h_t_to, .inr (7, [.ref h_t_to_cells, .int v_t_to_count])), (h_t_to_cells, .inl (cB, 65546, .inl (bf f_t_to_cells)))] U.heap ∧ va_K (dC, dI) vwCl [(cB, .byte), (cI, .int), (cJ, .long)] U ∧ va_D (fun _ => True) [(h_t, .inr (0, [.ref h_t_to, .int v_t_held, .int v_t_heldBits])), (h_t_to, .inr (7, [.ref h_t_to_cells, .int v_t_to_count])), (h_t_to_cells, .inl (cB, 65546, .inl (bf f_t_to_cells)))] ∧ NW U)) (va_Qv (fun _ : Unit => True) (fun _ t => va_P (dC, dI) vwCl [(h_t, .inr (0, [.ref h_t_to, .int o.1, .int o.2.1])), (h_t_to, .inr (7, [.ref h_t_to_cells, .int o.2.2.1])), (h_t_to_cells, .inl (cB, 65546, .inl (bf o.2.2.2)))] t.heap ∧ va_K (dC, dI) vwCl [(cB, .byte), (cI, .int), (cJ, .long)] t ∧ va_D (va_A [(h_t, .inr (0, [.ref h_t_to, .int v_t_held, .int v_t_heldBits])), (h_t_to, .inr (7, [.ref h_t_to_cells, .int v_t_to_count])), (h_t_to_cells, .inl (cB, 65546, .inl (bf f_t_to_cells)))] sz) [(h_t, .inr (0, [.ref h_t_to, .int o.1, .int o.2.1])), (h_t_to, .inr (7, [.ref h_t_to_cells, .int o.2.2.1])), (h_t_to_cells, .inl (cB, 65546, .inl (bf o.2.2.2)))]) (va_A [(h_t, .inr (0, [.ref h_t_to, .int v_t_held, .int v_t_heldBits])), (h_t_to, .inr (7, [.ref h_t_to_cells, .int v_t_to_count])), (h_t_to_cells, .inl (cB, 65546, .inl (bf f_t_to_cells)))] sz)) 0 0 (va_A [(h_t, .inr (0, [.ref h_t_to, .int v_t_held, .int v_t_heldBits])), (h_t_to, .inr (7, [.ref h_t_to_cells, .int v_t_to_count])), (h_t_to_cells, .inl (cB, 65546, .inl (bf f_t_to_cells)))] sz) := by
  refine Met.ofW (cc := b_BitSink_put) (maxL := 3) (ret := none) (by decide) rfl ?_
  intro p e s m args below meth c s₁ B hml hv
  obtain ⟨rfl, hsz, hP, hK, hD0, hN⟩ := hv
  have hx := B.exec
  have hb := B.bytes
  have hr := B.returns
  have hts := atoms_spec (ws := w_BitSink_put) B.pre
  have ht : ∀ w ∈ TB, w.before ([.ref h_t, .int p1, .int p2]).toArray s = true := fun w h => hts w (List.mem_cons_of_mem _ h)
  have hown : s.vm.findClass R_BitSink = some m.cls := findClass_of_methodNamed B.named
  have hlocks := B.notSynchronized
  subst hsz
  have hD := hD0.self (sz := s.heap.size)
  generalize hAe : va_A [(h_t, .inr (0, [.ref h_t_to, .int v_t_held, .int v_t_heldBits])), (h_t_to, .inr (7, [.ref h_t_to_cells, .int v_t_to_count])), (h_t_to_cells, .inl (cB, 65546, .inl (bf f_t_to_cells)))] s.heap.size = A at hD ⊢
  have hA : ∀ q : Nat, s.heap.size ≤ q → A q := fun q h => by rw [← hAe]; exact Or.inr h
  have hS : va_S A s.heap s.heap [] := va_S.rf
  have hP : va_P (dC, dI) vwCl [(h_t, .inr (0, [.ref h_t_to, .int v_t_held, .int v_t_heldBits])), (h_t_to, .inr (7, [.ref h_t_to_cells, .int v_t_to_count])), (h_t_to_cells, .inl (cB, 65546, .inl (bf f_t_to_cells)))] s.heap := hP
  have C : CX p s m ([.ref h_t, .int p1, .int p2]).toArray c b_BitSink_put 3 R_BitSink A (dC, dI) [(cB, .byte), (cI, .int), (cJ, .long)] := ⟨hx, hb, hml, hown, ht, hA, hK, hN⟩
  have hl := lv_entry ([.ref h_t, .int p1, .int p2]) (n := 3) (Nat.le_of_ble_eq_true rfl)
  rw [lg_entry_eq]
  generalize (lg_sl ([.ref h_t, .int p1, .int p2]) ++ List.replicate (3 - (lg_sl ([.ref h_t, .int p1, .int p2])).length) Slot.unset).toArray = ls at hl ⊢
  have hl : lv_has ls 3 [(0, .ref h_t), (1, .int p1), (2, .int p2)] := hl
  refine lv_aload_n hx hb d_BitSink_put_0 rfl (lv_at hl 0 rfl) ?_
  refine lv_dup hx hb d_BitSink_put_1 rfl ?_
  refine va_get (D := (dC, dI)) (ci := 0) (v := .int v_t_held) (C := R_BitSink) (T := F_BitSink) (N := 3) hx hb ht in_BitSink hown hK hP 0 rfl rfl 1 (by decide) (ht _ k_234) (fun _ h9 => h9) rfl d_BitSink_put_2 ?_
  refine lv_iload_n hx hb d_BitSink_put_5 rfl (lv_at hl 1 rfl) ?_
  refine lv_aload_n hx hb d_BitSink_put_6 rfl (lv_at hl 0 rfl) ?_
  refine va_get (D := (dC, dI)) (ci := 0) (v := .int v_t_heldBits) (C := R_BitSink) (T := F_BitSink) (N := 3) hx hb ht in_BitSink hown hK hP 0 rfl rfl 2 (by decide) (ht _ k_235) (fun _ h9 => h9) rfl d_BitSink_put_7 ?_
  refine lv_ishl hx hb d_BitSink_put_10 ?_
  refine lv_ior hx hb d_BitSink_put_11 ?_
  refine va_put (D := (dC, dI)) (ci := 0) (v := .int (v_t_held ||| (p1 <<< (v_t_heldBits &&& 31)))) (ty := .int) (C := R_BitSink) (T := F_BitSink) (N := 3) hx hb ht in_BitSink t_BitSink t_BitSink_ok n_BitSink hown hK hP hD hS 0 rfl rfl 1 (by decide) (ht _ k_234) (fun _ h9 => h9) rfl (by decide +kernel) rfl rfl (Nat.le_of_ble_eq_true rfl) d_BitSink_put_12 (fun H locs hP hD hS => ?_)
  have hP : va_P (dC, dI) vwCl [(h_t, .inr (0, [.ref h_t_to, .int (v_t_held ||| (p1 <<< (v_t_heldBits &&& 31))), .int v_t_heldBits])), (h_t_to, .inr (7, [.ref h_t_to_cells, .int v_t_to_count])), (h_t_to_cells, .inl (cB, 65546, .inl (bf f_t_to_cells)))] H := hP
  have hD : va_D A [(h_t, .inr (0, [.ref h_t_to, .int (v_t_held ||| (p1 <<< (v_t_heldBits &&& 31))), .int v_t_heldBits])), (h_t_to, .inr (7, [.ref h_t_to_cells, .int v_t_to_count])), (h_t_to_cells, .inl (cB, 65546, .inl (bf f_t_to_cells)))] := hD
  refine lv_aload_n hx hb d_BitSink_put_15 rfl (lv_at hl 0 rfl) ?_
  refine lv_dup hx hb d_BitSink_put_16 rfl ?_
  refine va_get (D := (dC, dI)) (ci := 0) (v := .int v_t_heldBits) (C := R_BitSink) (T := F_BitSink) (N := 3) hx hb ht in_BitSink hown hK hP 0 rfl rfl 2 (by decide) (ht _ k_235) (fun _ h9 => h9) rfl d_BitSink_put_17 ?_
  refine lv_iload_n hx hb d_BitSink_put_20 rfl (lv_at hl 2 rfl) ?_
  refine lv_iadd hx hb d_BitSink_put_21 ?_
  refine va_put (D := (dC, dI)) (ci := 0) (v := .int (v_t_heldBits + p2)) (ty := .int) (C := R_BitSink) (T := F_BitSink) (N := 3) hx hb ht in_BitSink t_BitSink t_BitSink_ok n_BitSink hown hK hP hD hS 0 rfl rfl 2 (by decide) (ht _ k_235) (fun _ h9 => h9) rfl (by decide +kernel) rfl rfl (Nat.le_of_ble_eq_true rfl) d_BitSink_put_22 (fun H locs hP hD hS => ?_)
  have hP : va_P (dC, dI) vwCl [(h_t, .inr (0, [.ref h_t_to, .int (v_t_held ||| (p1 <<< (v_t_heldBits &&& 31))), .int (v_t_heldBits + p2)])), (h_t_to, .inr (7, [.ref h_t_to_cells, .int v_t_to_count])), (h_t_to_cells, .inl (cB, 65546, .inl (bf f_t_to_cells)))] H := hP
  have hD : va_D A [(h_t, .inr (0, [.ref h_t_to, .int (v_t_held ||| (p1 <<< (v_t_heldBits &&& 31))), .int (v_t_heldBits + p2)])), (h_t_to, .inr (7, [.ref h_t_to_cells, .int v_t_to_count])), (h_t_to_cells, .inl (cB, 65546, .inl (bf f_t_to_cells)))] := hD
  obtain ⟨y3, hy3, h⟩ := bd h
  refine wBitSink_put_25 h_t h_t_to h_t_to_cells cB cI cJ N C N (v_t_held ||| (p1 <<< (v_t_heldBits &&& 31))) (v_t_heldBits + p2) v_t_to_count f_t_to_cells _ _ _ _ hP hD hS (lv_sub hl [0] rfl) hy3 (fun H locs ls hP hD hS hl => ?_)
  obtain rfl := Option.some.inj h
  exact W.vret hx hb hr (fun t ht hW => ⟨⟨(), rfl, trivial, by rw [ht]; exact hP, va_K.moved hW.alike hK, hD⟩, hS.F ht⟩) hS.2.2 d_BitSink_put_70
/-! PackedBytes$BitSink.fillByte()V -/
def fBitSink_fillByte (N : Nat) (v_t_held : Int32) (v_t_heldBits : Int32) (v_t_to_count : Int32) (f_t_to_cells : Nat → Int32) : Option (Int32 × Int32 × Int32 × (Nat → Int32)) :=
    if v_t_heldBits ≤ 0 then
      some ((0 : Int32), (0 : Int32), v_t_to_count, f_t_to_cells)
    else
      (fRow_add N v_t_held v_t_to_count f_t_to_cells).bind (fun y2 =>
        some ((0 : Int32), (0 : Int32), y2.1, y2.2))
set_option maxHeartbeats 4000000 in
set_option maxRecDepth 100000 in
theorem cBitSink_fillByte (l : Launch) (dC : Nat → ClassId) (dI : Nat → Nat → Nat) (h_t h_t_to h_t_to_cells : Nat) (cB cI cJ : ClassId) (sz : Nat) (N : Nat) (v_t_held : Int32) (v_t_heldBits : Int32) (v_t_to_count : Int32) (f_t_to_cells : Nat → Int32) (o : Int32 × Int32 × Int32 × (Nat → Int32)) (h : fBitSink_fillByte N v_t_held v_t_heldBits v_t_to_count f_t_to_cells = some o) : Met l y_BitSink_fillByte w_BitSink_fillByte ({ frames := 1, cells := 0, slots := 0, locals := 21 } : Room) (va_Pc [.ref h_t] (fun U => U.heap.size = sz ∧ va_P (dC, dI) vwCl [(h_t, .inr (0, [.ref h_t_to, .int v_t_held, .int v_t_heldBits])), (h_t_to, .inr (7, [.ref h_t_to_cells, .int v_t_to_count])), (h_t_to_cells, .inl (cB, 65546, .inl (bf f_t_to_cells)))] U.heap ∧ va_K (dC, dI) vwCl [(cB, .byte), (cI, .int), (cJ, .long)] U ∧ va_D (fun _ => True) [(h_t, .inr (0, [.ref h_t_to, .int v_t_held, .int v_t_heldBits])), (h_t_to, .inr (7, [.ref h_t_to_cells, .int v_t_to_count])), (h_t_to_cells, .inl (cB, 65546, .inl (bf f_t_to_cells)))] ∧ NW U)) (va_Qv (fun _ : Unit => True) (fun _ t => va_P (dC, dI) vwCl [(h_t, .inr (0, [.ref h_t_to, .int o.1, .int o.2.1])), (h_t_to, .inr (7, [.ref h_t_to_cells, .int o.2.2.1])), (h_t_to_cells, .inl (cB, 65546, .inl (bf o.2.2.2)))] t.heap ∧ va_K (dC, dI) vwCl [(cB, .byte), (cI, .int), (cJ, .long)] t ∧ va_D (va_A [(h_t, .inr (0, [.ref h_t_to, .int v_t_held, .int v_t_heldBits])), (h_t_to, .inr (7, [.ref h_t_to_cells, .int v_t_to_count])), (h_t_to_cells, .inl (cB, 65546, .inl (bf f_t_to_cells)))] sz) [(h_t, .inr (0, [.ref h_t_to, .int o.1, .int o.2.1])), (h_t_to, .inr (7, [.ref h_t_to_cells, .int o.2.2.1])), (h_t_to_cells, .inl (cB, 65546, .inl (bf o.2.2.2)))]) (va_A [(h_t, .inr (0, [.ref h_t_to, .int v_t_held, .int v_t_heldBits])), (h_t_to, .inr (7, [.ref h_t_to_cells, .int v_t_to_count])), (h_t_to_cells, .inl (cB, 65546, .inl (bf f_t_to_cells)))] sz)) 0 0 (va_A [(h_t, .inr (0, [.ref h_t_to, .int v_t_held, .int v_t_heldBits])), (h_t_to, .inr (7, [.ref h_t_to_cells, .int v_t_to_count])), (h_t_to_cells, .inl (cB, 65546, .inl (bf f_t_to_cells)))] sz) := by
  refine Met.ofW (cc := b_BitSink_fillByte) (maxL := 1) (ret := none) (by decide) rfl ?_
  intro p e s m args below meth c s₁ B hml hv
  obtain ⟨rfl, hsz, hP, hK, hD0, hN⟩ := hv
  have hx := B.exec
  have hb := B.bytes
  have hr := B.returns
  have hts := atoms_spec (ws := w_BitSink_fillByte) B.pre
  have ht : ∀ w ∈ TB, w.before ([.ref h_t]).toArray s = true := fun w h => hts w (List.mem_cons_of_mem _ h)
  have hown : s.vm.findClass R_BitSink = some m.cls := findClass_of_methodNamed B.named
  have hlocks := B.notSynchronized
  subst hsz
  have hD := hD0.self (sz := s.heap.size)
  generalize hAe : va_A [(h_t, .inr (0, [.ref h_t_to, .int v_t_held, .int v_t_heldBits])), (h_t_to, .inr (7, [.ref h_t_to_cells, .int v_t_to_count])), (h_t_to_cells, .inl (cB, 65546, .inl (bf f_t_to_cells)))] s.heap.size = A at hD ⊢
  have hA : ∀ q : Nat, s.heap.size ≤ q → A q := fun q h => by rw [← hAe]; exact Or.inr h
  have hS : va_S A s.heap s.heap [] := va_S.rf
  have hP : va_P (dC, dI) vwCl [(h_t, .inr (0, [.ref h_t_to, .int v_t_held, .int v_t_heldBits])), (h_t_to, .inr (7, [.ref h_t_to_cells, .int v_t_to_count])), (h_t_to_cells, .inl (cB, 65546, .inl (bf f_t_to_cells)))] s.heap := hP
  skip
  have hl := lv_entry ([.ref h_t]) (n := 1) (Nat.le_of_ble_eq_true rfl)
  rw [lg_entry_eq]
  generalize (lg_sl ([.ref h_t]) ++ List.replicate (1 - (lg_sl ([.ref h_t])).length) Slot.unset).toArray = ls at hl ⊢
  have hl : lv_has ls 1 [(0, .ref h_t)] := hl
  refine lv_aload_n hx hb d_BitSink_fillByte_0 rfl (lv_at hl 0 rfl) ?_
  refine va_get (D := (dC, dI)) (ci := 0) (v := .int v_t_heldBits) (C := R_BitSink) (T := F_BitSink) (N := 3) hx hb ht in_BitSink hown hK hP 0 rfl rfl 2 (by decide) (ht _ k_235) (fun _ h9 => h9) rfl d_BitSink_fillByte_1 ?_
  refine lv_if_le (tgt := 18) hx hb d_BitSink_fillByte_4 (by decide) (fun c1 => ?_) (fun c1 => ?_)
  · replace h := ip_p c1 h
    refine lv_aload_n hx hb d_BitSink_fillByte_18 rfl (lv_at hl 0 rfl) ?_
    refine lv_iconst (v := (0 : Int32)) hx hb d_BitSink_fillByte_19 (by decide) ?_
    refine va_put (D := (dC, dI)) (ci := 0) (v := .int (0 : Int32)) (ty := .int) (C := R_BitSink) (T := F_BitSink) (N := 3) hx hb ht in_BitSink t_BitSink t_BitSink_ok n_BitSink hown hK hP hD hS 0 rfl rfl 1 (by decide) (ht _ k_234) (fun _ h9 => h9) rfl (by decide +kernel) rfl rfl (Nat.le_of_ble_eq_true rfl) d_BitSink_fillByte_20 (fun H locs hP hD hS => ?_)
    have hP : va_P (dC, dI) vwCl [(h_t, .inr (0, [.ref h_t_to, .int (0 : Int32), .int v_t_heldBits])), (h_t_to, .inr (7, [.ref h_t_to_cells, .int v_t_to_count])), (h_t_to_cells, .inl (cB, 65546, .inl (bf f_t_to_cells)))] H := hP
    have hD : va_D A [(h_t, .inr (0, [.ref h_t_to, .int (0 : Int32), .int v_t_heldBits])), (h_t_to, .inr (7, [.ref h_t_to_cells, .int v_t_to_count])), (h_t_to_cells, .inl (cB, 65546, .inl (bf f_t_to_cells)))] := hD
    refine lv_aload_n hx hb d_BitSink_fillByte_23 rfl (lv_at hl 0 rfl) ?_
    refine lv_iconst (v := (0 : Int32)) hx hb d_BitSink_fillByte_24 (by decide) ?_
    refine va_put (D := (dC, dI)) (ci := 0) (v := .int (0 : Int32)) (ty := .int) (C := R_BitSink) (T := F_BitSink) (N := 3) hx hb ht in_BitSink t_BitSink t_BitSink_ok n_BitSink hown hK hP hD hS 0 rfl rfl 2 (by decide) (ht _ k_235) (fun _ h9 => h9) rfl (by decide +kernel) rfl rfl (Nat.le_of_ble_eq_true rfl) d_BitSink_fillByte_25 (fun H locs hP hD hS => ?_)
    have hP : va_P (dC, dI) vwCl [(h_t, .inr (0, [.ref h_t_to, .int (0 : Int32), .int (0 : Int32)])), (h_t_to, .inr (7, [.ref h_t_to_cells, .int v_t_to_count])), (h_t_to_cells, .inl (cB, 65546, .inl (bf f_t_to_cells)))] H := hP
    have hD : va_D A [(h_t, .inr (0, [.ref h_t_to, .int (0 : Int32), .int (0 : Int32)])), (h_t_to, .inr (7, [.ref h_t_to_cells, .int v_t_to_count])), (h_t_to_cells, .inl (cB, 65546, .inl (bf f_t_to_cells)))] := hD
    obtain rfl := Option.some.inj h
    exact W.vret hx hb hr (fun t ht hW => ⟨⟨(), rfl, trivial, by rw [ht]; exact hP, va_K.moved hW.alike hK, hD⟩, hS.F ht⟩) hS.2.2 d_BitSink_fillByte_28
  · replace h := ip_n c1 h
    refine lv_aload_n hx hb d_BitSink_fillByte_7 rfl (lv_at hl 0 rfl) ?_
    refine va_get (D := (dC, dI)) (ci := 0) (v := .ref h_t_to) (C := R_BitSink) (T := F_BitSink) (N := 3) hx hb ht in_BitSink hown hK hP 0 rfl rfl 0 (by decide) (ht _ k_233) (fun _ h9 => h9) rfl d_BitSink_fillByte_8 ?_
    refine lv_aload_n hx hb d_BitSink_fillByte_11 rfl (lv_at hl 0 rfl) ?_
    refine va_get (D := (dC, dI)) (ci := 0) (v := .int v_t_held) (C := R_BitSink) (T := F_BitSink) (N := 3) hx hb ht in_BitSink hown hK hP 0 rfl rfl 1 (by decide) (ht _ k_234) (fun _ h9 => h9) rfl d_BitSink_fillByte_12 ?_
    obtain ⟨y2, hy2, h⟩ := bd h
    have hPc := hP.sub (ws' := [(h_t_to, .inr (7, [.ref h_t_to_cells, .int v_t_to_count])), (h_t_to_cells, .inl (cB, 65546, .inl (bf f_t_to_cells)))]) [1, 2] rfl
    have hDc := hD.sub (ws' := [(h_t_to, .inr (7, [.ref h_t_to_cells, .int v_t_to_count])), (h_t_to_cells, .inl (cB, 65546, .inl (bf f_t_to_cells)))]) [1, 2] (by decide) rfl
    have hFc := va_free (wc := [(h_t_to, .inr (7, [.ref h_t_to_cells, .int v_t_to_count])), (h_t_to_cells, .inl (cB, 65546, .inl (bf f_t_to_cells)))]) hD hS hA [1, 2] rfl
    refine va_callv (va_runV (As := [.int v_t_held]) (rest := []) ⟨hx, hb, hml, hown, ht⟩ (cRow_add l dC dI h_t_to h_t_to_cells cB cI cJ _ N v_t_held v_t_to_count f_t_to_cells y2 hy2) (⟨callB_of 1 ht (gTB (k_611)) rfl rfl rfl (ht _ k_66) (ht _ k_608) (by decide +kernel) ⟨Nat.le_of_ble_eq_true rfl, Nat.le_of_ble_eq_true rfl⟩, ht _ k_609, ht _ k_610⟩) ⟨fun a U g mk q => by obtain ⟨q0, q1, qP, qK, qD, qN⟩ := q; exact ⟨q0, q1, qP, va_K.moved (u := U) (U := U.calling g mk a) (Vm.Alike.refl U.vm) qK, qD, NW_same (u := U) rfl qN⟩, va_recv hK hPc (ci := 7) (q0 := 0) rfl rfl, fun U hU hW => ⟨rfl, by rw [hU], by rw [hU]; exact hPc, va_K.moved hW.alike hK, hDc.weaken (fun _ _ _ _ => trivial), NW_warm hW hN⟩⟩ rfl rfl hl.1 rfl (lv_room (Nat.le_of_ble_eq_true rfl)) d_BitSink_fillByte_15 ⟨Nat.le_of_ble_eq_true rfl, Nat.le_of_ble_eq_true rfl⟩) hS (fun q _ h => hFc q h) hFc (fun u t H1 locs htH hvm hw hB hz1 hk1 hS => ?_)
    obtain ⟨hP1, hK1, hD1⟩ := hB
    rw [htH] at hP1
    obtain ⟨hP, hD⟩ := va_join (wr := [(h_t, .inr (0, [.ref h_t_to, .int v_t_held, .int v_t_heldBits]))]) (w1 := [(h_t_to, .inr (7, [.ref h_t_to_cells, .int y2.1])), (h_t_to_cells, .inl (cB, 65546, .inl (bf y2.2)))]) hP hD [1, 2] [0] rfl rfl (by decide) (by decide) hk1 hFc hP1 hD1
    generalize H1 = H at hP hS ⊢
    have hP : va_P (dC, dI) vwCl [(h_t, .inr (0, [.ref h_t_to, .int v_t_held, .int v_t_heldBits])), (h_t_to, .inr (7, [.ref h_t_to_cells, .int y2.1])), (h_t_to_cells, .inl (cB, 65546, .inl (bf y2.2)))] H := hP.sub [0, 1, 2] rfl
    have hD : va_D A [(h_t, .inr (0, [.ref h_t_to, .int v_t_held, .int v_t_heldBits])), (h_t_to, .inr (7, [.ref h_t_to_cells, .int y2.1])), (h_t_to_cells, .inl (cB, 65546, .inl (bf y2.2)))] := hD.sub [0, 1, 2] (by decide) rfl
    refine lv_aload_n hx hb d_BitSink_fillByte_18 rfl (lv_at hl 0 rfl) ?_
    refine lv_iconst (v := (0 : Int32)) hx hb d_BitSink_fillByte_19 (by decide) ?_
    refine va_put (D := (dC, dI)) (ci := 0) (v := .int (0 : Int32)) (ty := .int) (C := R_BitSink) (T := F_BitSink) (N := 3) hx hb ht in_BitSink t_BitSink t_BitSink_ok n_BitSink hown hK hP hD hS 0 rfl rfl 1 (by decide) (ht _ k_234) (fun _ h9 => h9) rfl (by decide +kernel) rfl rfl (Nat.le_of_ble_eq_true rfl) d_BitSink_fillByte_20 (fun H locs hP hD hS => ?_)
    have hP : va_P (dC, dI) vwCl [(h_t, .inr (0, [.ref h_t_to, .int (0 : Int32), .int v_t_heldBits])), (h_t_to, .inr (7, [.ref h_t_to_cells, .int y2.1])), (h_t_to_cells, .inl (cB, 65546, .inl (bf y2.2)))] H := hP
    have hD : va_D A [(h_t, .inr (0, [.ref h_t_to, .int (0 : Int32), .int v_t_heldBits])), (h_t_to, .inr (7, [.ref h_t_to_cells, .int y2.1])), (h_t_to_cells, .inl (cB, 65546, .inl (bf y2.2)))] := hD
    refine lv_aload_n hx hb d_BitSink_fillByte_23 rfl (lv_at hl 0 rfl) ?_
    refine lv_iconst (v := (0 : Int32)) hx hb d_BitSink_fillByte_24 (by decide) ?_
    refine va_put (D := (dC, dI)) (ci := 0) (v := .int (0 : Int32)) (ty := .int) (C := R_BitSink) (T := F_BitSink) (N := 3) hx hb ht in_BitSink t_BitSink t_BitSink_ok n_BitSink hown hK hP hD hS 0 rfl rfl 2 (by decide) (ht _ k_235) (fun _ h9 => h9) rfl (by decide +kernel) rfl rfl (Nat.le_of_ble_eq_true rfl) d_BitSink_fillByte_25 (fun H locs hP hD hS => ?_)
    have hP : va_P (dC, dI) vwCl [(h_t, .inr (0, [.ref h_t_to, .int (0 : Int32), .int (0 : Int32)])), (h_t_to, .inr (7, [.ref h_t_to_cells, .int y2.1])), (h_t_to_cells, .inl (cB, 65546, .inl (bf y2.2)))] H := hP
    have hD : va_D A [(h_t, .inr (0, [.ref h_t_to, .int (0 : Int32), .int (0 : Int32)])), (h_t_to, .inr (7, [.ref h_t_to_cells, .int y2.1])), (h_t_to_cells, .inl (cB, 65546, .inl (bf y2.2)))] := hD
    obtain rfl := Option.some.inj h
    exact W.vret hx hb hr (fun t ht hW => ⟨⟨(), rfl, trivial, by rw [ht]; exact hP, va_K.moved hW.alike hK, hD⟩, hS.F ht⟩) hS.2.2 d_BitSink_fillByte_28
