theorem d_Row_add_0 : decode b_Row_add 0 = .ok (.aload_n 0, 1) := by decide +kernel
theorem d_Row_add_1 : decode b_Row_add 1 = .ok (.getfield 16, 3) := by decide +kernel
theorem d_Row_add_4 : decode b_Row_add 4 = .ok (.aload_n 0, 1) := by decide +kernel
theorem d_Row_add_5 : decode b_Row_add 5 = .ok (.getfield 10, 3) := by decide +kernel
theorem d_Row_add_8 : decode b_Row_add 8 = .ok (.arraylength, 1) := by decide +kernel
theorem d_Row_add_9 : decode b_Row_add 9 = .ok (.if_icmp .ge 24, 3) := by decide +kernel
theorem d_Row_add_12 : decode b_Row_add 12 = .ok (.aload_n 0, 1) := by decide +kernel
theorem d_Row_add_13 : decode b_Row_add 13 = .ok (.getfield 10, 3) := by decide +kernel
theorem d_Row_add_16 : decode b_Row_add 16 = .ok (.aload_n 0, 1) := by decide +kernel
theorem d_Row_add_17 : decode b_Row_add 17 = .ok (.getfield 16, 3) := by decide +kernel
theorem d_Row_add_20 : decode b_Row_add 20 = .ok (.iload_n 1, 1) := by decide +kernel
theorem d_Row_add_21 : decode b_Row_add 21 = .ok (.i2b, 1) := by decide +kernel
theorem d_Row_add_22 : decode b_Row_add 22 = .ok (.bastore, 1) := by decide +kernel
theorem d_Row_add_23 : decode b_Row_add 23 = .ok (.aload_n 0, 1) := by decide +kernel
theorem d_Row_add_24 : decode b_Row_add 24 = .ok (.dup, 1) := by decide +kernel
theorem d_Row_add_25 : decode b_Row_add 25 = .ok (.getfield 16, 3) := by decide +kernel
theorem d_Row_add_28 : decode b_Row_add 28 = .ok (.iconst 1, 1) := by decide +kernel
theorem d_Row_add_29 : decode b_Row_add 29 = .ok (.iadd, 1) := by decide +kernel
theorem d_Row_add_30 : decode b_Row_add 30 = .ok (.putfield 16, 3) := by decide +kernel
theorem d_Row_add_33 : decode b_Row_add 33 = .ok (.return_, 1) := by decide +kernel
theorem d_Row_addNumber_0 : decode b_Row_addNumber 0 = .ok (.aload_n 0, 1) := by decide +kernel
theorem d_Row_addNumber_1 : decode b_Row_addNumber 1 = .ok (.iload_n 1, 1) := by decide +kernel
theorem d_Row_addNumber_2 : decode b_Row_addNumber 2 = .ok (.bipush 24, 2) := by decide +kernel
theorem d_Row_addNumber_4 : decode b_Row_addNumber 4 = .ok (.iushr, 1) := by decide +kernel
theorem d_Row_addNumber_5 : decode b_Row_addNumber 5 = .ok (.invokevirtual 20, 3) := by decide +kernel
theorem d_Row_addNumber_8 : decode b_Row_addNumber 8 = .ok (.aload_n 0, 1) := by decide +kernel
theorem d_Row_addNumber_9 : decode b_Row_addNumber 9 = .ok (.iload_n 1, 1) := by decide +kernel
theorem d_Row_addNumber_10 : decode b_Row_addNumber 10 = .ok (.bipush 16, 2) := by decide +kernel
theorem d_Row_addNumber_12 : decode b_Row_addNumber 12 = .ok (.iushr, 1) := by decide +kernel
theorem d_Row_addNumber_13 : decode b_Row_addNumber 13 = .ok (.invokevirtual 20, 3) := by decide +kernel
theorem d_Row_addNumber_16 : decode b_Row_addNumber 16 = .ok (.aload_n 0, 1) := by decide +kernel
theorem d_Row_addNumber_17 : decode b_Row_addNumber 17 = .ok (.iload_n 1, 1) := by decide +kernel
theorem d_Row_addNumber_18 : decode b_Row_addNumber 18 = .ok (.bipush 8, 2) := by decide +kernel
theorem d_Row_addNumber_20 : decode b_Row_addNumber 20 = .ok (.iushr, 1) := by decide +kernel
theorem d_Row_addNumber_21 : decode b_Row_addNumber 21 = .ok (.invokevirtual 20, 3) := by decide +kernel
theorem d_Row_addNumber_24 : decode b_Row_addNumber 24 = .ok (.aload_n 0, 1) := by decide +kernel
theorem d_Row_addNumber_25 : decode b_Row_addNumber 25 = .ok (.iload_n 1, 1) := by decide +kernel
theorem d_Row_addNumber_26 : decode b_Row_addNumber 26 = .ok (.invokevirtual 20, 3) := by decide +kernel
theorem d_Row_addNumber_29 : decode b_Row_addNumber 29 = .ok (.return_, 1) := by decide +kernel
theorem d_Row_repeat_0 : decode b_Row_repeat 0 = .ok (.iload_n 1, 1) := by decide +kernel
theorem d_Row_repeat_1 : decode b_Row_repeat 1 = .ok (.iconst 1, 1) := by decide +kernel
theorem d_Row_repeat_2 : decode b_Row_repeat 2 = .ok (.if_icmp .lt 15, 3) := by decide +kernel
theorem d_Row_repeat_5 : decode b_Row_repeat 5 = .ok (.iload_n 1, 1) := by decide +kernel
theorem d_Row_repeat_6 : decode b_Row_repeat 6 = .ok (.aload_n 0, 1) := by decide +kernel
theorem d_Row_repeat_7 : decode b_Row_repeat 7 = .ok (.getfield 16, 3) := by decide +kernel
theorem d_Row_repeat_10 : decode b_Row_repeat 10 = .ok (.if_icmp .gt 7, 3) := by decide +kernel
theorem d_Row_repeat_13 : decode b_Row_repeat 13 = .ok (.iload_n 2, 1) := by decide +kernel
theorem d_Row_repeat_14 : decode b_Row_repeat 14 = .ok (.ifCond .ge 4, 3) := by decide +kernel
theorem d_Row_repeat_17 : decode b_Row_repeat 17 = .ok (.return_, 1) := by decide +kernel
theorem d_Row_repeat_18 : decode b_Row_repeat 18 = .ok (.aload_n 0, 1) := by decide +kernel
theorem d_Row_repeat_19 : decode b_Row_repeat 19 = .ok (.getfield 16, 3) := by decide +kernel
theorem d_Row_repeat_22 : decode b_Row_repeat 22 = .ok (.iload_n 2, 1) := by decide +kernel
theorem d_Row_repeat_23 : decode b_Row_repeat 23 = .ok (.iadd, 1) := by decide +kernel
theorem d_Row_repeat_24 : decode b_Row_repeat 24 = .ok (.aload_n 0, 1) := by decide +kernel
theorem d_Row_repeat_25 : decode b_Row_repeat 25 = .ok (.getfield 10, 3) := by decide +kernel
theorem d_Row_repeat_28 : decode b_Row_repeat 28 = .ok (.arraylength, 1) := by decide +kernel
theorem d_Row_repeat_29 : decode b_Row_repeat 29 = .ok (.invokestatic 24, 3) := by decide +kernel
theorem d_Row_repeat_32 : decode b_Row_repeat 32 = .ok (.istore_n 3, 1) := by decide +kernel
theorem d_Row_repeat_33 : decode b_Row_repeat 33 = .ok (.aload_n 0, 1) := by decide +kernel
theorem d_Row_repeat_34 : decode b_Row_repeat 34 = .ok (.getfield 16, 3) := by decide +kernel
theorem d_Row_repeat_37 : decode b_Row_repeat 37 = .ok (.istore 4, 2) := by decide +kernel
theorem d_Row_repeat_39 : decode b_Row_repeat 39 = .ok (.iload 4, 2) := by decide +kernel
theorem d_Row_repeat_41 : decode b_Row_repeat 41 = .ok (.iload_n 3, 1) := by decide +kernel
theorem d_Row_repeat_42 : decode b_Row_repeat 42 = .ok (.if_icmp .ge 25, 3) := by decide +kernel
theorem d_Row_repeat_45 : decode b_Row_repeat 45 = .ok (.aload_n 0, 1) := by decide +kernel
theorem d_Row_repeat_46 : decode b_Row_repeat 46 = .ok (.getfield 10, 3) := by decide +kernel
theorem d_Row_repeat_49 : decode b_Row_repeat 49 = .ok (.iload 4, 2) := by decide +kernel
theorem d_Row_repeat_51 : decode b_Row_repeat 51 = .ok (.aload_n 0, 1) := by decide +kernel
theorem d_Row_repeat_52 : decode b_Row_repeat 52 = .ok (.getfield 10, 3) := by decide +kernel
theorem d_Row_repeat_55 : decode b_Row_repeat 55 = .ok (.iload 4, 2) := by decide +kernel
theorem d_Row_repeat_57 : decode b_Row_repeat 57 = .ok (.iload_n 1, 1) := by decide +kernel
theorem d_Row_repeat_58 : decode b_Row_repeat 58 = .ok (.isub, 1) := by decide +kernel
theorem d_Row_repeat_59 : decode b_Row_repeat 59 = .ok (.baload, 1) := by decide +kernel
theorem d_Row_repeat_60 : decode b_Row_repeat 60 = .ok (.bastore, 1) := by decide +kernel
theorem d_Row_repeat_61 : decode b_Row_repeat 61 = .ok (.iinc 4 1, 3) := by decide +kernel
theorem d_Row_repeat_64 : decode b_Row_repeat 64 = .ok (.goto (-25), 3) := by decide +kernel
theorem d_Row_repeat_67 : decode b_Row_repeat 67 = .ok (.aload_n 0, 1) := by decide +kernel
theorem d_Row_repeat_68 : decode b_Row_repeat 68 = .ok (.iload_n 3, 1) := by decide +kernel
theorem d_Row_repeat_69 : decode b_Row_repeat 69 = .ok (.putfield 16, 3) := by decide +kernel
theorem d_Row_repeat_72 : decode b_Row_repeat 72 = .ok (.return_, 1) := by decide +kernel
theorem d_Row_addFrom_0 : decode b_Row_addFrom 0 = .ok (.iload_n 2, 1) := by decide +kernel
theorem d_Row_addFrom_1 : decode b_Row_addFrom 1 = .ok (.ifCond .lt 31, 3) := by decide +kernel
theorem d_Row_addFrom_4 : decode b_Row_addFrom 4 = .ok (.iload_n 3, 1) := by decide +kernel
theorem d_Row_addFrom_5 : decode b_Row_addFrom 5 = .ok (.ifCond .lt 27, 3) := by decide +kernel
theorem d_Row_addFrom_8 : decode b_Row_addFrom 8 = .ok (.iload_n 2, 1) := by decide +kernel
theorem d_Row_addFrom_9 : decode b_Row_addFrom 9 = .ok (.iload_n 3, 1) := by decide +kernel
theorem d_Row_addFrom_10 : decode b_Row_addFrom 10 = .ok (.iadd, 1) := by decide +kernel
theorem d_Row_addFrom_11 : decode b_Row_addFrom 11 = .ok (.aload_n 1, 1) := by decide +kernel
theorem d_Row_addFrom_12 : decode b_Row_addFrom 12 = .ok (.getfield 16, 3) := by decide +kernel
theorem d_Row_addFrom_15 : decode b_Row_addFrom 15 = .ok (.if_icmp .gt 17, 3) := by decide +kernel
theorem d_Row_addFrom_18 : decode b_Row_addFrom 18 = .ok (.aload_n 0, 1) := by decide +kernel
theorem d_Row_addFrom_19 : decode b_Row_addFrom 19 = .ok (.getfield 16, 3) := by decide +kernel
theorem d_Row_addFrom_22 : decode b_Row_addFrom 22 = .ok (.iload_n 3, 1) := by decide +kernel
theorem d_Row_addFrom_23 : decode b_Row_addFrom 23 = .ok (.iadd, 1) := by decide +kernel
theorem d_Row_addFrom_24 : decode b_Row_addFrom 24 = .ok (.aload_n 0, 1) := by decide +kernel
theorem d_Row_addFrom_25 : decode b_Row_addFrom 25 = .ok (.getfield 10, 3) := by decide +kernel
theorem d_Row_addFrom_28 : decode b_Row_addFrom 28 = .ok (.arraylength, 1) := by decide +kernel
theorem d_Row_addFrom_29 : decode b_Row_addFrom 29 = .ok (.if_icmp .le 4, 3) := by decide +kernel
theorem d_Row_addFrom_32 : decode b_Row_addFrom 32 = .ok (.return_, 1) := by decide +kernel
theorem d_Row_addFrom_33 : decode b_Row_addFrom 33 = .ok (.aload_n 1, 1) := by decide +kernel
theorem d_Row_addFrom_34 : decode b_Row_addFrom 34 = .ok (.getfield 10, 3) := by decide +kernel
theorem d_Row_addFrom_37 : decode b_Row_addFrom 37 = .ok (.iload_n 2, 1) := by decide +kernel
theorem d_Row_addFrom_38 : decode b_Row_addFrom 38 = .ok (.aload_n 0, 1) := by decide +kernel
theorem d_Row_addFrom_39 : decode b_Row_addFrom 39 = .ok (.getfield 10, 3) := by decide +kernel
theorem d_Row_addFrom_42 : decode b_Row_addFrom 42 = .ok (.aload_n 0, 1) := by decide +kernel
theorem d_Row_addFrom_43 : decode b_Row_addFrom 43 = .ok (.getfield 16, 3) := by decide +kernel
theorem d_Row_addFrom_46 : decode b_Row_addFrom 46 = .ok (.iload_n 3, 1) := by decide +kernel
theorem d_Row_addFrom_47 : decode b_Row_addFrom 47 = .ok (.invokestatic 30, 3) := by decide +kernel
theorem d_Row_addFrom_50 : decode b_Row_addFrom 50 = .ok (.aload_n 0, 1) := by decide +kernel
theorem d_Row_addFrom_51 : decode b_Row_addFrom 51 = .ok (.dup, 1) := by decide +kernel
theorem d_Row_addFrom_52 : decode b_Row_addFrom 52 = .ok (.getfield 16, 3) := by decide +kernel
theorem d_Row_addFrom_55 : decode b_Row_addFrom 55 = .ok (.iload_n 3, 1) := by decide +kernel
theorem d_Row_addFrom_56 : decode b_Row_addFrom 56 = .ok (.iadd, 1) := by decide +kernel
theorem d_Row_addFrom_57 : decode b_Row_addFrom 57 = .ok (.putfield 16, 3) := by decide +kernel
theorem d_Row_addFrom_60 : decode b_Row_addFrom 60 = .ok (.return_, 1) := by decide +kernel
theorem d_Row_become_0 : decode b_Row_become 0 = .ok (.aload_n 0, 1) := by decide +kernel
theorem d_Row_become_1 : decode b_Row_become 1 = .ok (.iconst 0, 1) := by decide +kernel
theorem d_Row_become_2 : decode b_Row_become 2 = .ok (.putfield 16, 3) := by decide +kernel
theorem d_Row_become_5 : decode b_Row_become 5 = .ok (.aload_n 0, 1) := by decide +kernel
theorem d_Row_become_6 : decode b_Row_become 6 = .ok (.aload_n 1, 1) := by decide +kernel
theorem d_Row_become_7 : decode b_Row_become 7 = .ok (.iconst 0, 1) := by decide +kernel
theorem d_Row_become_8 : decode b_Row_become 8 = .ok (.aload_n 1, 1) := by decide +kernel
theorem d_Row_become_9 : decode b_Row_become 9 = .ok (.getfield 16, 3) := by decide +kernel
theorem d_Row_become_12 : decode b_Row_become 12 = .ok (.invokevirtual 36, 3) := by decide +kernel
theorem d_Row_become_15 : decode b_Row_become 15 = .ok (.return_, 1) := by decide +kernel
/-! PackedBytes$Row.add(I)V -/
def fRow_add (N : Nat) (p1 : Int32) (v_t_count : Int32) (f_t_cells : Nat → Int32) : Option (Int32 × (Nat → Int32)) :=
    if (nI 65546) ≤ v_t_count then
      some (v_t_count, f_t_cells)
    else
      if ¬ (v_t_count < 0 ∨ 65546 ≤ v_t_count.toNatClampNeg) then
        some (v_t_count + (1 : Int32), upd f_t_cells v_t_count.toNatClampNeg p1.toInt8.toInt32)
      else none
set_option maxHeartbeats 4000000 in
set_option maxRecDepth 100000 in
theorem cRow_add (l : Launch) (dC : Nat → ClassId) (dI : Nat → Nat → Nat) (h_t h_t_cells : Nat) (cB cI cJ : ClassId) (sz : Nat) (N : Nat) (p1 : Int32) (v_t_count : Int32) (f_t_cells : Nat → Int32) (o : Int32 × (Nat → Int32)) (h : fRow_add N p1 v_t_count f_t_cells = some o) : Met l y_Row_add w_Row_add ({ frames := 0, cells := 0, slots := 0, locals := 0 } : Room) (va_Pc [.ref h_t, .int p1] (fun U => U.heap.size = sz ∧ va_P (dC, dI) vwCl [(h_t, .inr (7, [.ref h_t_cells, .int v_t_count])), (h_t_cells, .inl (cB, 65546, .inl (bf f_t_cells)))] U.heap ∧ va_K (dC, dI) vwCl [(cB, .byte), (cI, .int), (cJ, .long)] U ∧ va_D (fun _ => True) [(h_t, .inr (7, [.ref h_t_cells, .int v_t_count])), (h_t_cells, .inl (cB, 65546, .inl (bf f_t_cells)))] ∧ NW U)) (va_Qv (fun _ : Unit => True) (fun _ t => va_P (dC, dI) vwCl [(h_t, .inr (7, [.ref h_t_cells, .int o.1])), (h_t_cells, .inl (cB, 65546, .inl (bf o.2)))] t.heap ∧ va_K (dC, dI) vwCl [(cB, .byte), (cI, .int), (cJ, .long)] t ∧ va_D (va_A [(h_t, .inr (7, [.ref h_t_cells, .int v_t_count])), (h_t_cells, .inl (cB, 65546, .inl (bf f_t_cells)))] sz) [(h_t, .inr (7, [.ref h_t_cells, .int o.1])), (h_t_cells, .inl (cB, 65546, .inl (bf o.2)))]) (va_A [(h_t, .inr (7, [.ref h_t_cells, .int v_t_count])), (h_t_cells, .inl (cB, 65546, .inl (bf f_t_cells)))] sz)) 0 0 (va_A [(h_t, .inr (7, [.ref h_t_cells, .int v_t_count])), (h_t_cells, .inl (cB, 65546, .inl (bf f_t_cells)))] sz) := by
  refine Met.ofW (cc := b_Row_add) (maxL := 2) (ret := none) (by decide) rfl ?_
  intro p e s m args below meth c s₁ B hml hv
  obtain ⟨rfl, hsz, hP, hK, hD0, hN⟩ := hv
  have hx := B.exec
  have hb := B.bytes
  have hr := B.returns
  have hts := atoms_spec (ws := w_Row_add) B.pre
  have ht : ∀ w ∈ TB, w.before ([.ref h_t, .int p1]).toArray s = true := fun w h => hts w (List.mem_cons_of_mem _ h)
  have hown : s.vm.findClass R_Row = some m.cls := findClass_of_methodNamed B.named
  have hlocks := B.notSynchronized
  subst hsz
  have hD := hD0.self (sz := s.heap.size)
  generalize hAe : va_A [(h_t, .inr (7, [.ref h_t_cells, .int v_t_count])), (h_t_cells, .inl (cB, 65546, .inl (bf f_t_cells)))] s.heap.size = A at hD ⊢
  have hA : ∀ q : Nat, s.heap.size ≤ q → A q := fun q h => by rw [← hAe]; exact Or.inr h
  have hS : va_S A s.heap s.heap [] := va_S.rf
  have hP : va_P (dC, dI) vwCl [(h_t, .inr (7, [.ref h_t_cells, .int v_t_count])), (h_t_cells, .inl (cB, 65546, .inl (bf f_t_cells)))] s.heap := hP
  skip
  have hl := lv_entry ([.ref h_t, .int p1]) (n := 2) (Nat.le_of_ble_eq_true rfl)
  rw [lg_entry_eq]
  generalize (lg_sl ([.ref h_t, .int p1]) ++ List.replicate (2 - (lg_sl ([.ref h_t, .int p1])).length) Slot.unset).toArray = ls at hl ⊢
  have hl : lv_has ls 2 [(0, .ref h_t), (1, .int p1)] := hl
  refine lv_aload_n hx hb d_Row_add_0 rfl (lv_at hl 0 rfl) ?_
  refine va_get (D := (dC, dI)) (ci := 7) (v := .int v_t_count) (C := R_Row) (T := F_Row) (N := 2) hx hb ht in_Row hown hK hP 0 rfl rfl 1 (by decide) (ht _ k_106) (fun _ h9 => h9) rfl d_Row_add_1 ?_
  refine lv_aload_n hx hb d_Row_add_4 rfl (lv_at hl 0 rfl) ?_
  refine va_get (D := (dC, dI)) (ci := 7) (v := .ref h_t_cells) (C := R_Row) (T := F_Row) (N := 2) hx hb ht in_Row hown hK hP 0 rfl rfl 0 (by decide) (ht _ k_101) (fun _ h9 => h9) rfl d_Row_add_5 ?_
  refine va_alen (v := nI 65546) hx hb hK hP 1 0 rfl rfl rfl d_Row_add_8 ?_
  refine lv_icmp_ge (tgt := 33) hx hb d_Row_add_9 (by decide) (fun c1 => ?_) (fun c1 => ?_)
  · replace h := ip_p c1 h
    obtain rfl := Option.some.inj h
    exact W.vret hx hb hr (fun t ht hW => ⟨⟨(), rfl, trivial, by rw [ht]; exact hP, va_K.moved hW.alike hK, hD⟩, hS.F ht⟩) hS.2.2 d_Row_add_33
  · replace h := ip_n c1 h
    refine lv_aload_n hx hb d_Row_add_12 rfl (lv_at hl 0 rfl) ?_
    refine va_get (D := (dC, dI)) (ci := 7) (v := .ref h_t_cells) (C := R_Row) (T := F_Row) (N := 2) hx hb ht in_Row hown hK hP 0 rfl rfl 0 (by decide) (ht _ k_101) (fun _ h9 => h9) rfl d_Row_add_13 ?_
    refine lv_aload_n hx hb d_Row_add_16 rfl (lv_at hl 0 rfl) ?_
    refine va_get (D := (dC, dI)) (ci := 7) (v := .int v_t_count) (C := R_Row) (T := F_Row) (N := 2) hx hb ht in_Row hown hK hP 0 rfl rfl 1 (by decide) (ht _ k_106) (fun _ h9 => h9) rfl d_Row_add_17 ?_
    refine lv_iload_n hx hb d_Row_add_20 rfl (lv_at hl 1 rfl) ?_
    refine lv_i2b (v := p1.toInt8.toInt32) hx hb d_Row_add_21 rfl ?_
    obtain ⟨g2, h⟩ := gd h
    refine va_bast (f := bf f_t_cells) hx hb hK hP hD hS 1 0 rfl rfl g2 d_Row_add_22 (fun H locs hP hD hS => ?_)
    rw [bf_upd] at hP hD
    have hP : va_P (dC, dI) vwCl [(h_t, .inr (7, [.ref h_t_cells, .int v_t_count])), (h_t_cells, .inl (cB, 65546, .inl (bf (upd f_t_cells v_t_count.toNatClampNeg p1.toInt8.toInt32))))] H := hP
    have hD : va_D A [(h_t, .inr (7, [.ref h_t_cells, .int v_t_count])), (h_t_cells, .inl (cB, 65546, .inl (bf (upd f_t_cells v_t_count.toNatClampNeg p1.toInt8.toInt32))))] := hD
    refine lv_aload_n hx hb d_Row_add_23 rfl (lv_at hl 0 rfl) ?_
    refine lv_dup hx hb d_Row_add_24 rfl ?_
    refine va_get (D := (dC, dI)) (ci := 7) (v := .int v_t_count) (C := R_Row) (T := F_Row) (N := 2) hx hb ht in_Row hown hK hP 0 rfl rfl 1 (by decide) (ht _ k_106) (fun _ h9 => h9) rfl d_Row_add_25 ?_
    refine lv_iconst (v := (1 : Int32)) hx hb d_Row_add_28 (by decide) ?_
    refine lv_iadd hx hb d_Row_add_29 ?_
    refine va_put (D := (dC, dI)) (ci := 7) (v := .int (v_t_count + (1 : Int32))) (ty := .int) (C := R_Row) (T := F_Row) (N := 2) hx hb ht in_Row t_Row t_Row_ok n_Row hown hK hP hD hS 0 rfl rfl 1 (by decide) (ht _ k_106) (fun _ h9 => h9) rfl (by decide +kernel) rfl rfl (Nat.le_of_ble_eq_true rfl) d_Row_add_30 (fun H locs hP hD hS => ?_)
    have hP : va_P (dC, dI) vwCl [(h_t, .inr (7, [.ref h_t_cells, .int (v_t_count + (1 : Int32))])), (h_t_cells, .inl (cB, 65546, .inl (bf (upd f_t_cells v_t_count.toNatClampNeg p1.toInt8.toInt32))))] H := hP
    have hD : va_D A [(h_t, .inr (7, [.ref h_t_cells, .int (v_t_count + (1 : Int32))])), (h_t_cells, .inl (cB, 65546, .inl (bf (upd f_t_cells v_t_count.toNatClampNeg p1.toInt8.toInt32))))] := hD
    obtain rfl := Option.some.inj h
    exact W.vret hx hb hr (fun t ht hW => ⟨⟨(), rfl, trivial, by rw [ht]; exact hP, va_K.moved hW.alike hK, hD⟩, hS.F ht⟩) hS.2.2 d_Row_add_33
/-! PackedBytes$Row.addNumber(I)V -/
def fRow_addNumber (N : Nat) (p1 : Int32) (v_t_count : Int32) (f_t_cells : Nat → Int32) : Option (Int32 × (Nat → Int32)) :=
    (fRow_add N (jus p1 (24 : Int32)) v_t_count f_t_cells).bind (fun y1 =>
      (fRow_add N (jus p1 (16 : Int32)) y1.1 y1.2).bind (fun y2 =>
        (fRow_add N (jus p1 (8 : Int32)) y2.1 y2.2).bind (fun y3 =>
          (fRow_add N p1 y3.1 y3.2).bind (fun y4 =>
            some (y4.1, y4.2)))))
set_option maxHeartbeats 4000000 in
set_option maxRecDepth 100000 in
theorem cRow_addNumber (l : Launch) (dC : Nat → ClassId) (dI : Nat → Nat → Nat) (h_t h_t_cells : Nat) (cB cI cJ : ClassId) (sz : Nat) (N : Nat) (p1 : Int32) (v_t_count : Int32) (f_t_cells : Nat → Int32) (o : Int32 × (Nat → Int32)) (h : fRow_addNumber N p1 v_t_count f_t_cells = some o) : Met l y_Row_addNumber w_Row_addNumber ({ frames := 1, cells := 0, slots := 0, locals := 21 } : Room) (va_Pc [.ref h_t, .int p1] (fun U => U.heap.size = sz ∧ va_P (dC, dI) vwCl [(h_t, .inr (7, [.ref h_t_cells, .int v_t_count])), (h_t_cells, .inl (cB, 65546, .inl (bf f_t_cells)))] U.heap ∧ va_K (dC, dI) vwCl [(cB, .byte), (cI, .int), (cJ, .long)] U ∧ va_D (fun _ => True) [(h_t, .inr (7, [.ref h_t_cells, .int v_t_count])), (h_t_cells, .inl (cB, 65546, .inl (bf f_t_cells)))] ∧ NW U)) (va_Qv (fun _ : Unit => True) (fun _ t => va_P (dC, dI) vwCl [(h_t, .inr (7, [.ref h_t_cells, .int o.1])), (h_t_cells, .inl (cB, 65546, .inl (bf o.2)))] t.heap ∧ va_K (dC, dI) vwCl [(cB, .byte), (cI, .int), (cJ, .long)] t ∧ va_D (va_A [(h_t, .inr (7, [.ref h_t_cells, .int v_t_count])), (h_t_cells, .inl (cB, 65546, .inl (bf f_t_cells)))] sz) [(h_t, .inr (7, [.ref h_t_cells, .int o.1])), (h_t_cells, .inl (cB, 65546, .inl (bf o.2)))]) (va_A [(h_t, .inr (7, [.ref h_t_cells, .int v_t_count])), (h_t_cells, .inl (cB, 65546, .inl (bf f_t_cells)))] sz)) 0 0 (va_A [(h_t, .inr (7, [.ref h_t_cells, .int v_t_count])), (h_t_cells, .inl (cB, 65546, .inl (bf f_t_cells)))] sz) := by
  refine Met.ofW (cc := b_Row_addNumber) (maxL := 2) (ret := none) (by decide) rfl ?_
  intro p e s m args below meth c s₁ B hml hv
  obtain ⟨rfl, hsz, hP, hK, hD0, hN⟩ := hv
  have hx := B.exec
  have hb := B.bytes
  have hr := B.returns
  have hts := atoms_spec (ws := w_Row_addNumber) B.pre
  have ht : ∀ w ∈ TB, w.before ([.ref h_t, .int p1]).toArray s = true := fun w h => hts w (List.mem_cons_of_mem _ h)
  have hown : s.vm.findClass R_Row = some m.cls := findClass_of_methodNamed B.named
  have hlocks := B.notSynchronized
  subst hsz
  have hD := hD0.self (sz := s.heap.size)
  generalize hAe : va_A [(h_t, .inr (7, [.ref h_t_cells, .int v_t_count])), (h_t_cells, .inl (cB, 65546, .inl (bf f_t_cells)))] s.heap.size = A at hD ⊢
  have hA : ∀ q : Nat, s.heap.size ≤ q → A q := fun q h => by rw [← hAe]; exact Or.inr h
  have hS : va_S A s.heap s.heap [] := va_S.rf
  have hP : va_P (dC, dI) vwCl [(h_t, .inr (7, [.ref h_t_cells, .int v_t_count])), (h_t_cells, .inl (cB, 65546, .inl (bf f_t_cells)))] s.heap := hP
  skip
  have hl := lv_entry ([.ref h_t, .int p1]) (n := 2) (Nat.le_of_ble_eq_true rfl)
  rw [lg_entry_eq]
  generalize (lg_sl ([.ref h_t, .int p1]) ++ List.replicate (2 - (lg_sl ([.ref h_t, .int p1])).length) Slot.unset).toArray = ls at hl ⊢
  have hl : lv_has ls 2 [(0, .ref h_t), (1, .int p1)] := hl
  refine lv_aload_n hx hb d_Row_addNumber_0 rfl (lv_at hl 0 rfl) ?_
  refine lv_iload_n hx hb d_Row_addNumber_1 rfl (lv_at hl 1 rfl) ?_
  refine lv_bipush (v := (24 : Int32)) hx hb d_Row_addNumber_2 (by decide) ?_
  refine lv_iushr (v := jus p1 (24 : Int32)) hx hb d_Row_addNumber_4 rfl ?_
  obtain ⟨y1, hy1, h⟩ := bd h
  have hPc := hP.sub (ws' := [(h_t, .inr (7, [.ref h_t_cells, .int v_t_count])), (h_t_cells, .inl (cB, 65546, .inl (bf f_t_cells)))]) [0, 1] rfl
  have hDc := hD.sub (ws' := [(h_t, .inr (7, [.ref h_t_cells, .int v_t_count])), (h_t_cells, .inl (cB, 65546, .inl (bf f_t_cells)))]) [0, 1] (by decide) rfl
  have hFc := va_free (wc := [(h_t, .inr (7, [.ref h_t_cells, .int v_t_count])), (h_t_cells, .inl (cB, 65546, .inl (bf f_t_cells)))]) hD hS hA [0, 1] rfl
  refine va_callv (va_runV (As := [.int (jus p1 (24 : Int32))]) (rest := []) ⟨hx, hb, hml, hown, ht⟩ (cRow_add l dC dI h_t h_t_cells cB cI cJ _ N (jus p1 (24 : Int32)) v_t_count f_t_cells y1 hy1) (⟨callB_of 1 ht (gTB (k_611)) rfl rfl rfl (ht _ k_66) (ht _ k_723) (by decide +kernel) ⟨Nat.le_of_ble_eq_true rfl, Nat.le_of_ble_eq_true rfl⟩, ht _ k_609, ht _ k_610⟩) ⟨fun a U g mk q => by obtain ⟨q0, q1, qP, qK, qD, qN⟩ := q; exact ⟨q0, q1, qP, va_K.moved (u := U) (U := U.calling g mk a) (Vm.Alike.refl U.vm) qK, qD, NW_same (u := U) rfl qN⟩, va_recv hK hPc (ci := 7) (q0 := 0) rfl rfl, fun U hU hW => ⟨rfl, by rw [hU], by rw [hU]; exact hPc, va_K.moved hW.alike hK, hDc.weaken (fun _ _ _ _ => trivial), NW_warm hW hN⟩⟩ rfl rfl hl.1 rfl (lv_room (Nat.le_of_ble_eq_true rfl)) d_Row_addNumber_5 ⟨Nat.le_of_ble_eq_true rfl, Nat.le_of_ble_eq_true rfl⟩) hS (fun q _ h => hFc q h) hFc (fun u t H1 locs htH hvm hw hB hz1 hk1 hS => ?_)
  obtain ⟨hP1, hK1, hD1⟩ := hB
  rw [htH] at hP1
  obtain ⟨hP, hD⟩ := va_join (wr := []) (w1 := [(h_t, .inr (7, [.ref h_t_cells, .int y1.1])), (h_t_cells, .inl (cB, 65546, .inl (bf y1.2)))]) hP hD [0, 1] [] rfl rfl (by decide) (by decide) hk1 hFc hP1 hD1
  generalize H1 = H at hP hS ⊢
  have hP : va_P (dC, dI) vwCl [(h_t, .inr (7, [.ref h_t_cells, .int y1.1])), (h_t_cells, .inl (cB, 65546, .inl (bf y1.2)))] H := hP.sub [0, 1] rfl
  have hD : va_D A [(h_t, .inr (7, [.ref h_t_cells, .int y1.1])), (h_t_cells, .inl (cB, 65546, .inl (bf y1.2)))] := hD.sub [0, 1] (by decide) rfl
  refine lv_aload_n hx hb d_Row_addNumber_8 rfl (lv_at hl 0 rfl) ?_
  refine lv_iload_n hx hb d_Row_addNumber_9 rfl (lv_at hl 1 rfl) ?_
  refine lv_bipush (v := (16 : Int32)) hx hb d_Row_addNumber_10 (by decide) ?_
  refine lv_iushr (v := jus p1 (16 : Int32)) hx hb d_Row_addNumber_12 rfl ?_
  obtain ⟨y2, hy2, h⟩ := bd h
  have hPc := hP.sub (ws' := [(h_t, .inr (7, [.ref h_t_cells, .int y1.1])), (h_t_cells, .inl (cB, 65546, .inl (bf y1.2)))]) [0, 1] rfl
  have hDc := hD.sub (ws' := [(h_t, .inr (7, [.ref h_t_cells, .int y1.1])), (h_t_cells, .inl (cB, 65546, .inl (bf y1.2)))]) [0, 1] (by decide) rfl
  have hFc := va_free (wc := [(h_t, .inr (7, [.ref h_t_cells, .int y1.1])), (h_t_cells, .inl (cB, 65546, .inl (bf y1.2)))]) hD hS hA [0, 1] rfl
  refine va_callv (va_runV (As := [.int (jus p1 (16 : Int32))]) (rest := []) ⟨hx, hb, hml, hown, ht⟩ (cRow_add l dC dI h_t h_t_cells cB cI cJ _ N (jus p1 (16 : Int32)) y1.1 y1.2 y2 hy2) (⟨callB_of 1 ht (gTB (k_611)) rfl rfl rfl (ht _ k_66) (ht _ k_723) (by decide +kernel) ⟨Nat.le_of_ble_eq_true rfl, Nat.le_of_ble_eq_true rfl⟩, ht _ k_609, ht _ k_610⟩) ⟨fun a U g mk q => by obtain ⟨q0, q1, qP, qK, qD, qN⟩ := q; exact ⟨q0, q1, qP, va_K.moved (u := U) (U := U.calling g mk a) (Vm.Alike.refl U.vm) qK, qD, NW_same (u := U) rfl qN⟩, va_recv hK hPc (ci := 7) (q0 := 0) rfl rfl, fun U hU hW => ⟨rfl, by rw [hU], by rw [hU]; exact hPc, va_K.moved hW.alike hK, hDc.weaken (fun _ _ _ _ => trivial), NW_warm hW hN⟩⟩ rfl rfl hl.1 rfl (lv_room (Nat.le_of_ble_eq_true rfl)) d_Row_addNumber_13 ⟨Nat.le_of_ble_eq_true rfl, Nat.le_of_ble_eq_true rfl⟩) hS (fun q _ h => hFc q h) hFc (fun u t H1 locs htH hvm hw hB hz1 hk1 hS => ?_)
  obtain ⟨hP1, hK1, hD1⟩ := hB
  rw [htH] at hP1
  obtain ⟨hP, hD⟩ := va_join (wr := []) (w1 := [(h_t, .inr (7, [.ref h_t_cells, .int y2.1])), (h_t_cells, .inl (cB, 65546, .inl (bf y2.2)))]) hP hD [0, 1] [] rfl rfl (by decide) (by decide) hk1 hFc hP1 hD1
  generalize H1 = H at hP hS ⊢
  have hP : va_P (dC, dI) vwCl [(h_t, .inr (7, [.ref h_t_cells, .int y2.1])), (h_t_cells, .inl (cB, 65546, .inl (bf y2.2)))] H := hP.sub [0, 1] rfl
  have hD : va_D A [(h_t, .inr (7, [.ref h_t_cells, .int y2.1])), (h_t_cells, .inl (cB, 65546, .inl (bf y2.2)))] := hD.sub [0, 1] (by decide) rfl
  refine lv_aload_n hx hb d_Row_addNumber_16 rfl (lv_at hl 0 rfl) ?_
  refine lv_iload_n hx hb d_Row_addNumber_17 rfl (lv_at hl 1 rfl) ?_
  refine lv_bipush (v := (8 : Int32)) hx hb d_Row_addNumber_18 (by decide) ?_
  refine lv_iushr (v := jus p1 (8 : Int32)) hx hb d_Row_addNumber_20 rfl ?_
  obtain ⟨y3, hy3, h⟩ := bd h
  have hPc := hP.sub (ws' := [(h_t, .inr (7, [.ref h_t_cells, .int y2.1])), (h_t_cells, .inl (cB, 65546, .inl (bf y2.2)))]) [0, 1] rfl
  have hDc := hD.sub (ws' := [(h_t, .inr (7, [.ref h_t_cells, .int y2.1])), (h_t_cells, .inl (cB, 65546, .inl (bf y2.2)))]) [0, 1] (by decide) rfl
  have hFc := va_free (wc := [(h_t, .inr (7, [.ref h_t_cells, .int y2.1])), (h_t_cells, .inl (cB, 65546, .inl (bf y2.2)))]) hD hS hA [0, 1] rfl
  refine va_callv (va_runV (As := [.int (jus p1 (8 : Int32))]) (rest := []) ⟨hx, hb, hml, hown, ht⟩ (cRow_add l dC dI h_t h_t_cells cB cI cJ _ N (jus p1 (8 : Int32)) y2.1 y2.2 y3 hy3) (⟨callB_of 1 ht (gTB (k_611)) rfl rfl rfl (ht _ k_66) (ht _ k_723) (by decide +kernel) ⟨Nat.le_of_ble_eq_true rfl, Nat.le_of_ble_eq_true rfl⟩, ht _ k_609, ht _ k_610⟩) ⟨fun a U g mk q => by obtain ⟨q0, q1, qP, qK, qD, qN⟩ := q; exact ⟨q0, q1, qP, va_K.moved (u := U) (U := U.calling g mk a) (Vm.Alike.refl U.vm) qK, qD, NW_same (u := U) rfl qN⟩, va_recv hK hPc (ci := 7) (q0 := 0) rfl rfl, fun U hU hW => ⟨rfl, by rw [hU], by rw [hU]; exact hPc, va_K.moved hW.alike hK, hDc.weaken (fun _ _ _ _ => trivial), NW_warm hW hN⟩⟩ rfl rfl hl.1 rfl (lv_room (Nat.le_of_ble_eq_true rfl)) d_Row_addNumber_21 ⟨Nat.le_of_ble_eq_true rfl, Nat.le_of_ble_eq_true rfl⟩) hS (fun q _ h => hFc q h) hFc (fun u t H1 locs htH hvm hw hB hz1 hk1 hS => ?_)
  obtain ⟨hP1, hK1, hD1⟩ := hB
  rw [htH] at hP1
  obtain ⟨hP, hD⟩ := va_join (wr := []) (w1 := [(h_t, .inr (7, [.ref h_t_cells, .int y3.1])), (h_t_cells, .inl (cB, 65546, .inl (bf y3.2)))]) hP hD [0, 1] [] rfl rfl (by decide) (by decide) hk1 hFc hP1 hD1
  generalize H1 = H at hP hS ⊢
  have hP : va_P (dC, dI) vwCl [(h_t, .inr (7, [.ref h_t_cells, .int y3.1])), (h_t_cells, .inl (cB, 65546, .inl (bf y3.2)))] H := hP.sub [0, 1] rfl
  have hD : va_D A [(h_t, .inr (7, [.ref h_t_cells, .int y3.1])), (h_t_cells, .inl (cB, 65546, .inl (bf y3.2)))] := hD.sub [0, 1] (by decide) rfl
  refine lv_aload_n hx hb d_Row_addNumber_24 rfl (lv_at hl 0 rfl) ?_
  refine lv_iload_n hx hb d_Row_addNumber_25 rfl (lv_at hl 1 rfl) ?_
  obtain ⟨y4, hy4, h⟩ := bd h
  have hPc := hP.sub (ws' := [(h_t, .inr (7, [.ref h_t_cells, .int y3.1])), (h_t_cells, .inl (cB, 65546, .inl (bf y3.2)))]) [0, 1] rfl
  have hDc := hD.sub (ws' := [(h_t, .inr (7, [.ref h_t_cells, .int y3.1])), (h_t_cells, .inl (cB, 65546, .inl (bf y3.2)))]) [0, 1] (by decide) rfl
  have hFc := va_free (wc := [(h_t, .inr (7, [.ref h_t_cells, .int y3.1])), (h_t_cells, .inl (cB, 65546, .inl (bf y3.2)))]) hD hS hA [0, 1] rfl
  refine va_callv (va_runV (As := [.int p1]) (rest := []) ⟨hx, hb, hml, hown, ht⟩ (cRow_add l dC dI h_t h_t_cells cB cI cJ _ N p1 y3.1 y3.2 y4 hy4) (⟨callB_of 1 ht (gTB (k_611)) rfl rfl rfl (ht _ k_66) (ht _ k_723) (by decide +kernel) ⟨Nat.le_of_ble_eq_true rfl, Nat.le_of_ble_eq_true rfl⟩, ht _ k_609, ht _ k_610⟩) ⟨fun a U g mk q => by obtain ⟨q0, q1, qP, qK, qD, qN⟩ := q; exact ⟨q0, q1, qP, va_K.moved (u := U) (U := U.calling g mk a) (Vm.Alike.refl U.vm) qK, qD, NW_same (u := U) rfl qN⟩, va_recv hK hPc (ci := 7) (q0 := 0) rfl rfl, fun U hU hW => ⟨rfl, by rw [hU], by rw [hU]; exact hPc, va_K.moved hW.alike hK, hDc.weaken (fun _ _ _ _ => trivial), NW_warm hW hN⟩⟩ rfl rfl hl.1 rfl (lv_room (Nat.le_of_ble_eq_true rfl)) d_Row_addNumber_26 ⟨Nat.le_of_ble_eq_true rfl, Nat.le_of_ble_eq_true rfl⟩) hS (fun q _ h => hFc q h) hFc (fun u t H1 locs htH hvm hw hB hz1 hk1 hS => ?_)
  obtain ⟨hP1, hK1, hD1⟩ := hB
  rw [htH] at hP1
  obtain ⟨hP, hD⟩ := va_join (wr := []) (w1 := [(h_t, .inr (7, [.ref h_t_cells, .int y4.1])), (h_t_cells, .inl (cB, 65546, .inl (bf y4.2)))]) hP hD [0, 1] [] rfl rfl (by decide) (by decide) hk1 hFc hP1 hD1
  generalize H1 = H at hP hS ⊢
  have hP : va_P (dC, dI) vwCl [(h_t, .inr (7, [.ref h_t_cells, .int y4.1])), (h_t_cells, .inl (cB, 65546, .inl (bf y4.2)))] H := hP.sub [0, 1] rfl
  have hD : va_D A [(h_t, .inr (7, [.ref h_t_cells, .int y4.1])), (h_t_cells, .inl (cB, 65546, .inl (bf y4.2)))] := hD.sub [0, 1] (by decide) rfl
  obtain rfl := Option.some.inj h
  exact W.vret hx hb hr (fun t ht hW => ⟨⟨(), rfl, trivial, by rw [ht]; exact hP, va_K.moved hW.alike hK, hD⟩, hS.F ht⟩) hS.2.2 d_Row_addNumber_29
/-! PackedBytes$Row.repeat(II)V -/
def fRow_repeat_39 (N : Nat) (x1 : Int32) (x3 : Int32) : Nat → (Int32) → (Nat → Int32) → Option ((Nat → Int32))
  | 0, _, _ => none
  | k + 1, x4, f_t_cells =>
    if x3 ≤ x4 then
      some f_t_cells
    else
      if ¬ ((x4 - x1) < 0 ∨ 65546 ≤ (x4 - x1).toNatClampNeg) then
        if ¬ (x4 < 0 ∨ 65546 ≤ x4.toNatClampNeg) then
          fRow_repeat_39 N x1 x3 k (x4 + (1 : Int32)) (upd f_t_cells x4.toNatClampNeg ((f_t_cells (x4 - x1).toNatClampNeg).toInt8.toInt32))
        else none
      else none
def fRow_repeat (N : Nat) (p1 : Int32) (p2 : Int32) (v_t_count : Int32) (f_t_cells : Nat → Int32) : Option (Int32 × (Nat → Int32)) :=
    if p1 < (1 : Int32) then
      some (v_t_count, f_t_cells)
    else
      if v_t_count < p1 then
        some (v_t_count, f_t_cells)
      else
        if 0 ≤ p2 then
          (fRow_repeat_39 N p1 (if (nI 65546) < (v_t_count + p2) then (nI 65546) else (v_t_count + p2)) N v_t_count f_t_cells).bind (fun y7 =>
            some (if (nI 65546) < (v_t_count + p2) then (nI 65546) else (v_t_count + p2), y7))
        else
          some (v_t_count, f_t_cells)
set_option maxHeartbeats 4000000 in
set_option maxRecDepth 100000 in
theorem wRow_repeat_39 {p : Program} {l : Launch} {e : Env} {s : State} {m : MethodId} {args : Array Value} {below : List Frame} {meth : Method} {c : Code} {Q : State → Prop} {A : Nat → Prop} {dC : Nat → ClassId} {dI : Nat → Nat → Nat} (h_t h_t_cells : Nat) (cB cI cJ : ClassId) (N : Nat) (v_t_count : Int32) (x1 : Int32) (x3 : Int32) (C : CX p s m args c b_Row_repeat 5 R_Row A (dC, dI) [(cB, .byte), (cI, .int), (cJ, .long)]) :
    ∀ (n : Nat) (x4 : Int32) (f_t_cells : Nat → Int32) (H : Heap) (locs : List Loc) (ls : Array Slot) (o : (Nat → Int32)), va_P (dC, dI) vwCl [(h_t, .inr (7, [.ref h_t_cells, .int v_t_count])), (h_t_cells, .inl (cB, 65546, .inl (bf f_t_cells)))] H → va_D A [(h_t, .inr (7, [.ref h_t_cells, .int v_t_count])), (h_t_cells, .inl (cB, 65546, .inl (bf f_t_cells)))] → va_S A s.heap H locs → lv_has ls 5 [(0, .ref h_t), (1, .int x1), (3, .int x3), (4, .int x4)] → fRow_repeat_39 N x1 x3 n x4 f_t_cells = some o → (∀ (H : Heap) (locs : List Loc) (ls : Array Slot), va_P (dC, dI) vwCl [(h_t, .inr (7, [.ref h_t_cells, .int v_t_count])), (h_t_cells, .inl (cB, 65546, .inl (bf o)))] H → va_D A [(h_t, .inr (7, [.ref h_t_cells, .int v_t_count])), (h_t_cells, .inl (cB, 65546, .inl (bf o)))] → va_S A s.heap H locs → lv_has ls 5 [(0, .ref h_t), (3, .int x3)] → W p l e ({ frames := 1, cells := 0, slots := 0, locals := 14 } : Room) s m args below meth c H locs 0 0 Q (F0 m 67 ls [])) → W p l e ({ frames := 1, cells := 0, slots := 0, locals := 14 } : Room) s m args below meth c H locs 0 0 Q (F0 m 39 ls []) := by
  obtain ⟨hx, hb, hml, hown, ht, hA, hK, hN⟩ := id C
  intro n
  induction n with
  | zero => intro x4 f_t_cells H locs ls o _ _ _ _ h; exact nomatch h
  | succ k ih =>
    intro x4 f_t_cells H locs ls o hP hD hS hl h kx
    refine lv_iload hx hb d_Row_repeat_39 (lv_at hl 3 rfl) ?_
    refine lv_iload_n hx hb d_Row_repeat_41 rfl (lv_at hl 2 rfl) ?_
    refine lv_icmp_ge (tgt := 67) hx hb d_Row_repeat_42 (by decide) (fun c4 => ?_) (fun c4 => ?_)
    · replace h := ip_p c4 h
      obtain rfl := Option.some.inj h
      exact kx _ _ _ hP hD hS (lv_sub hl [0, 2] rfl)
    · replace h := ip_n c4 h
      refine lv_aload_n hx hb d_Row_repeat_45 rfl (lv_at hl 0 rfl) ?_
      refine va_get (D := (dC, dI)) (ci := 7) (v := .ref h_t_cells) (C := R_Row) (T := F_Row) (N := 2) hx hb ht in_Row hown hK hP 0 rfl rfl 0 (by decide) (ht _ k_101) (fun _ h9 => h9) rfl d_Row_repeat_46 ?_
      refine lv_iload hx hb d_Row_repeat_49 (lv_at hl 3 rfl) ?_
      refine lv_aload_n hx hb d_Row_repeat_51 rfl (lv_at hl 0 rfl) ?_
      refine va_get (D := (dC, dI)) (ci := 7) (v := .ref h_t_cells) (C := R_Row) (T := F_Row) (N := 2) hx hb ht in_Row hown hK hP 0 rfl rfl 0 (by decide) (ht _ k_101) (fun _ h9 => h9) rfl d_Row_repeat_52 ?_
      refine lv_iload hx hb d_Row_repeat_55 (lv_at hl 3 rfl) ?_
      refine lv_iload_n hx hb d_Row_repeat_57 rfl (lv_at hl 1 rfl) ?_
      refine lv_isub hx hb d_Row_repeat_58 ?_
      obtain ⟨g5, h⟩ := gd h
      refine va_bald (f := bf f_t_cells) hx hb hK hP 1 0 rfl rfl g5 d_Row_repeat_59 ?_
      obtain ⟨g6, h⟩ := gd h
      refine va_bast (f := bf f_t_cells) hx hb hK hP hD hS 1 0 rfl rfl g6 d_Row_repeat_60 (fun H locs hP hD hS => ?_)
      rw [bf_upd] at hP hD
      have hP : va_P (dC, dI) vwCl [(h_t, .inr (7, [.ref h_t_cells, .int v_t_count])), (h_t_cells, .inl (cB, 65546, .inl (bf (upd f_t_cells x4.toNatClampNeg ((f_t_cells (x4 - x1).toNatClampNeg).toInt8.toInt32)))))] H := hP
      have hD : va_D A [(h_t, .inr (7, [.ref h_t_cells, .int v_t_count])), (h_t_cells, .inl (cB, 65546, .inl (bf (upd f_t_cells x4.toNatClampNeg ((f_t_cells (x4 - x1).toNatClampNeg).toInt8.toInt32)))))] := hD
      refine lv_iinc (v := x4 + (1 : Int32)) (lv' := [(4, .int (x4 + (1 : Int32))), (0, .ref h_t), (1, .int x1), (3, .int x3)]) hx hb d_Row_repeat_61 hl (k := 3) rfl rfl (by decide) rfl (fun ls hl => ?_)
      refine lv_goto (tgt := 39) hx hb d_Row_repeat_64 (by decide) ?_
      exact ih (x4 + (1 : Int32)) (upd f_t_cells x4.toNatClampNeg ((f_t_cells (x4 - x1).toNatClampNeg).toInt8.toInt32)) _ _ _ _ hP hD hS (lv_sub hl [1, 2, 3, 0] rfl) h kx
set_option maxHeartbeats 4000000 in
set_option maxRecDepth 100000 in
theorem cRow_repeat (l : Launch) (dC : Nat → ClassId) (dI : Nat → Nat → Nat) (h_t h_t_cells : Nat) (cB cI cJ : ClassId) (sz : Nat) (N : Nat) (p1 : Int32) (p2 : Int32) (v_t_count : Int32) (f_t_cells : Nat → Int32) (o : Int32 × (Nat → Int32)) (h : fRow_repeat N p1 p2 v_t_count f_t_cells = some o) : Met l y_Row_repeat w_Row_repeat ({ frames := 1, cells := 0, slots := 0, locals := 14 } : Room) (va_Pc [.ref h_t, .int p1, .int p2] (fun U => U.heap.size = sz ∧ va_P (dC, dI) vwCl [(h_t, .inr (7, [.ref h_t_cells, .int v_t_count])), (h_t_cells, .inl (cB, 65546, .inl (bf f_t_cells)))] U.heap ∧ va_K (dC, dI) vwCl [(cB, .byte), (cI, .int), (cJ, .long)] U ∧ va_D (fun _ => True) [(h_t, .inr (7, [.ref h_t_cells, .int v_t_count])), (h_t_cells, .inl (cB, 65546, .inl (bf f_t_cells)))] ∧ NW U)) (va_Qv (fun _ : Unit => True) (fun _ t => va_P (dC, dI) vwCl [(h_t, .inr (7, [.ref h_t_cells, .int o.1])), (h_t_cells, .inl (cB, 65546, .inl (bf o.2)))] t.heap ∧ va_K (dC, dI) vwCl [(cB, .byte), (cI, .int), (cJ, .long)] t ∧ va_D (va_A [(h_t, .inr (7, [.ref h_t_cells, .int v_t_count])), (h_t_cells, .inl (cB, 65546, .inl (bf f_t_cells)))] sz) [(h_t, .inr (7, [.ref h_t_cells, .int o.1])), (h_t_cells, .inl (cB, 65546, .inl (bf o.2)))]) (va_A [(h_t, .inr (7, [.ref h_t_cells, .int v_t_count])), (h_t_cells, .inl (cB, 65546, .inl (bf f_t_cells)))] sz)) 0 0 (va_A [(h_t, .inr (7, [.ref h_t_cells, .int v_t_count])), (h_t_cells, .inl (cB, 65546, .inl (bf f_t_cells)))] sz) := by
  refine Met.ofW (cc := b_Row_repeat) (maxL := 5) (ret := none) (by decide) rfl ?_
  intro p e s m args below meth c s₁ B hml hv
  obtain ⟨rfl, hsz, hP, hK, hD0, hN⟩ := hv
  have hx := B.exec
  have hb := B.bytes
  have hr := B.returns
  have hts := atoms_spec (ws := w_Row_repeat) B.pre
  have ht : ∀ w ∈ TB, w.before ([.ref h_t, .int p1, .int p2]).toArray s = true := fun w h => hts w (List.mem_cons_of_mem _ h)
  have hown : s.vm.findClass R_Row = some m.cls := findClass_of_methodNamed B.named
  have hlocks := B.notSynchronized
  subst hsz
  have hD := hD0.self (sz := s.heap.size)
  generalize hAe : va_A [(h_t, .inr (7, [.ref h_t_cells, .int v_t_count])), (h_t_cells, .inl (cB, 65546, .inl (bf f_t_cells)))] s.heap.size = A at hD ⊢
  have hA : ∀ q : Nat, s.heap.size ≤ q → A q := fun q h => by rw [← hAe]; exact Or.inr h
  have hS : va_S A s.heap s.heap [] := va_S.rf
  have hP : va_P (dC, dI) vwCl [(h_t, .inr (7, [.ref h_t_cells, .int v_t_count])), (h_t_cells, .inl (cB, 65546, .inl (bf f_t_cells)))] s.heap := hP
  have C : CX p s m ([.ref h_t, .int p1, .int p2]).toArray c b_Row_repeat 5 R_Row A (dC, dI) [(cB, .byte), (cI, .int), (cJ, .long)] := ⟨hx, hb, hml, hown, ht, hA, hK, hN⟩
  have hl := lv_entry ([.ref h_t, .int p1, .int p2]) (n := 5) (Nat.le_of_ble_eq_true rfl)
  rw [lg_entry_eq]
  generalize (lg_sl ([.ref h_t, .int p1, .int p2]) ++ List.replicate (5 - (lg_sl ([.ref h_t, .int p1, .int p2])).length) Slot.unset).toArray = ls at hl ⊢
  have hl : lv_has ls 5 [(0, .ref h_t), (1, .int p1), (2, .int p2)] := hl
  refine lv_iload_n hx hb d_Row_repeat_0 rfl (lv_at hl 1 rfl) ?_
  refine lv_iconst (v := (1 : Int32)) hx hb d_Row_repeat_1 (by decide) ?_
  refine lv_icmp_lt (tgt := 17) hx hb d_Row_repeat_2 (by decide) (fun c1 => ?_) (fun c1 => ?_)
  · replace h := ip_p c1 h
    obtain rfl := Option.some.inj h
    exact W.vret hx hb hr (fun t ht hW => ⟨⟨(), rfl, trivial, by rw [ht]; exact hP, va_K.moved hW.alike hK, hD⟩, hS.F ht⟩) hS.2.2 d_Row_repeat_17
  · replace h := ip_n c1 h
    refine lv_iload_n hx hb d_Row_repeat_5 rfl (lv_at hl 1 rfl) ?_
    refine lv_aload_n hx hb d_Row_repeat_6 rfl (lv_at hl 0 rfl) ?_
    refine va_get (D := (dC, dI)) (ci := 7) (v := .int v_t_count) (C := R_Row) (T := F_Row) (N := 2) hx hb ht in_Row hown hK hP 0 rfl rfl 1 (by decide) (ht _ k_106) (fun _ h9 => h9) rfl d_Row_repeat_7 ?_
    refine lv_icmp_gt (tgt := 17) hx hb d_Row_repeat_10 (by decide) (fun c2 => ?_) (fun c2 => ?_)
    · replace h := ip_p c2 h
      obtain rfl := Option.some.inj h
      exact W.vret hx hb hr (fun t ht hW => ⟨⟨(), rfl, trivial, by rw [ht]; exact hP, va_K.moved hW.alike hK, hD⟩, hS.F ht⟩) hS.2.2 d_Row_repeat_17
    · replace h := ip_n c2 h
      refine lv_iload_n hx hb d_Row_repeat_13 rfl (lv_at hl 2 rfl) ?_
      refine lv_if_ge (tgt := 18) hx hb d_Row_repeat_14 (by decide) (fun c3 => ?_) (fun c3 => ?_)
      · replace h := ip_p c3 h
        refine lv_aload_n hx hb d_Row_repeat_18 rfl (lv_at hl 0 rfl) ?_
        refine va_get (D := (dC, dI)) (ci := 7) (v := .int v_t_count) (C := R_Row) (T := F_Row) (N := 2) hx hb ht in_Row hown hK hP 0 rfl rfl 1 (by decide) (ht _ k_106) (fun _ h9 => h9) rfl d_Row_repeat_19 ?_
        refine lv_iload_n hx hb d_Row_repeat_22 rfl (lv_at hl 2 rfl) ?_
        refine lv_iadd hx hb d_Row_repeat_23 ?_
        refine lv_aload_n hx hb d_Row_repeat_24 rfl (lv_at hl 0 rfl) ?_
        refine va_get (D := (dC, dI)) (ci := 7) (v := .ref h_t_cells) (C := R_Row) (T := F_Row) (N := 2) hx hb ht in_Row hown hK hP 0 rfl rfl 0 (by decide) (ht _ k_101) (fun _ h9 => h9) rfl d_Row_repeat_25 ?_
        refine va_alen (v := nI 65546) hx hb hK hP 1 0 rfl rfl rfl d_Row_repeat_28 ?_
        refine va_mmin hx hb (hml.trans hl.1.symm) hown (ht _ k_761) (ht _ k_461) (ht _ k_83) (ht _ k_462) (Nat.le_of_ble_eq_true rfl) (Nat.le_of_ble_eq_true rfl) (Nat.le_of_ble_eq_true rfl) (Nat.le_of_ble_eq_true rfl) d_Row_repeat_29 ?_
        refine lv_istore_n (lv' := [(3, .int (if (nI 65546) < (v_t_count + p2) then (nI 65546) else (v_t_count + p2))), (0, .ref h_t), (1, .int p1), (2, .int p2)]) hx hb d_Row_repeat_32 rfl hl (by decide) rfl (fun ls hl => ?_)
        refine lv_aload_n hx hb d_Row_repeat_33 rfl (lv_at hl 1 rfl) ?_
        refine va_get (D := (dC, dI)) (ci := 7) (v := .int v_t_count) (C := R_Row) (T := F_Row) (N := 2) hx hb ht in_Row hown hK hP 0 rfl rfl 1 (by decide) (ht _ k_106) (fun _ h9 => h9) rfl d_Row_repeat_34 ?_
        refine lv_istore (lv' := [(4, .int v_t_count), (3, .int (if (nI 65546) < (v_t_count + p2) then (nI 65546) else (v_t_count + p2))), (0, .ref h_t), (1, .int p1), (2, .int p2)]) hx hb d_Row_repeat_37 hl (by decide) rfl (fun ls hl => ?_)
        obtain ⟨y7, hy7, h⟩ := bd h
        refine wRow_repeat_39 h_t h_t_cells cB cI cJ N v_t_count p1 (if (nI 65546) < (v_t_count + p2) then (nI 65546) else (v_t_count + p2)) C N v_t_count f_t_cells _ _ _ _ hP hD hS (lv_sub hl [2, 3, 1, 0] rfl) hy7 (fun H locs ls hP hD hS hl => ?_)
        refine lv_aload_n hx hb d_Row_repeat_67 rfl (lv_at hl 0 rfl) ?_
        refine lv_iload_n hx hb d_Row_repeat_68 rfl (lv_at hl 1 rfl) ?_
        refine va_put (D := (dC, dI)) (ci := 7) (v := .int (if (nI 65546) < (v_t_count + p2) then (nI 65546) else (v_t_count + p2))) (ty := .int) (C := R_Row) (T := F_Row) (N := 2) hx hb ht in_Row t_Row t_Row_ok n_Row hown hK hP hD hS 0 rfl rfl 1 (by decide) (ht _ k_106) (fun _ h9 => h9) rfl (by decide +kernel) rfl rfl (Nat.le_of_ble_eq_true rfl) d_Row_repeat_69 (fun H locs hP hD hS => ?_)
        have hP : va_P (dC, dI) vwCl [(h_t, .inr (7, [.ref h_t_cells, .int (if (nI 65546) < (v_t_count + p2) then (nI 65546) else (v_t_count + p2))])), (h_t_cells, .inl (cB, 65546, .inl (bf y7)))] H := hP
        have hD : va_D A [(h_t, .inr (7, [.ref h_t_cells, .int (if (nI 65546) < (v_t_count + p2) then (nI 65546) else (v_t_count + p2))])), (h_t_cells, .inl (cB, 65546, .inl (bf y7)))] := hD
        obtain rfl := Option.some.inj h
        exact W.vret hx hb hr (fun t ht hW => ⟨⟨(), rfl, trivial, by rw [ht]; exact hP, va_K.moved hW.alike hK, hD⟩, hS.F ht⟩) hS.2.2 d_Row_repeat_72
      · replace h := ip_n c3 h
        obtain rfl := Option.some.inj h
        exact W.vret hx hb hr (fun t ht hW => ⟨⟨(), rfl, trivial, by rw [ht]; exact hP, va_K.moved hW.alike hK, hD⟩, hS.F ht⟩) hS.2.2 d_Row_repeat_17
/-! PackedBytes$Row.addFrom(LPackedBytes$Row;II)V -/
def fRow_addFrom (N : Nat) (p2 : Int32) (p3 : Int32) (v_t_count : Int32) (v_p1_count : Int32) (f_t_cells : Nat → Int32) (f_p1_cells : Nat → Int32) : Option (Int32 × (Nat → Int32)) :=
    if p2 < 0 then
      some (v_t_count, f_t_cells)
    else
      if p3 < 0 then
        some (v_t_count, f_t_cells)
      else
        if v_p1_count < (p2 + p3) then
          some (v_t_count, f_t_cells)
        else
          if (v_t_count + p3) ≤ (nI 65546) then
            if ¬ p2 < 0 then
              if ¬ v_t_count < 0 then
                if ¬ p3 < 0 then
                  if p2.toNatClampNeg + p3.toNatClampNeg ≤ 65546 then
                    if v_t_count.toNatClampNeg + p3.toNatClampNeg ≤ 65546 then
                      some (v_t_count + p3, va_cpy f_p1_cells f_t_cells p2.toNatClampNeg v_t_count.toNatClampNeg p3.toNatClampNeg)
                    else none
                  else none
                else none
              else none
            else none
          else
            some (v_t_count, f_t_cells)
set_option maxHeartbeats 4000000 in
set_option maxRecDepth 100000 in
theorem cRow_addFrom (l : Launch) (dC : Nat → ClassId) (dI : Nat → Nat → Nat) (h_t h_t_cells h_p1 h_p1_cells : Nat) (cB cI cJ : ClassId) (sz : Nat) (N : Nat) (p2 : Int32) (p3 : Int32) (v_t_count : Int32) (v_p1_count : Int32) (f_t_cells : Nat → Int32) (f_p1_cells : Nat → Int32) (o : Int32 × (Nat → Int32)) (h : fRow_addFrom N p2 p3 v_t_count v_p1_count f_t_cells f_p1_cells = some o) : Met l y_Row_addFrom w_Row_addFrom ({ frames := 1, cells := 0, slots := 0, locals := 40 } : Room) (va_Pc [.ref h_t, .ref h_p1, .int p2, .int p3] (fun U => U.heap.size = sz ∧ va_P (dC, dI) vwCl [(h_t, .inr (7, [.ref h_t_cells, .int v_t_count])), (h_p1, .inr (7, [.ref h_p1_cells, .int v_p1_count])), (h_t_cells, .inl (cB, 65546, .inl (bf f_t_cells))), (h_p1_cells, .inl (cB, 65546, .inl (bf f_p1_cells)))] U.heap ∧ va_K (dC, dI) vwCl [(cB, .byte), (cI, .int), (cJ, .long)] U ∧ va_D (fun _ => True) [(h_t, .inr (7, [.ref h_t_cells, .int v_t_count])), (h_p1, .inr (7, [.ref h_p1_cells, .int v_p1_count])), (h_t_cells, .inl (cB, 65546, .inl (bf f_t_cells))), (h_p1_cells, .inl (cB, 65546, .inl (bf f_p1_cells)))] ∧ NW U)) (va_Qv (fun _ : Unit => True) (fun _ t => va_P (dC, dI) vwCl [(h_t, .inr (7, [.ref h_t_cells, .int o.1])), (h_p1, .inr (7, [.ref h_p1_cells, .int v_p1_count])), (h_t_cells, .inl (cB, 65546, .inl (bf o.2))), (h_p1_cells, .inl (cB, 65546, .inl (bf f_p1_cells)))] t.heap ∧ va_K (dC, dI) vwCl [(cB, .byte), (cI, .int), (cJ, .long)] t ∧ va_D (va_A [(h_t, .inr (7, [.ref h_t_cells, .int v_t_count])), (h_p1, .inr (7, [.ref h_p1_cells, .int v_p1_count])), (h_t_cells, .inl (cB, 65546, .inl (bf f_t_cells))), (h_p1_cells, .inl (cB, 65546, .inl (bf f_p1_cells)))] sz) [(h_t, .inr (7, [.ref h_t_cells, .int o.1])), (h_p1, .inr (7, [.ref h_p1_cells, .int v_p1_count])), (h_t_cells, .inl (cB, 65546, .inl (bf o.2))), (h_p1_cells, .inl (cB, 65546, .inl (bf f_p1_cells)))]) (va_A [(h_t, .inr (7, [.ref h_t_cells, .int v_t_count])), (h_p1, .inr (7, [.ref h_p1_cells, .int v_p1_count])), (h_t_cells, .inl (cB, 65546, .inl (bf f_t_cells))), (h_p1_cells, .inl (cB, 65546, .inl (bf f_p1_cells)))] sz)) 0 0 (va_A [(h_t, .inr (7, [.ref h_t_cells, .int v_t_count])), (h_p1, .inr (7, [.ref h_p1_cells, .int v_p1_count])), (h_t_cells, .inl (cB, 65546, .inl (bf f_t_cells))), (h_p1_cells, .inl (cB, 65546, .inl (bf f_p1_cells)))] sz) := by
  refine Met.ofW (cc := b_Row_addFrom) (maxL := 4) (ret := none) (by decide) rfl ?_
  intro p e s m args below meth c s₁ B hml hv
  obtain ⟨rfl, hsz, hP, hK, hD0, hN⟩ := hv
  have hx := B.exec
  have hb := B.bytes
  have hr := B.returns
  have hts := atoms_spec (ws := w_Row_addFrom) B.pre
  have ht : ∀ w ∈ TB, w.before ([.ref h_t, .ref h_p1, .int p2, .int p3]).toArray s = true := fun w h => hts w (List.mem_cons_of_mem _ h)
  have hown : s.vm.findClass R_Row = some m.cls := findClass_of_methodNamed B.named
  have hlocks := B.notSynchronized
  subst hsz
  have hD := hD0.self (sz := s.heap.size)
  generalize hAe : va_A [(h_t, .inr (7, [.ref h_t_cells, .int v_t_count])), (h_p1, .inr (7, [.ref h_p1_cells, .int v_p1_count])), (h_t_cells, .inl (cB, 65546, .inl (bf f_t_cells))), (h_p1_cells, .inl (cB, 65546, .inl (bf f_p1_cells)))] s.heap.size = A at hD ⊢
  have hA : ∀ q : Nat, s.heap.size ≤ q → A q := fun q h => by rw [← hAe]; exact Or.inr h
  have hS : va_S A s.heap s.heap [] := va_S.rf
  have hP : va_P (dC, dI) vwCl [(h_t, .inr (7, [.ref h_t_cells, .int v_t_count])), (h_p1, .inr (7, [.ref h_p1_cells, .int v_p1_count])), (h_t_cells, .inl (cB, 65546, .inl (bf f_t_cells))), (h_p1_cells, .inl (cB, 65546, .inl (bf f_p1_cells)))] s.heap := hP
  skip
  have hl := lv_entry ([.ref h_t, .ref h_p1, .int p2, .int p3]) (n := 4) (Nat.le_of_ble_eq_true rfl)
  rw [lg_entry_eq]
  generalize (lg_sl ([.ref h_t, .ref h_p1, .int p2, .int p3]) ++ List.replicate (4 - (lg_sl ([.ref h_t, .ref h_p1, .int p2, .int p3])).length) Slot.unset).toArray = ls at hl ⊢
  have hl : lv_has ls 4 [(0, .ref h_t), (1, .ref h_p1), (2, .int p2), (3, .int p3)] := hl
  refine lv_iload_n hx hb d_Row_addFrom_0 rfl (lv_at hl 2 rfl) ?_
  refine lv_if_lt (tgt := 32) hx hb d_Row_addFrom_1 (by decide) (fun c1 => ?_) (fun c1 => ?_)
  · replace h := ip_p c1 h
    obtain rfl := Option.some.inj h
    exact W.vret hx hb hr (fun t ht hW => ⟨⟨(), rfl, trivial, by rw [ht]; exact hP, va_K.moved hW.alike hK, hD⟩, hS.F ht⟩) hS.2.2 d_Row_addFrom_32
  · replace h := ip_n c1 h
    refine lv_iload_n hx hb d_Row_addFrom_4 rfl (lv_at hl 3 rfl) ?_
    refine lv_if_lt (tgt := 32) hx hb d_Row_addFrom_5 (by decide) (fun c2 => ?_) (fun c2 => ?_)
    · replace h := ip_p c2 h
      obtain rfl := Option.some.inj h
      exact W.vret hx hb hr (fun t ht hW => ⟨⟨(), rfl, trivial, by rw [ht]; exact hP, va_K.moved hW.alike hK, hD⟩, hS.F ht⟩) hS.2.2 d_Row_addFrom_32
    · replace h := ip_n c2 h
      refine lv_iload_n hx hb d_Row_addFrom_8 rfl (lv_at hl 2 rfl) ?_
      refine lv_iload_n hx hb d_Row_addFrom_9 rfl (lv_at hl 3 rfl) ?_
      refine lv_iadd hx hb d_Row_addFrom_10 ?_
      refine lv_aload_n hx hb d_Row_addFrom_11 rfl (lv_at hl 1 rfl) ?_
      refine va_get (D := (dC, dI)) (ci := 7) (v := .int v_p1_count) (C := R_Row) (T := F_Row) (N := 2) hx hb ht in_Row hown hK hP 1 rfl rfl 1 (by decide) (ht _ k_106) (fun _ h9 => h9) rfl d_Row_addFrom_12 ?_
      refine lv_icmp_gt (tgt := 32) hx hb d_Row_addFrom_15 (by decide) (fun c3 => ?_) (fun c3 => ?_)
      · replace h := ip_p c3 h
        obtain rfl := Option.some.inj h
        exact W.vret hx hb hr (fun t ht hW => ⟨⟨(), rfl, trivial, by rw [ht]; exact hP, va_K.moved hW.alike hK, hD⟩, hS.F ht⟩) hS.2.2 d_Row_addFrom_32
      · replace h := ip_n c3 h
        refine lv_aload_n hx hb d_Row_addFrom_18 rfl (lv_at hl 0 rfl) ?_
        refine va_get (D := (dC, dI)) (ci := 7) (v := .int v_t_count) (C := R_Row) (T := F_Row) (N := 2) hx hb ht in_Row hown hK hP 0 rfl rfl 1 (by decide) (ht _ k_106) (fun _ h9 => h9) rfl d_Row_addFrom_19 ?_
        refine lv_iload_n hx hb d_Row_addFrom_22 rfl (lv_at hl 3 rfl) ?_
        refine lv_iadd hx hb d_Row_addFrom_23 ?_
        refine lv_aload_n hx hb d_Row_addFrom_24 rfl (lv_at hl 0 rfl) ?_
        refine va_get (D := (dC, dI)) (ci := 7) (v := .ref h_t_cells) (C := R_Row) (T := F_Row) (N := 2) hx hb ht in_Row hown hK hP 0 rfl rfl 0 (by decide) (ht _ k_101) (fun _ h9 => h9) rfl d_Row_addFrom_25 ?_
        refine va_alen (v := nI 65546) hx hb hK hP 2 0 rfl rfl rfl d_Row_addFrom_28 ?_
        refine lv_icmp_le (tgt := 33) hx hb d_Row_addFrom_29 (by decide) (fun c4 => ?_) (fun c4 => ?_)
        · replace h := ip_p c4 h
          refine lv_aload_n hx hb d_Row_addFrom_33 rfl (lv_at hl 1 rfl) ?_
          refine va_get (D := (dC, dI)) (ci := 7) (v := .ref h_p1_cells) (C := R_Row) (T := F_Row) (N := 2) hx hb ht in_Row hown hK hP 1 rfl rfl 0 (by decide) (ht _ k_101) (fun _ h9 => h9) rfl d_Row_addFrom_34 ?_
          refine lv_iload_n hx hb d_Row_addFrom_37 rfl (lv_at hl 2 rfl) ?_
          refine lv_aload_n hx hb d_Row_addFrom_38 rfl (lv_at hl 0 rfl) ?_
          refine va_get (D := (dC, dI)) (ci := 7) (v := .ref h_t_cells) (C := R_Row) (T := F_Row) (N := 2) hx hb ht in_Row hown hK hP 0 rfl rfl 0 (by decide) (ht _ k_101) (fun _ h9 => h9) rfl d_Row_addFrom_39 ?_
          refine lv_aload_n hx hb d_Row_addFrom_42 rfl (lv_at hl 0 rfl) ?_
          refine va_get (D := (dC, dI)) (ci := 7) (v := .int v_t_count) (C := R_Row) (T := F_Row) (N := 2) hx hb ht in_Row hown hK hP 0 rfl rfl 1 (by decide) (ht _ k_106) (fun _ h9 => h9) rfl d_Row_addFrom_43 ?_
          refine lv_iload_n hx hb d_Row_addFrom_46 rfl (lv_at hl 3 rfl) ?_
          obtain ⟨g5, h⟩ := gd h
          obtain ⟨g6, h⟩ := gd h
          obtain ⟨g7, h⟩ := gd h
          obtain ⟨g8, h⟩ := gd h
          obtain ⟨g9, h⟩ := gd h
          refine va_copyi (f := bf f_p1_cells) (g := bf f_t_cells) hx hb (hml.trans hl.1.symm) hown (ht _ k_620) (ht _ k_511) (ht _ k_510) (ht _ k_85) hK hP hD hS 3 2 0 0 rfl rfl rfl rfl rfl g5 g6 g7 g8 g9 (fun _ _ => bf_fit _ _) (Nat.le_of_ble_eq_true rfl) (by decide) d_Row_addFrom_47 (fun H locs hP hD hS => ?_)
          rw [bf_cpy] at hP hD
          have hP : va_P (dC, dI) vwCl [(h_t, .inr (7, [.ref h_t_cells, .int v_t_count])), (h_p1, .inr (7, [.ref h_p1_cells, .int v_p1_count])), (h_t_cells, .inl (cB, 65546, .inl (bf (va_cpy f_p1_cells f_t_cells p2.toNatClampNeg v_t_count.toNatClampNeg p3.toNatClampNeg)))), (h_p1_cells, .inl (cB, 65546, .inl (bf f_p1_cells)))] H := hP
          have hD : va_D A [(h_t, .inr (7, [.ref h_t_cells, .int v_t_count])), (h_p1, .inr (7, [.ref h_p1_cells, .int v_p1_count])), (h_t_cells, .inl (cB, 65546, .inl (bf (va_cpy f_p1_cells f_t_cells p2.toNatClampNeg v_t_count.toNatClampNeg p3.toNatClampNeg)))), (h_p1_cells, .inl (cB, 65546, .inl (bf f_p1_cells)))] := hD
          refine lv_aload_n hx hb d_Row_addFrom_50 rfl (lv_at hl 0 rfl) ?_
          refine lv_dup hx hb d_Row_addFrom_51 rfl ?_
          refine va_get (D := (dC, dI)) (ci := 7) (v := .int v_t_count) (C := R_Row) (T := F_Row) (N := 2) hx hb ht in_Row hown hK hP 0 rfl rfl 1 (by decide) (ht _ k_106) (fun _ h9 => h9) rfl d_Row_addFrom_52 ?_
          refine lv_iload_n hx hb d_Row_addFrom_55 rfl (lv_at hl 3 rfl) ?_
          refine lv_iadd hx hb d_Row_addFrom_56 ?_
          refine va_put (D := (dC, dI)) (ci := 7) (v := .int (v_t_count + p3)) (ty := .int) (C := R_Row) (T := F_Row) (N := 2) hx hb ht in_Row t_Row t_Row_ok n_Row hown hK hP hD hS 0 rfl rfl 1 (by decide) (ht _ k_106) (fun _ h9 => h9) rfl (by decide +kernel) rfl rfl (Nat.le_of_ble_eq_true rfl) d_Row_addFrom_57 (fun H locs hP hD hS => ?_)
          have hP : va_P (dC, dI) vwCl [(h_t, .inr (7, [.ref h_t_cells, .int (v_t_count + p3)])), (h_p1, .inr (7, [.ref h_p1_cells, .int v_p1_count])), (h_t_cells, .inl (cB, 65546, .inl (bf (va_cpy f_p1_cells f_t_cells p2.toNatClampNeg v_t_count.toNatClampNeg p3.toNatClampNeg)))), (h_p1_cells, .inl (cB, 65546, .inl (bf f_p1_cells)))] H := hP
          have hD : va_D A [(h_t, .inr (7, [.ref h_t_cells, .int (v_t_count + p3)])), (h_p1, .inr (7, [.ref h_p1_cells, .int v_p1_count])), (h_t_cells, .inl (cB, 65546, .inl (bf (va_cpy f_p1_cells f_t_cells p2.toNatClampNeg v_t_count.toNatClampNeg p3.toNatClampNeg)))), (h_p1_cells, .inl (cB, 65546, .inl (bf f_p1_cells)))] := hD
          obtain rfl := Option.some.inj h
          exact W.vret hx hb hr (fun t ht hW => ⟨⟨(), rfl, trivial, by rw [ht]; exact hP, va_K.moved hW.alike hK, hD⟩, hS.F ht⟩) hS.2.2 d_Row_addFrom_60
        · replace h := ip_n c4 h
          obtain rfl := Option.some.inj h
          exact W.vret hx hb hr (fun t ht hW => ⟨⟨(), rfl, trivial, by rw [ht]; exact hP, va_K.moved hW.alike hK, hD⟩, hS.F ht⟩) hS.2.2 d_Row_addFrom_32
/-! PackedBytes$Row.become(LPackedBytes$Row;)V -/
def fRow_become (N : Nat) (v_p1_count : Int32) (f_t_cells : Nat → Int32) (f_p1_cells : Nat → Int32) : Option (Int32 × (Nat → Int32)) :=
    (fRow_addFrom N (0 : Int32) v_p1_count (0 : Int32) v_p1_count f_t_cells f_p1_cells).bind (fun y1 =>
      some (y1.1, y1.2))
set_option maxHeartbeats 4000000 in
set_option maxRecDepth 100000 in
theorem cRow_become (l : Launch) (dC : Nat → ClassId) (dI : Nat → Nat → Nat) (h_t h_t_cells h_p1 h_p1_cells : Nat) (cB cI cJ : ClassId) (sz : Nat) (N : Nat) (v_t_count : Int32) (v_p1_count : Int32) (f_t_cells : Nat → Int32) (f_p1_cells : Nat → Int32) (o : Int32 × (Nat → Int32)) (h : fRow_become N v_p1_count f_t_cells f_p1_cells = some o) : Met l y_Row_become w_Row_become ({ frames := 2, cells := 0, slots := 0, locals := 63 } : Room) (va_Pc [.ref h_t, .ref h_p1] (fun U => U.heap.size = sz ∧ va_P (dC, dI) vwCl [(h_t, .inr (7, [.ref h_t_cells, .int v_t_count])), (h_p1, .inr (7, [.ref h_p1_cells, .int v_p1_count])), (h_t_cells, .inl (cB, 65546, .inl (bf f_t_cells))), (h_p1_cells, .inl (cB, 65546, .inl (bf f_p1_cells)))] U.heap ∧ va_K (dC, dI) vwCl [(cB, .byte), (cI, .int), (cJ, .long)] U ∧ va_D (fun _ => True) [(h_t, .inr (7, [.ref h_t_cells, .int v_t_count])), (h_p1, .inr (7, [.ref h_p1_cells, .int v_p1_count])), (h_t_cells, .inl (cB, 65546, .inl (bf f_t_cells))), (h_p1_cells, .inl (cB, 65546, .inl (bf f_p1_cells)))] ∧ NW U)) (va_Qv (fun _ : Unit => True) (fun _ t => va_P (dC, dI) vwCl [(h_t, .inr (7, [.ref h_t_cells, .int o.1])), (h_p1, .inr (7, [.ref h_p1_cells, .int v_p1_count])), (h_t_cells, .inl (cB, 65546, .inl (bf o.2))), (h_p1_cells, .inl (cB, 65546, .inl (bf f_p1_cells)))] t.heap ∧ va_K (dC, dI) vwCl [(cB, .byte), (cI, .int), (cJ, .long)] t ∧ va_D (va_A [(h_t, .inr (7, [.ref h_t_cells, .int v_t_count])), (h_p1, .inr (7, [.ref h_p1_cells, .int v_p1_count])), (h_t_cells, .inl (cB, 65546, .inl (bf f_t_cells))), (h_p1_cells, .inl (cB, 65546, .inl (bf f_p1_cells)))] sz) [(h_t, .inr (7, [.ref h_t_cells, .int o.1])), (h_p1, .inr (7, [.ref h_p1_cells, .int v_p1_count])), (h_t_cells, .inl (cB, 65546, .inl (bf o.2))), (h_p1_cells, .inl (cB, 65546, .inl (bf f_p1_cells)))]) (va_A [(h_t, .inr (7, [.ref h_t_cells, .int v_t_count])), (h_p1, .inr (7, [.ref h_p1_cells, .int v_p1_count])), (h_t_cells, .inl (cB, 65546, .inl (bf f_t_cells))), (h_p1_cells, .inl (cB, 65546, .inl (bf f_p1_cells)))] sz)) 0 0 (va_A [(h_t, .inr (7, [.ref h_t_cells, .int v_t_count])), (h_p1, .inr (7, [.ref h_p1_cells, .int v_p1_count])), (h_t_cells, .inl (cB, 65546, .inl (bf f_t_cells))), (h_p1_cells, .inl (cB, 65546, .inl (bf f_p1_cells)))] sz) := by
  refine Met.ofW (cc := b_Row_become) (maxL := 2) (ret := none) (by decide) rfl ?_
  intro p e s m args below meth c s₁ B hml hv
  obtain ⟨rfl, hsz, hP, hK, hD0, hN⟩ := hv
  have hx := B.exec
  have hb := B.bytes
  have hr := B.returns
  have hts := atoms_spec (ws := w_Row_become) B.pre
  have ht : ∀ w ∈ TB, w.before ([.ref h_t, .ref h_p1]).toArray s = true := fun w h => hts w (List.mem_cons_of_mem _ h)
  have hown : s.vm.findClass R_Row = some m.cls := findClass_of_methodNamed B.named
  have hlocks := B.notSynchronized
  subst hsz
  have hD := hD0.self (sz := s.heap.size)
  generalize hAe : va_A [(h_t, .inr (7, [.ref h_t_cells, .int v_t_count])), (h_p1, .inr (7, [.ref h_p1_cells, .int v_p1_count])), (h_t_cells, .inl (cB, 65546, .inl (bf f_t_cells))), (h_p1_cells, .inl (cB, 65546, .inl (bf f_p1_cells)))] s.heap.size = A at hD ⊢
  have hA : ∀ q : Nat, s.heap.size ≤ q → A q := fun q h => by rw [← hAe]; exact Or.inr h
  have hS : va_S A s.heap s.heap [] := va_S.rf
  have hP : va_P (dC, dI) vwCl [(h_t, .inr (7, [.ref h_t_cells, .int v_t_count])), (h_p1, .inr (7, [.ref h_p1_cells, .int v_p1_count])), (h_t_cells, .inl (cB, 65546, .inl (bf f_t_cells))), (h_p1_cells, .inl (cB, 65546, .inl (bf f_p1_cells)))] s.heap := hP
  skip
  have hl := lv_entry ([.ref h_t, .ref h_p1]) (n := 2) (Nat.le_of_ble_eq_true rfl)
  rw [lg_entry_eq]
  generalize (lg_sl ([.ref h_t, .ref h_p1]) ++ List.replicate (2 - (lg_sl ([.ref h_t, .ref h_p1])).length) Slot.unset).toArray = ls at hl ⊢
  have hl : lv_has ls 2 [(0, .ref h_t), (1, .ref h_p1)] := hl
  refine lv_aload_n hx hb d_Row_become_0 rfl (lv_at hl 0 rfl) ?_
  refine lv_iconst (v := (0 : Int32)) hx hb d_Row_become_1 (by decide) ?_
  refine va_put (D := (dC, dI)) (ci := 7) (v := .int (0 : Int32)) (ty := .int) (C := R_Row) (T := F_Row) (N := 2) hx hb ht in_Row t_Row t_Row_ok n_Row hown hK hP hD hS 0 rfl rfl 1 (by decide) (ht _ k_106) (fun _ h9 => h9) rfl (by decide +kernel) rfl rfl (Nat.le_of_ble_eq_true rfl) d_Row_become_2 (fun H locs hP hD hS => ?_)
  have hP : va_P (dC, dI) vwCl [(h_t, .inr (7, [.ref h_t_cells, .int (0 : Int32)])), (h_p1, .inr (7, [.ref h_p1_cells, .int v_p1_count])), (h_t_cells, .inl (cB, 65546, .inl (bf f_t_cells))), (h_p1_cells, .inl (cB, 65546, .inl (bf f_p1_cells)))] H := hP
  have hD : va_D A [(h_t, .inr (7, [.ref h_t_cells, .int (0 : Int32)])), (h_p1, .inr (7, [.ref h_p1_cells, .int v_p1_count])), (h_t_cells, .inl (cB, 65546, .inl (bf f_t_cells))), (h_p1_cells, .inl (cB, 65546, .inl (bf f_p1_cells)))] := hD
  refine lv_aload_n hx hb d_Row_become_5 rfl (lv_at hl 0 rfl) ?_
  refine lv_aload_n hx hb d_Row_become_6 rfl (lv_at hl 1 rfl) ?_
  refine lv_iconst (v := (0 : Int32)) hx hb d_Row_become_7 (by decide) ?_
  refine lv_aload_n hx hb d_Row_become_8 rfl (lv_at hl 1 rfl) ?_
  refine va_get (D := (dC, dI)) (ci := 7) (v := .int v_p1_count) (C := R_Row) (T := F_Row) (N := 2) hx hb ht in_Row hown hK hP 1 rfl rfl 1 (by decide) (ht _ k_106) (fun _ h9 => h9) rfl d_Row_become_9 ?_
  obtain ⟨y1, hy1, h⟩ := bd h
  have hPc := hP.sub (ws' := [(h_t, .inr (7, [.ref h_t_cells, .int (0 : Int32)])), (h_p1, .inr (7, [.ref h_p1_cells, .int v_p1_count])), (h_t_cells, .inl (cB, 65546, .inl (bf f_t_cells))), (h_p1_cells, .inl (cB, 65546, .inl (bf f_p1_cells)))]) [0, 1, 2, 3] rfl
  have hDc := hD.sub (ws' := [(h_t, .inr (7, [.ref h_t_cells, .int (0 : Int32)])), (h_p1, .inr (7, [.ref h_p1_cells, .int v_p1_count])), (h_t_cells, .inl (cB, 65546, .inl (bf f_t_cells))), (h_p1_cells, .inl (cB, 65546, .inl (bf f_p1_cells)))]) [0, 1, 2, 3] (by decide) rfl
  have hFc := va_free (wc := [(h_t, .inr (7, [.ref h_t_cells, .int (0 : Int32)])), (h_p1, .inr (7, [.ref h_p1_cells, .int v_p1_count])), (h_t_cells, .inl (cB, 65546, .inl (bf f_t_cells))), (h_p1_cells, .inl (cB, 65546, .inl (bf f_p1_cells)))]) hD hS hA [0, 1, 2, 3] rfl
  refine va_callv (va_runV (As := [.ref h_p1, .int (0 : Int32), .int v_p1_count]) (rest := []) ⟨hx, hb, hml, hown, ht⟩ (cRow_addFrom l dC dI h_t h_t_cells h_p1 h_p1_cells cB cI cJ _ N (0 : Int32) v_p1_count (0 : Int32) v_p1_count f_t_cells f_p1_cells y1 hy1) (⟨callB_of 3 ht (gTB (k_619)) rfl rfl rfl (ht _ k_66) (ht _ k_911) (by decide +kernel) ⟨Nat.le_of_ble_eq_true rfl, Nat.le_of_ble_eq_true rfl⟩, ht _ k_617, ht _ k_618⟩) ⟨fun a U g mk q => by obtain ⟨q0, q1, qP, qK, qD, qN⟩ := q; exact ⟨q0, q1, qP, va_K.moved (u := U) (U := U.calling g mk a) (Vm.Alike.refl U.vm) qK, qD, NW_same (u := U) rfl qN⟩, va_recv hK hPc (ci := 7) (q0 := 0) rfl rfl, fun U hU hW => ⟨rfl, by rw [hU], by rw [hU]; exact hPc, va_K.moved hW.alike hK, hDc.weaken (fun _ _ _ _ => trivial), NW_warm hW hN⟩⟩ rfl rfl hl.1 rfl (lv_room (Nat.le_of_ble_eq_true rfl)) d_Row_become_12 ⟨Nat.le_of_ble_eq_true rfl, Nat.le_of_ble_eq_true rfl⟩) hS (fun q _ h => hFc q h) hFc (fun u t H1 locs htH hvm hw hB hz1 hk1 hS => ?_)
  obtain ⟨hP1, hK1, hD1⟩ := hB
  rw [htH] at hP1
  obtain ⟨hP, hD⟩ := va_join (wr := []) (w1 := [(h_t, .inr (7, [.ref h_t_cells, .int y1.1])), (h_p1, .inr (7, [.ref h_p1_cells, .int v_p1_count])), (h_t_cells, .inl (cB, 65546, .inl (bf y1.2))), (h_p1_cells, .inl (cB, 65546, .inl (bf f_p1_cells)))]) hP hD [0, 1, 2, 3] [] rfl rfl (by decide) (by decide) hk1 hFc hP1 hD1
  generalize H1 = H at hP hS ⊢
  have hP : va_P (dC, dI) vwCl [(h_t, .inr (7, [.ref h_t_cells, .int y1.1])), (h_p1, .inr (7, [.ref h_p1_cells, .int v_p1_count])), (h_t_cells, .inl (cB, 65546, .inl (bf y1.2))), (h_p1_cells, .inl (cB, 65546, .inl (bf f_p1_cells)))] H := hP.sub [0, 1, 2, 3] rfl
  have hD : va_D A [(h_t, .inr (7, [.ref h_t_cells, .int y1.1])), (h_p1, .inr (7, [.ref h_p1_cells, .int v_p1_count])), (h_t_cells, .inl (cB, 65546, .inl (bf y1.2))), (h_p1_cells, .inl (cB, 65546, .inl (bf f_p1_cells)))] := hD.sub [0, 1, 2, 3] (by decide) rfl
  obtain rfl := Option.some.inj h
  exact W.vret hx hb hr (fun t ht hW => ⟨⟨(), rfl, trivial, by rw [ht]; exact hP, va_K.moved hW.alike hK, hD⟩, hS.F ht⟩) hS.2.2 d_Row_become_15
