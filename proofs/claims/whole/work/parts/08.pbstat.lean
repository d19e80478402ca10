theorem d_PB_fixedLength_0 : decode b_PB_fixedLength 0 = .ok (.iload_n 0, 1) := by decide +kernel
theorem d_PB_fixedLength_1 : decode b_PB_fixedLength 1 = .ok (.sipush 144, 3) := by decide +kernel
theorem d_PB_fixedLength_4 : decode b_PB_fixedLength 4 = .ok (.if_icmp .ge 6, 3) := by decide +kernel
theorem d_PB_fixedLength_7 : decode b_PB_fixedLength 7 = .ok (.bipush 8, 2) := by decide +kernel
theorem d_PB_fixedLength_9 : decode b_PB_fixedLength 9 = .ok (.ireturn, 1) := by decide +kernel
theorem d_PB_fixedLength_10 : decode b_PB_fixedLength 10 = .ok (.iload_n 0, 1) := by decide +kernel
theorem d_PB_fixedLength_11 : decode b_PB_fixedLength 11 = .ok (.sipush 256, 3) := by decide +kernel
theorem d_PB_fixedLength_14 : decode b_PB_fixedLength 14 = .ok (.if_icmp .ge 6, 3) := by decide +kernel
theorem d_PB_fixedLength_17 : decode b_PB_fixedLength 17 = .ok (.bipush 9, 2) := by decide +kernel
theorem d_PB_fixedLength_19 : decode b_PB_fixedLength 19 = .ok (.ireturn, 1) := by decide +kernel
theorem d_PB_fixedLength_20 : decode b_PB_fixedLength 20 = .ok (.iload_n 0, 1) := by decide +kernel
theorem d_PB_fixedLength_21 : decode b_PB_fixedLength 21 = .ok (.sipush 280, 3) := by decide +kernel
theorem d_PB_fixedLength_24 : decode b_PB_fixedLength 24 = .ok (.if_icmp .ge 8, 3) := by decide +kernel
theorem d_PB_fixedLength_27 : decode b_PB_fixedLength 27 = .ok (.bipush 7, 2) := by decide +kernel
theorem d_PB_fixedLength_29 : decode b_PB_fixedLength 29 = .ok (.goto 5, 3) := by decide +kernel
theorem d_PB_fixedLength_32 : decode b_PB_fixedLength 32 = .ok (.bipush 8, 2) := by decide +kernel
theorem d_PB_fixedLength_34 : decode b_PB_fixedLength 34 = .ok (.ireturn, 1) := by decide +kernel
theorem d_PB_repeatBits_0 : decode b_PB_repeatBits 0 = .ok (.iload_n 0, 1) := by decide +kernel
theorem d_PB_repeatBits_1 : decode b_PB_repeatBits 1 = .ok (.tableswitch 34 16 18 #[27, 29, 31], 27) := by decide +kernel
theorem d_PB_repeatBits_28 : decode b_PB_repeatBits 28 = .ok (.iconst 2, 1) := by decide +kernel
theorem d_PB_repeatBits_29 : decode b_PB_repeatBits 29 = .ok (.ireturn, 1) := by decide +kernel
theorem d_PB_repeatBits_30 : decode b_PB_repeatBits 30 = .ok (.iconst 3, 1) := by decide +kernel
theorem d_PB_repeatBits_31 : decode b_PB_repeatBits 31 = .ok (.ireturn, 1) := by decide +kernel
theorem d_PB_repeatBits_32 : decode b_PB_repeatBits 32 = .ok (.bipush 7, 2) := by decide +kernel
theorem d_PB_repeatBits_34 : decode b_PB_repeatBits 34 = .ok (.ireturn, 1) := by decide +kernel
theorem d_PB_repeatBits_35 : decode b_PB_repeatBits 35 = .ok (.iconst 0, 1) := by decide +kernel
theorem d_PB_repeatBits_36 : decode b_PB_repeatBits 36 = .ok (.ireturn, 1) := by decide +kernel
theorem d_PB_leastRepeat_0 : decode b_PB_leastRepeat 0 = .ok (.iload_n 0, 1) := by decide +kernel
theorem d_PB_leastRepeat_1 : decode b_PB_leastRepeat 1 = .ok (.tableswitch 34 16 18 #[27, 29, 31], 27) := by decide +kernel
theorem d_PB_leastRepeat_28 : decode b_PB_leastRepeat 28 = .ok (.iconst 3, 1) := by decide +kernel
theorem d_PB_leastRepeat_29 : decode b_PB_leastRepeat 29 = .ok (.ireturn, 1) := by decide +kernel
theorem d_PB_leastRepeat_30 : decode b_PB_leastRepeat 30 = .ok (.iconst 3, 1) := by decide +kernel
theorem d_PB_leastRepeat_31 : decode b_PB_leastRepeat 31 = .ok (.ireturn, 1) := by decide +kernel
theorem d_PB_leastRepeat_32 : decode b_PB_leastRepeat 32 = .ok (.bipush 11, 2) := by decide +kernel
theorem d_PB_leastRepeat_34 : decode b_PB_leastRepeat 34 = .ok (.ireturn, 1) := by decide +kernel
theorem d_PB_leastRepeat_35 : decode b_PB_leastRepeat 35 = .ok (.iconst 1, 1) := by decide +kernel
theorem d_PB_leastRepeat_36 : decode b_PB_leastRepeat 36 = .ok (.ireturn, 1) := by decide +kernel
theorem d_PB_lastNotAbove_0 : decode b_PB_lastNotAbove 0 = .ok (.iconst 0, 1) := by decide +kernel
theorem d_PB_lastNotAbove_1 : decode b_PB_lastNotAbove 1 = .ok (.istore_n 2, 1) := by decide +kernel
theorem d_PB_lastNotAbove_2 : decode b_PB_lastNotAbove 2 = .ok (.bipush 16, 2) := by decide +kernel
theorem d_PB_lastNotAbove_4 : decode b_PB_lastNotAbove 4 = .ok (.istore_n 3, 1) := by decide +kernel
theorem d_PB_lastNotAbove_5 : decode b_PB_lastNotAbove 5 = .ok (.iload_n 3, 1) := by decide +kernel
theorem d_PB_lastNotAbove_6 : decode b_PB_lastNotAbove 6 = .ok (.ifCond .le 31, 3) := by decide +kernel
theorem d_PB_lastNotAbove_9 : decode b_PB_lastNotAbove 9 = .ok (.iload_n 2, 1) := by decide +kernel
theorem d_PB_lastNotAbove_10 : decode b_PB_lastNotAbove 10 = .ok (.iload_n 3, 1) := by decide +kernel
theorem d_PB_lastNotAbove_11 : decode b_PB_lastNotAbove 11 = .ok (.iadd, 1) := by decide +kernel
theorem d_PB_lastNotAbove_12 : decode b_PB_lastNotAbove 12 = .ok (.aload_n 1, 1) := by decide +kernel
theorem d_PB_lastNotAbove_13 : decode b_PB_lastNotAbove 13 = .ok (.arraylength, 1) := by decide +kernel
theorem d_PB_lastNotAbove_14 : decode b_PB_lastNotAbove 14 = .ok (.if_icmp .ge 16, 3) := by decide +kernel
theorem d_PB_lastNotAbove_17 : decode b_PB_lastNotAbove 17 = .ok (.aload_n 1, 1) := by decide +kernel
theorem d_PB_lastNotAbove_18 : decode b_PB_lastNotAbove 18 = .ok (.iload_n 2, 1) := by decide +kernel
theorem d_PB_lastNotAbove_19 : decode b_PB_lastNotAbove 19 = .ok (.iload_n 3, 1) := by decide +kernel
theorem d_PB_lastNotAbove_20 : decode b_PB_lastNotAbove 20 = .ok (.iadd, 1) := by decide +kernel
theorem d_PB_lastNotAbove_21 : decode b_PB_lastNotAbove 21 = .ok (.iaload, 1) := by decide +kernel
theorem d_PB_lastNotAbove_22 : decode b_PB_lastNotAbove 22 = .ok (.iload_n 0, 1) := by decide +kernel
theorem d_PB_lastNotAbove_23 : decode b_PB_lastNotAbove 23 = .ok (.if_icmp .gt 7, 3) := by decide +kernel
theorem d_PB_lastNotAbove_26 : decode b_PB_lastNotAbove 26 = .ok (.iload_n 2, 1) := by decide +kernel
theorem d_PB_lastNotAbove_27 : decode b_PB_lastNotAbove 27 = .ok (.iload_n 3, 1) := by decide +kernel
theorem d_PB_lastNotAbove_28 : decode b_PB_lastNotAbove 28 = .ok (.iadd, 1) := by decide +kernel
theorem d_PB_lastNotAbove_29 : decode b_PB_lastNotAbove 29 = .ok (.istore_n 2, 1) := by decide +kernel
theorem d_PB_lastNotAbove_30 : decode b_PB_lastNotAbove 30 = .ok (.iload_n 3, 1) := by decide +kernel
theorem d_PB_lastNotAbove_31 : decode b_PB_lastNotAbove 31 = .ok (.iconst 1, 1) := by decide +kernel
theorem d_PB_lastNotAbove_32 : decode b_PB_lastNotAbove 32 = .ok (.ishr, 1) := by decide +kernel
theorem d_PB_lastNotAbove_33 : decode b_PB_lastNotAbove 33 = .ok (.istore_n 3, 1) := by decide +kernel
theorem d_PB_lastNotAbove_34 : decode b_PB_lastNotAbove 34 = .ok (.goto (-29), 3) := by decide +kernel
theorem d_PB_lastNotAbove_37 : decode b_PB_lastNotAbove 37 = .ok (.iload_n 2, 1) := by decide +kernel
theorem d_PB_lastNotAbove_38 : decode b_PB_lastNotAbove 38 = .ok (.ireturn, 1) := by decide +kernel
theorem d_PB_length_0 : decode b_PB_length 0 = .ok (.aload_n 0, 1) := by decide +kernel
theorem d_PB_length_1 : decode b_PB_length 1 = .ok (.getfield 12, 3) := by decide +kernel
theorem d_PB_length_4 : decode b_PB_length 4 = .ok (.getfield 46, 3) := by decide +kernel
theorem d_PB_length_7 : decode b_PB_length 7 = .ok (.ireturn, 1) := by decide +kernel
theorem d_PB_size_0 : decode b_PB_size 0 = .ok (.aload_n 0, 1) := by decide +kernel
theorem d_PB_size_1 : decode b_PB_size 1 = .ok (.getfield 16, 3) := by decide +kernel
theorem d_PB_size_4 : decode b_PB_size 4 = .ok (.getfield 46, 3) := by decide +kernel
theorem d_PB_size_7 : decode b_PB_size 7 = .ok (.ireturn, 1) := by decide +kernel
theorem d_PB_check_0 : decode b_PB_check 0 = .ok (.aload_n 0, 1) := by decide +kernel
theorem d_PB_check_1 : decode b_PB_check 1 = .ok (.getfield 12, 3) := by decide +kernel
theorem d_PB_check_4 : decode b_PB_check 4 = .ok (.getfield 82, 3) := by decide +kernel
theorem d_PB_check_7 : decode b_PB_check 7 = .ok (.astore_n 1, 1) := by decide +kernel
theorem d_PB_check_8 : decode b_PB_check 8 = .ok (.aload_n 0, 1) := by decide +kernel
theorem d_PB_check_9 : decode b_PB_check 9 = .ok (.getfield 12, 3) := by decide +kernel
theorem d_PB_check_12 : decode b_PB_check 12 = .ok (.getfield 46, 3) := by decide +kernel
theorem d_PB_check_15 : decode b_PB_check 15 = .ok (.istore_n 2, 1) := by decide +kernel
theorem d_PB_check_16 : decode b_PB_check 16 = .ok (.iconst (-1), 1) := by decide +kernel
theorem d_PB_check_17 : decode b_PB_check 17 = .ok (.istore_n 3, 1) := by decide +kernel
theorem d_PB_check_18 : decode b_PB_check 18 = .ok (.iconst 0, 1) := by decide +kernel
theorem d_PB_check_19 : decode b_PB_check 19 = .ok (.istore 4, 2) := by decide +kernel
theorem d_PB_check_21 : decode b_PB_check 21 = .ok (.iload 4, 2) := by decide +kernel
theorem d_PB_check_23 : decode b_PB_check 23 = .ok (.iload_n 2, 1) := by decide +kernel
theorem d_PB_check_24 : decode b_PB_check 24 = .ok (.if_icmp .ge 30, 3) := by decide +kernel
theorem d_PB_check_27 : decode b_PB_check 27 = .ok (.aload_n 0, 1) := by decide +kernel
theorem d_PB_check_28 : decode b_PB_check 28 = .ok (.getfield 42, 3) := by decide +kernel
theorem d_PB_check_31 : decode b_PB_check 31 = .ok (.iload_n 3, 1) := by decide +kernel
theorem d_PB_check_32 : decode b_PB_check 32 = .ok (.aload_n 1, 1) := by decide +kernel
theorem d_PB_check_33 : decode b_PB_check 33 = .ok (.iload 4, 2) := by decide +kernel
theorem d_PB_check_35 : decode b_PB_check 35 = .ok (.baload, 1) := by decide +kernel
theorem d_PB_check_36 : decode b_PB_check 36 = .ok (.ixor, 1) := by decide +kernel
theorem d_PB_check_37 : decode b_PB_check 37 = .ok (.sipush 255, 3) := by decide +kernel
theorem d_PB_check_40 : decode b_PB_check 40 = .ok (.iand, 1) := by decide +kernel
theorem d_PB_check_41 : decode b_PB_check 41 = .ok (.iaload, 1) := by decide +kernel
theorem d_PB_check_42 : decode b_PB_check 42 = .ok (.iload_n 3, 1) := by decide +kernel
theorem d_PB_check_43 : decode b_PB_check 43 = .ok (.bipush 8, 2) := by decide +kernel
theorem d_PB_check_45 : decode b_PB_check 45 = .ok (.iushr, 1) := by decide +kernel
theorem d_PB_check_46 : decode b_PB_check 46 = .ok (.ixor, 1) := by decide +kernel
theorem d_PB_check_47 : decode b_PB_check 47 = .ok (.istore_n 3, 1) := by decide +kernel
theorem d_PB_check_48 : decode b_PB_check 48 = .ok (.iinc 4 1, 3) := by decide +kernel
theorem d_PB_check_51 : decode b_PB_check 51 = .ok (.goto (-30), 3) := by decide +kernel
theorem d_PB_check_54 : decode b_PB_check 54 = .ok (.iload_n 3, 1) := by decide +kernel
theorem d_PB_check_55 : decode b_PB_check 55 = .ok (.iconst (-1), 1) := by decide +kernel
theorem d_PB_check_56 : decode b_PB_check 56 = .ok (.ixor, 1) := by decide +kernel
theorem d_PB_check_57 : decode b_PB_check 57 = .ok (.i2l, 1) := by decide +kernel
theorem d_PB_check_58 : decode b_PB_check 58 = .ok (.ldc2_w 119, 3) := by decide +kernel
theorem d_PB_check_61 : decode b_PB_check 61 = .ok (.land, 1) := by decide +kernel
theorem d_PB_check_62 : decode b_PB_check 62 = .ok (.lreturn, 1) := by decide +kernel
/-! PackedBytes.fixedLength(I)I -/
def fPB_fixedLength (N : Nat) (p1 : Int32) : Option (Int32) :=
    if (144 : Int32) ≤ p1 then
      if (256 : Int32) ≤ p1 then
        some (if (280 : Int32) ≤ p1 then (8 : Int32) else (7 : Int32))
      else
        some (9 : Int32)
    else
      some (8 : Int32)
set_option maxHeartbeats 4000000 in
set_option maxRecDepth 100000 in
theorem cPB_fixedLength (l : Launch) (dC : Nat → ClassId) (dI : Nat → Nat → Nat) (cB cI cJ : ClassId) (sz : Nat) (N : Nat) (p1 : Int32) (o : Int32) (h : fPB_fixedLength N p1 = some o) : Met l y_PB_fixedLength w_PB_fixedLength ({ frames := 0, cells := 0, slots := 0, locals := 0 } : Room) (va_Pc [.int p1] (fun U => U.heap.size = sz ∧ va_P (dC, dI) vwCl [] U.heap ∧ va_K (dC, dI) vwCl [(cB, .byte), (cI, .int), (cJ, .long)] U ∧ va_D (fun _ => True) [] ∧ NW U)) (va_Qi (fun r (_ : Unit) => r = o) (fun _ t => va_P (dC, dI) vwCl [] t.heap ∧ va_K (dC, dI) vwCl [(cB, .byte), (cI, .int), (cJ, .long)] t ∧ va_D (va_A [] sz) []) (va_A [] sz)) 0 0 (va_A [] sz) := by
  refine Met.ofW (cc := b_PB_fixedLength) (maxL := 1) (ret := (some .int)) (by decide) rfl ?_
  intro p e s m args below meth c s₁ B hml hv
  obtain ⟨rfl, hsz, hP, hK, hD0, hN⟩ := hv
  have hx := B.exec
  have hb := B.bytes
  have hr := B.returns
  have hts := atoms_spec (ws := w_PB_fixedLength) B.pre
  have ht : ∀ w ∈ TB, w.before ([.int p1]).toArray s = true := fun w h => hts w (List.mem_cons_of_mem _ h)
  have hown : s.vm.findClass R_PB = some m.cls := findClass_of_methodNamed B.named
  have hlocks := B.notSynchronized
  subst hsz
  have hD := hD0.self (sz := s.heap.size)
  generalize hAe : va_A [] s.heap.size = A at hD ⊢
  have hA : ∀ q : Nat, s.heap.size ≤ q → A q := fun q h => by rw [← hAe]; exact Or.inr h
  have hS : va_S A s.heap s.heap [] := va_S.rf
  have hP : va_P (dC, dI) vwCl [] s.heap := hP
  skip
  have hl := lv_entry ([.int p1]) (n := 1) (Nat.le_of_ble_eq_true rfl)
  rw [lg_entry_eq]
  generalize (lg_sl ([.int p1]) ++ List.replicate (1 - (lg_sl ([.int p1])).length) Slot.unset).toArray = ls at hl ⊢
  have hl : lv_has ls 1 [(0, .int p1)] := hl
  refine lv_iload_n hx hb d_PB_fixedLength_0 rfl (lv_at hl 0 rfl) ?_
  refine lv_sipush (v := (144 : Int32)) hx hb d_PB_fixedLength_1 (by decide) ?_
  refine lv_icmp_ge (tgt := 10) hx hb d_PB_fixedLength_4 (by decide) (fun c1 => ?_) (fun c1 => ?_)
  · replace h := ip_p c1 h
    refine lv_iload_n hx hb d_PB_fixedLength_10 rfl (lv_at hl 0 rfl) ?_
    refine lv_sipush (v := (256 : Int32)) hx hb d_PB_fixedLength_11 (by decide) ?_
    refine lv_icmp_ge (tgt := 20) hx hb d_PB_fixedLength_14 (by decide) (fun c2 => ?_) (fun c2 => ?_)
    · replace h := ip_p c2 h
      refine lv_iload_n hx hb d_PB_fixedLength_20 rfl (lv_at hl 0 rfl) ?_
      refine lv_sipush (v := (280 : Int32)) hx hb d_PB_fixedLength_21 (by decide) ?_
      refine lv_tern (J := 34) (cd := (280 : Int32) ≤ p1) (a := (8 : Int32)) (b := (7 : Int32)) (rest := []) (fun k4 k5 => ?_) ?_
      · refine lv_icmp_ge (tgt := 32) hx hb d_PB_fixedLength_24 (by decide) (fun c3 => ?_) (fun c3 => ?_)
        · refine lv_bipush (v := (8 : Int32)) hx hb d_PB_fixedLength_32 (by decide) ?_
          exact k4 c3
        · refine lv_bipush (v := (7 : Int32)) hx hb d_PB_fixedLength_27 (by decide) ?_
          refine lv_goto (tgt := 34) hx hb d_PB_fixedLength_29 (by decide) ?_
          exact k5 c3
      obtain rfl := Option.some.inj h
      exact W.iret (v := if (280 : Int32) ≤ p1 then (8 : Int32) else (7 : Int32)) hx hb hr (fun t ht hW => ⟨⟨_, (), rfl, rfl, by rw [ht]; exact hP, va_K.moved hW.alike hK, hD⟩, hS.F ht⟩) hS.2.2 d_PB_fixedLength_34
    · replace h := ip_n c2 h
      refine lv_bipush (v := (9 : Int32)) hx hb d_PB_fixedLength_17 (by decide) ?_
      obtain rfl := Option.some.inj h
      exact W.iret (v := (9 : Int32)) hx hb hr (fun t ht hW => ⟨⟨_, (), rfl, rfl, by rw [ht]; exact hP, va_K.moved hW.alike hK, hD⟩, hS.F ht⟩) hS.2.2 d_PB_fixedLength_19
  · replace h := ip_n c1 h
    refine lv_bipush (v := (8 : Int32)) hx hb d_PB_fixedLength_7 (by decide) ?_
    obtain rfl := Option.some.inj h
    exact W.iret (v := (8 : Int32)) hx hb hr (fun t ht hW => ⟨⟨_, (), rfl, rfl, by rw [ht]; exact hP, va_K.moved hW.alike hK, hD⟩, hS.F ht⟩) hS.2.2 d_PB_fixedLength_9
/-! PackedBytes.repeatBits(I)I -/
def fPB_repeatBits (N : Nat) (p1 : Int32) : Option (Int32) :=
    if p1 = (16 : Int32) then
      some (2 : Int32)
    else
      if p1 = (17 : Int32) then
        some (3 : Int32)
      else
        if p1 = (18 : Int32) then
          some (7 : Int32)
        else
          some (0 : Int32)
set_option maxHeartbeats 4000000 in
set_option maxRecDepth 100000 in
theorem cPB_repeatBits (l : Launch) (dC : Nat → ClassId) (dI : Nat → Nat → Nat) (cB cI cJ : ClassId) (sz : Nat) (N : Nat) (p1 : Int32) (o : Int32) (h : fPB_repeatBits N p1 = some o) : Met l y_PB_repeatBits w_PB_repeatBits ({ frames := 0, cells := 0, slots := 0, locals := 0 } : Room) (va_Pc [.int p1] (fun U => U.heap.size = sz ∧ va_P (dC, dI) vwCl [] U.heap ∧ va_K (dC, dI) vwCl [(cB, .byte), (cI, .int), (cJ, .long)] U ∧ va_D (fun _ => True) [] ∧ NW U)) (va_Qi (fun r (_ : Unit) => r = o) (fun _ t => va_P (dC, dI) vwCl [] t.heap ∧ va_K (dC, dI) vwCl [(cB, .byte), (cI, .int), (cJ, .long)] t ∧ va_D (va_A [] sz) []) (va_A [] sz)) 0 0 (va_A [] sz) := by
  refine Met.ofW (cc := b_PB_repeatBits) (maxL := 1) (ret := (some .int)) (by decide) rfl ?_
  intro p e s m args below meth c s₁ B hml hv
  obtain ⟨rfl, hsz, hP, hK, hD0, hN⟩ := hv
  have hx := B.exec
  have hb := B.bytes
  have hr := B.returns
  have hts := atoms_spec (ws := w_PB_repeatBits) B.pre
  have ht : ∀ w ∈ TB, w.before ([.int p1]).toArray s = true := fun w h => hts w (List.mem_cons_of_mem _ h)
  have hown : s.vm.findClass R_PB = some m.cls := findClass_of_methodNamed B.named
  have hlocks := B.notSynchronized
  subst hsz
  have hD := hD0.self (sz := s.heap.size)
  generalize hAe : va_A [] s.heap.size = A at hD ⊢
  have hA : ∀ q : Nat, s.heap.size ≤ q → A q := fun q h => by rw [← hAe]; exact Or.inr h
  have hS : va_S A s.heap s.heap [] := va_S.rf
  have hP : va_P (dC, dI) vwCl [] s.heap := hP
  skip
  have hl := lv_entry ([.int p1]) (n := 1) (Nat.le_of_ble_eq_true rfl)
  rw [lg_entry_eq]
  generalize (lg_sl ([.int p1]) ++ List.replicate (1 - (lg_sl ([.int p1])).length) Slot.unset).toArray = ls at hl ⊢
  have hl : lv_has ls 1 [(0, .int p1)] := hl
  refine lv_iload_n hx hb d_PB_repeatBits_0 rfl (lv_at hl 0 rfl) ?_
  by_cases c1 : p1 = (16 : Int32)
  · replace h := ip_p c1 h
    refine lv_tableIn (off := 27) (tgt := 28) hx hb d_PB_repeatBits_1 (by rw [c1]; decide) (by rw [c1]; decide) (by rw [c1]; rfl) (by decide) ?_
    refine lv_iconst (v := (2 : Int32)) hx hb d_PB_repeatBits_28 (by decide) ?_
    obtain rfl := Option.some.inj h
    exact W.iret (v := (2 : Int32)) hx hb hr (fun t ht hW => ⟨⟨_, (), rfl, rfl, by rw [ht]; exact hP, va_K.moved hW.alike hK, hD⟩, hS.F ht⟩) hS.2.2 d_PB_repeatBits_29
  · replace h := ip_n c1 h
    by_cases c2 : p1 = (17 : Int32)
    · replace h := ip_p c2 h
      refine lv_tableIn (off := 29) (tgt := 30) hx hb d_PB_repeatBits_1 (by rw [c2]; decide) (by rw [c2]; decide) (by rw [c2]; rfl) (by decide) ?_
      refine lv_iconst (v := (3 : Int32)) hx hb d_PB_repeatBits_30 (by decide) ?_
      obtain rfl := Option.some.inj h
      exact W.iret (v := (3 : Int32)) hx hb hr (fun t ht hW => ⟨⟨_, (), rfl, rfl, by rw [ht]; exact hP, va_K.moved hW.alike hK, hD⟩, hS.F ht⟩) hS.2.2 d_PB_repeatBits_31
    · replace h := ip_n c2 h
      by_cases c3 : p1 = (18 : Int32)
      · replace h := ip_p c3 h
        refine lv_tableIn (off := 31) (tgt := 32) hx hb d_PB_repeatBits_1 (by rw [c3]; decide) (by rw [c3]; decide) (by rw [c3]; rfl) (by decide) ?_
        refine lv_bipush (v := (7 : Int32)) hx hb d_PB_repeatBits_32 (by decide) ?_
        obtain rfl := Option.some.inj h
        exact W.iret (v := (7 : Int32)) hx hb hr (fun t ht hW => ⟨⟨_, (), rfl, rfl, by rw [ht]; exact hP, va_K.moved hW.alike hK, hD⟩, hS.F ht⟩) hS.2.2 d_PB_repeatBits_34
      · replace h := ip_n c3 h
        have sw : p1.toInt < 16 ∨ 18 < p1.toInt := by
          have := lv_neT c1 (by decide : (16 : Int32).toInt = 16)
          have := lv_neT c2 (by decide : (17 : Int32).toInt = 17)
          have := lv_neT c3 (by decide : (18 : Int32).toInt = 18)
          omega
        refine lv_tableOut (tgt := 35) hx hb d_PB_repeatBits_1 sw (by decide) ?_
        refine lv_iconst (v := (0 : Int32)) hx hb d_PB_repeatBits_35 (by decide) ?_
        obtain rfl := Option.some.inj h
        exact W.iret (v := (0 : Int32)) hx hb hr (fun t ht hW => ⟨⟨_, (), rfl, rfl, by rw [ht]; exact hP, va_K.moved hW.alike hK, hD⟩, hS.F ht⟩) hS.2.2 d_PB_repeatBits_36
/-! PackedBytes.leastRepeat(I)I -/
def fPB_leastRepeat (N : Nat) (p1 : Int32) : Option (Int32) :=
    if p1 = (16 : Int32) then
      some (3 : Int32)
    else
      if p1 = (17 : Int32) then
        some (3 : Int32)
      else
        if p1 = (18 : Int32) then
          some (11 : Int32)
        else
          some (1 : Int32)
set_option maxHeartbeats 4000000 in
set_option maxRecDepth 100000 in
theorem cPB_leastRepeat (l : Launch) (dC : Nat → ClassId) (dI : Nat → Nat → Nat) (cB cI cJ : ClassId) (sz : Nat) (N : Nat) (p1 : Int32) (o : Int32) (h : fPB_leastRepeat N p1 = some o) : Met l y_PB_leastRepeat w_PB_leastRepeat ({ frames := 0, cells := 0, slots := 0, locals := 0 } : Room) (va_Pc [.int p1] (fun U => U.heap.size = sz ∧ va_P (dC, dI) vwCl [] U.heap ∧ va_K (dC, dI) vwCl [(cB, .byte), (cI, .int), (cJ, .long)] U ∧ va_D (fun _ => True) [] ∧ NW U)) (va_Qi (fun r (_ : Unit) => r = o) (fun _ t => va_P (dC, dI) vwCl [] t.heap ∧ va_K (dC, dI) vwCl [(cB, .byte), (cI, .int), (cJ, .long)] t ∧ va_D (va_A [] sz) []) (va_A [] sz)) 0 0 (va_A [] sz) := by
  refine Met.ofW (cc := b_PB_leastRepeat) (maxL := 1) (ret := (some .int)) (by decide) rfl ?_
  intro p e s m args below meth c s₁ B hml hv
  obtain ⟨rfl, hsz, hP, hK, hD0, hN⟩ := hv
  have hx := B.exec
  have hb := B.bytes
  have hr := B.returns
  have hts := atoms_spec (ws := w_PB_leastRepeat) B.pre
  have ht : ∀ w ∈ TB, w.before ([.int p1]).toArray s = true := fun w h => hts w (List.mem_cons_of_mem _ h)
  have hown : s.vm.findClass R_PB = some m.cls := findClass_of_methodNamed B.named
  have hlocks := B.notSynchronized
  subst hsz
  have hD := hD0.self (sz := s.heap.size)
  generalize hAe : va_A [] s.heap.size = A at hD ⊢
  have hA : ∀ q : Nat, s.heap.size ≤ q → A q := fun q h => by rw [← hAe]; exact Or.inr h
  have hS : va_S A s.heap s.heap [] := va_S.rf
  have hP : va_P (dC, dI) vwCl [] s.heap := hP
  skip
  have hl := lv_entry ([.int p1]) (n := 1) (Nat.le_of_ble_eq_true rfl)
  rw [lg_entry_eq]
  generalize (lg_sl ([.int p1]) ++ List.replicate (1 - (lg_sl ([.int p1])).length) Slot.unset).toArray = ls at hl ⊢
  have hl : lv_has ls 1 [(0, .int p1)] := hl
  refine lv_iload_n hx hb d_PB_leastRepeat_0 rfl (lv_at hl 0 rfl) ?_
  by_cases c1 : p1 = (16 : Int32)
  · replace h := ip_p c1 h
    refine lv_tableIn (off := 27) (tgt := 28) hx hb d_PB_leastRepeat_1 (by rw [c1]; decide) (by rw [c1]; decide) (by rw [c1]; rfl) (by decide) ?_
    refine lv_iconst (v := (3 : Int32)) hx hb d_PB_leastRepeat_28 (by decide) ?_
    obtain rfl := Option.some.inj h
    exact W.iret (v := (3 : Int32)) hx hb hr (fun t ht hW => ⟨⟨_, (), rfl, rfl, by rw [ht]; exact hP, va_K.moved hW.alike hK, hD⟩, hS.F ht⟩) hS.2.2 d_PB_leastRepeat_29
  · replace h := ip_n c1 h
    by_cases c2 : p1 = (17 : Int32)
    · replace h := ip_p c2 h
      refine lv_tableIn (off := 29) (tgt := 30) hx hb d_PB_leastRepeat_1 (by rw [c2]; decide) (by rw [c2]; decide) (by rw [c2]; rfl) (by decide) ?_
      refine lv_iconst (v := (3 : Int32)) hx hb d_PB_leastRepeat_30 (by decide) ?_
      obtain rfl := Option.some.inj h
      exact W.iret (v := (3 : Int32)) hx hb hr (fun t ht hW => ⟨⟨_, (), rfl, rfl, by rw [ht]; exact hP, va_K.moved hW.alike hK, hD⟩, hS.F ht⟩) hS.2.2 d_PB_leastRepeat_31
    · replace h := ip_n c2 h
      by_cases c3 : p1 = (18 : Int32)
      · replace h := ip_p c3 h
        refine lv_tableIn (off := 31) (tgt := 32) hx hb d_PB_leastRepeat_1 (by rw [c3]; decide) (by rw [c3]; decide) (by rw [c3]; rfl) (by decide) ?_
        refine lv_bipush (v := (11 : Int32)) hx hb d_PB_leastRepeat_32 (by decide) ?_
        obtain rfl := Option.some.inj h
        exact W.iret (v := (11 : Int32)) hx hb hr (fun t ht hW => ⟨⟨_, (), rfl, rfl, by rw [ht]; exact hP, va_K.moved hW.alike hK, hD⟩, hS.F ht⟩) hS.2.2 d_PB_leastRepeat_34
      · replace h := ip_n c3 h
        have sw : p1.toInt < 16 ∨ 18 < p1.toInt := by
          have := lv_neT c1 (by decide : (16 : Int32).toInt = 16)
          have := lv_neT c2 (by decide : (17 : Int32).toInt = 17)
          have := lv_neT c3 (by decide : (18 : Int32).toInt = 18)
          omega
        refine lv_tableOut (tgt := 35) hx hb d_PB_leastRepeat_1 sw (by decide) ?_
        refine lv_iconst (v := (1 : Int32)) hx hb d_PB_leastRepeat_35 (by decide) ?_
        obtain rfl := Option.some.inj h
        exact W.iret (v := (1 : Int32)) hx hb hr (fun t ht hW => ⟨⟨_, (), rfl, rfl, by rw [ht]; exact hP, va_K.moved hW.alike hK, hD⟩, hS.F ht⟩) hS.2.2 d_PB_leastRepeat_36
/-! PackedBytes.lastNotAbove(I[I)I -/
def fPB_lastNotAbove_5 (N : Nat) (x0 : Int32) (n_p2 : Nat) (f_p2 : Nat → Int32) : Nat → (Int32) → (Int32) → Option (Int32)
  | 0, _, _ => none
  | k + 1, x2, x3 =>
    if x3 ≤ 0 then
      some x2
    else
      if (nI n_p2) ≤ (x2 + x3) then
        fPB_lastNotAbove_5 N x0 n_p2 f_p2 k x2 (x3 >>> ((1 : Int32) &&& 31))
      else
        if ¬ ((x2 + x3) < 0 ∨ n_p2 ≤ (x2 + x3).toNatClampNeg) then
          if x0 < (f_p2 (x2 + x3).toNatClampNeg) then
            fPB_lastNotAbove_5 N x0 n_p2 f_p2 k x2 (x3 >>> ((1 : Int32) &&& 31))
          else
            fPB_lastNotAbove_5 N x0 n_p2 f_p2 k (x2 + x3) (x3 >>> ((1 : Int32) &&& 31))
        else none
def fPB_lastNotAbove (N : Nat) (p1 : Int32) (n_p2 : Nat) (f_p2 : Nat → Int32) : Option (Int32) :=
    (fPB_lastNotAbove_5 N p1 n_p2 f_p2 N (0 : Int32) (16 : Int32)).bind (fun y6 =>
      some y6)
set_option maxHeartbeats 4000000 in
set_option maxRecDepth 100000 in
theorem wPB_lastNotAbove_5 {p : Program} {l : Launch} {e : Env} {s : State} {m : MethodId} {args : Array Value} {below : List Frame} {meth : Method} {c : Code} {Q : State → Prop} {A : Nat → Prop} {dC : Nat → ClassId} {dI : Nat → Nat → Nat} (h_p2 : Nat) (cB cI cJ : ClassId) (N : Nat) (n_p2 : Nat) (f_p2 : Nat → Int32) (x0 : Int32) (C : CX p s m args c b_PB_lastNotAbove 4 R_PB A (dC, dI) [(cB, .byte), (cI, .int), (cJ, .long)]) (ro_h_p2 : roX A h_p2 n_p2 f_p2 s) :
    ∀ (n : Nat) (x2 : Int32) (x3 : Int32) (H : Heap) (locs : List Loc) (ls : Array Slot) (o : Int32), va_P (dC, dI) vwCl [] H → va_D A [] → va_S A s.heap H locs → lv_has ls 4 [(0, .int x0), (1, .ref h_p2), (2, .int x2), (3, .int x3)] → fPB_lastNotAbove_5 N x0 n_p2 f_p2 n x2 x3 = some o → (∀ (H : Heap) (locs : List Loc) (ls : Array Slot), va_P (dC, dI) vwCl [] H → va_D A [] → va_S A s.heap H locs → lv_has ls 4 [(2, .int o)] → W p l e ({ frames := 0, cells := 0, slots := 0, locals := 0 } : Room) s m args below meth c H locs 0 0 Q (F0 m 37 ls [])) → W p l e ({ frames := 0, cells := 0, slots := 0, locals := 0 } : Room) s m args below meth c H locs 0 0 Q (F0 m 5 ls []) := by
  obtain ⟨hx, hb, hml, hown, ht, hA, hK, hN⟩ := id C
  intro n
  induction n with
  | zero => intro x2 x3 H locs ls o _ _ _ _ h; exact nomatch h
  | succ k ih =>
    intro x2 x3 H locs ls o hP hD hS hl h kx
    refine lv_iload_n hx hb d_PB_lastNotAbove_5 rfl (lv_at hl 3 rfl) ?_
    refine lv_if_le (tgt := 37) hx hb d_PB_lastNotAbove_6 (by decide) (fun c1 => ?_) (fun c1 => ?_)
    · replace h := ip_p c1 h
      obtain rfl := Option.some.inj h
      exact kx _ _ _ hP hD hS (lv_sub hl [2] rfl)
    · replace h := ip_n c1 h
      refine lv_iload_n hx hb d_PB_lastNotAbove_9 rfl (lv_at hl 2 rfl) ?_
      refine lv_iload_n hx hb d_PB_lastNotAbove_10 rfl (lv_at hl 3 rfl) ?_
      refine lv_iadd hx hb d_PB_lastNotAbove_11 ?_
      refine lv_aload_n hx hb d_PB_lastNotAbove_12 rfl (lv_at hl 1 rfl) ?_
      refine va_slen hx hb ro_h_p2.1 ro_h_p2.2.1 ro_h_p2.2.2 hS d_PB_lastNotAbove_13 ?_
      refine lv_icmp_ge (tgt := 30) hx hb d_PB_lastNotAbove_14 (by decide) (fun c3 => ?_) (fun c3 => ?_)
      · replace h := ip_p c3 h
        refine lv_iload_n hx hb d_PB_lastNotAbove_30 rfl (lv_at hl 3 rfl) ?_
        refine lv_iconst (v := (1 : Int32)) hx hb d_PB_lastNotAbove_31 (by decide) ?_
        refine lv_ishr hx hb d_PB_lastNotAbove_32 ?_
        refine lv_istore_n (lv' := [(3, .int (x3 >>> ((1 : Int32) &&& 31))), (0, .int x0), (1, .ref h_p2), (2, .int x2)]) hx hb d_PB_lastNotAbove_33 rfl hl (by decide) rfl (fun ls hl => ?_)
        refine lv_goto (tgt := 5) hx hb d_PB_lastNotAbove_34 (by decide) ?_
        exact ih x2 (x3 >>> ((1 : Int32) &&& 31)) _ _ _ _ hP hD hS (lv_sub hl [1, 2, 3, 0] rfl) h kx
      · replace h := ip_n c3 h
        refine lv_aload_n hx hb d_PB_lastNotAbove_17 rfl (lv_at hl 1 rfl) ?_
        refine lv_iload_n hx hb d_PB_lastNotAbove_18 rfl (lv_at hl 2 rfl) ?_
        refine lv_iload_n hx hb d_PB_lastNotAbove_19 rfl (lv_at hl 3 rfl) ?_
        refine lv_iadd hx hb d_PB_lastNotAbove_20 ?_
        obtain ⟨g4, h⟩ := gd h
        refine va_sld hx hb ro_h_p2.1 ro_h_p2.2.1 ro_h_p2.2.2 hS g4 d_PB_lastNotAbove_21 ?_
        refine lv_iload_n hx hb d_PB_lastNotAbove_22 rfl (lv_at hl 0 rfl) ?_
        refine lv_icmp_gt (tgt := 30) hx hb d_PB_lastNotAbove_23 (by decide) (fun c5 => ?_) (fun c5 => ?_)
        · replace h := ip_p c5 h
          refine lv_iload_n hx hb d_PB_lastNotAbove_30 rfl (lv_at hl 3 rfl) ?_
          refine lv_iconst (v := (1 : Int32)) hx hb d_PB_lastNotAbove_31 (by decide) ?_
          refine lv_ishr hx hb d_PB_lastNotAbove_32 ?_
          refine lv_istore_n (lv' := [(3, .int (x3 >>> ((1 : Int32) &&& 31))), (0, .int x0), (1, .ref h_p2), (2, .int x2)]) hx hb d_PB_lastNotAbove_33 rfl hl (by decide) rfl (fun ls hl => ?_)
          refine lv_goto (tgt := 5) hx hb d_PB_lastNotAbove_34 (by decide) ?_
          exact ih x2 (x3 >>> ((1 : Int32) &&& 31)) _ _ _ _ hP hD hS (lv_sub hl [1, 2, 3, 0] rfl) h kx
        · replace h := ip_n c5 h
          refine lv_iload_n hx hb d_PB_lastNotAbove_26 rfl (lv_at hl 2 rfl) ?_
          refine lv_iload_n hx hb d_PB_lastNotAbove_27 rfl (lv_at hl 3 rfl) ?_
          refine lv_iadd hx hb d_PB_lastNotAbove_28 ?_
          refine lv_istore_n (lv' := [(2, .int (x2 + x3)), (0, .int x0), (1, .ref h_p2), (3, .int x3)]) hx hb d_PB_lastNotAbove_29 rfl hl (by decide) rfl (fun ls hl => ?_)
          refine lv_iload_n hx hb d_PB_lastNotAbove_30 rfl (lv_at hl 3 rfl) ?_
          refine lv_iconst (v := (1 : Int32)) hx hb d_PB_lastNotAbove_31 (by decide) ?_
          refine lv_ishr hx hb d_PB_lastNotAbove_32 ?_
          refine lv_istore_n (lv' := [(3, .int (x3 >>> ((1 : Int32) &&& 31))), (2, .int (x2 + x3)), (0, .int x0), (1, .ref h_p2)]) hx hb d_PB_lastNotAbove_33 rfl hl (by decide) rfl (fun ls hl => ?_)
          refine lv_goto (tgt := 5) hx hb d_PB_lastNotAbove_34 (by decide) ?_
          exact ih (x2 + x3) (x3 >>> ((1 : Int32) &&& 31)) _ _ _ _ hP hD hS (lv_sub hl [2, 3, 1, 0] rfl) h kx
set_option maxHeartbeats 4000000 in
set_option maxRecDepth 100000 in
theorem cPB_lastNotAbove (l : Launch) (dC : Nat → ClassId) (dI : Nat → Nat → Nat) (h_p2 : Nat) (cB cI cJ : ClassId) (sz : Nat) (N : Nat) (p1 : Int32) (n_p2 : Nat) (f_p2 : Nat → Int32) (o : Int32) (h : fPB_lastNotAbove N p1 n_p2 f_p2 = some o) : Met l y_PB_lastNotAbove w_PB_lastNotAbove ({ frames := 0, cells := 0, slots := 0, locals := 0 } : Room) (va_Pc [.int p1, .ref h_p2] (fun U => U.heap.size = sz ∧ va_P (dC, dI) vwCl [] U.heap ∧ va_K (dC, dI) vwCl [(cB, .byte), (cI, .int), (cJ, .long)] U ∧ va_D (fun _ => True) [] ∧ NW U ∧ roX (va_A [] sz) h_p2 n_p2 f_p2 U)) (va_Qi (fun r (_ : Unit) => r = o) (fun _ t => va_P (dC, dI) vwCl [] t.heap ∧ va_K (dC, dI) vwCl [(cB, .byte), (cI, .int), (cJ, .long)] t ∧ va_D (va_A [] sz) []) (va_A [] sz)) 0 0 (va_A [] sz) := by
  refine Met.ofW (cc := b_PB_lastNotAbove) (maxL := 4) (ret := (some .int)) (by decide) rfl ?_
  intro p e s m args below meth c s₁ B hml hv
  obtain ⟨rfl, hsz, hP, hK, hD0, hN, ro_h_p2⟩ := hv
  have hx := B.exec
  have hb := B.bytes
  have hr := B.returns
  have hts := atoms_spec (ws := w_PB_lastNotAbove) B.pre
  have ht : ∀ w ∈ TB, w.before ([.int p1, .ref h_p2]).toArray s = true := fun w h => hts w (List.mem_cons_of_mem _ h)
  have hown : s.vm.findClass R_PB = some m.cls := findClass_of_methodNamed B.named
  have hlocks := B.notSynchronized
  subst hsz
  have hD := hD0.self (sz := s.heap.size)
  generalize hAe : va_A [] s.heap.size = A at hD ro_h_p2 ⊢
  have hA : ∀ q : Nat, s.heap.size ≤ q → A q := fun q h => by rw [← hAe]; exact Or.inr h
  have hS : va_S A s.heap s.heap [] := va_S.rf
  have hP : va_P (dC, dI) vwCl [] s.heap := hP
  have C : CX p s m ([.int p1, .ref h_p2]).toArray c b_PB_lastNotAbove 4 R_PB A (dC, dI) [(cB, .byte), (cI, .int), (cJ, .long)] := ⟨hx, hb, hml, hown, ht, hA, hK, hN⟩
  have hl := lv_entry ([.int p1, .ref h_p2]) (n := 4) (Nat.le_of_ble_eq_true rfl)
  rw [lg_entry_eq]
  generalize (lg_sl ([.int p1, .ref h_p2]) ++ List.replicate (4 - (lg_sl ([.int p1, .ref h_p2])).length) Slot.unset).toArray = ls at hl ⊢
  have hl : lv_has ls 4 [(0, .int p1), (1, .ref h_p2)] := hl
  refine lv_iconst (v := (0 : Int32)) hx hb d_PB_lastNotAbove_0 (by decide) ?_
  refine lv_istore_n (lv' := [(2, .int (0 : Int32)), (0, .int p1), (1, .ref h_p2)]) hx hb d_PB_lastNotAbove_1 rfl hl (by decide) rfl (fun ls hl => ?_)
  refine lv_bipush (v := (16 : Int32)) hx hb d_PB_lastNotAbove_2 (by decide) ?_
  refine lv_istore_n (lv' := [(3, .int (16 : Int32)), (2, .int (0 : Int32)), (0, .int p1), (1, .ref h_p2)]) hx hb d_PB_lastNotAbove_4 rfl hl (by decide) rfl (fun ls hl => ?_)
  obtain ⟨y6, hy6, h⟩ := bd h
  refine wPB_lastNotAbove_5 h_p2 cB cI cJ N n_p2 f_p2 p1 C ro_h_p2 N (0 : Int32) (16 : Int32) _ _ _ _ hP hD hS (lv_sub hl [2, 3, 1, 0] rfl) hy6 (fun H locs ls hP hD hS hl => ?_)
  refine lv_iload_n hx hb d_PB_lastNotAbove_37 rfl (lv_at hl 0 rfl) ?_
  obtain rfl := Option.some.inj h
  exact W.iret (v := y6) hx hb hr (fun t ht hW => ⟨⟨_, (), rfl, rfl, by rw [ht]; exact hP, va_K.moved hW.alike hK, hD⟩, hS.F ht⟩) hS.2.2 d_PB_lastNotAbove_38
/-! PackedBytes.length()I -/
def fPB_length (N : Nat) (v_t_row_count : Int32) : Option (Int32) :=
    some v_t_row_count
set_option maxHeartbeats 4000000 in
set_option maxRecDepth 100000 in
theorem cPB_length (l : Launch) (dC : Nat → ClassId) (dI : Nat → Nat → Nat) (h_t h_t_row h_t_product h_t_unpacked h_t_packer h_t_unpacker h_t_checkTable h_t_row_cells : Nat) (cB cI cJ : ClassId) (sz : Nat) (N : Nat) (v_t_row_count : Int32) (o : Int32) (h : fPB_length N v_t_row_count = some o) : Met l y_PB_length w_PB_length ({ frames := 0, cells := 0, slots := 0, locals := 0 } : Room) (va_Pc [.ref h_t] (fun U => U.heap.size = sz ∧ va_P (dC, dI) vwCl [(h_t, .inr (10, [.ref h_t_row, .ref h_t_product, .ref h_t_unpacked, .ref h_t_packer, .ref h_t_unpacker, .ref h_t_checkTable])), (h_t_row, .inr (7, [.ref h_t_row_cells, .int v_t_row_count]))] U.heap ∧ va_K (dC, dI) vwCl [(cB, .byte), (cI, .int), (cJ, .long)] U ∧ va_D (fun _ => True) [(h_t, .inr (10, [.ref h_t_row, .ref h_t_product, .ref h_t_unpacked, .ref h_t_packer, .ref h_t_unpacker, .ref h_t_checkTable])), (h_t_row, .inr (7, [.ref h_t_row_cells, .int v_t_row_count]))] ∧ NW U)) (va_Qi (fun r (_ : Unit) => r = o) (fun _ t => va_P (dC, dI) vwCl [(h_t, .inr (10, [.ref h_t_row, .ref h_t_product, .ref h_t_unpacked, .ref h_t_packer, .ref h_t_unpacker, .ref h_t_checkTable])), (h_t_row, .inr (7, [.ref h_t_row_cells, .int v_t_row_count]))] t.heap ∧ va_K (dC, dI) vwCl [(cB, .byte), (cI, .int), (cJ, .long)] t ∧ va_D (va_A [(h_t, .inr (10, [.ref h_t_row, .ref h_t_product, .ref h_t_unpacked, .ref h_t_packer, .ref h_t_unpacker, .ref h_t_checkTable])), (h_t_row, .inr (7, [.ref h_t_row_cells, .int v_t_row_count]))] sz) [(h_t, .inr (10, [.ref h_t_row, .ref h_t_product, .ref h_t_unpacked, .ref h_t_packer, .ref h_t_unpacker, .ref h_t_checkTable])), (h_t_row, .inr (7, [.ref h_t_row_cells, .int v_t_row_count]))]) (va_A [(h_t, .inr (10, [.ref h_t_row, .ref h_t_product, .ref h_t_unpacked, .ref h_t_packer, .ref h_t_unpacker, .ref h_t_checkTable])), (h_t_row, .inr (7, [.ref h_t_row_cells, .int v_t_row_count]))] sz)) 0 0 (va_A [(h_t, .inr (10, [.ref h_t_row, .ref h_t_product, .ref h_t_unpacked, .ref h_t_packer, .ref h_t_unpacker, .ref h_t_checkTable])), (h_t_row, .inr (7, [.ref h_t_row_cells, .int v_t_row_count]))] sz) := by
  refine Met.ofW (cc := b_PB_length) (maxL := 1) (ret := (some .int)) (by decide) rfl ?_
  intro p e s m args below meth c s₁ B hml hv
  obtain ⟨rfl, hsz, hP, hK, hD0, hN⟩ := hv
  have hx := B.exec
  have hb := B.bytes
  have hr := B.returns
  have hts := atoms_spec (ws := w_PB_length) B.pre
  have ht : ∀ w ∈ TB, w.before ([.ref h_t]).toArray s = true := fun w h => hts w (List.mem_cons_of_mem _ h)
  have hown : s.vm.findClass R_PB = some m.cls := findClass_of_methodNamed B.named
  have hlocks := B.notSynchronized
  subst hsz
  have hD := hD0.self (sz := s.heap.size)
  generalize hAe : va_A [(h_t, .inr (10, [.ref h_t_row, .ref h_t_product, .ref h_t_unpacked, .ref h_t_packer, .ref h_t_unpacker, .ref h_t_checkTable])), (h_t_row, .inr (7, [.ref h_t_row_cells, .int v_t_row_count]))] s.heap.size = A at hD ⊢
  have hA : ∀ q : Nat, s.heap.size ≤ q → A q := fun q h => by rw [← hAe]; exact Or.inr h
  have hS : va_S A s.heap s.heap [] := va_S.rf
  have hP : va_P (dC, dI) vwCl [(h_t, .inr (10, [.ref h_t_row, .ref h_t_product, .ref h_t_unpacked, .ref h_t_packer, .ref h_t_unpacker, .ref h_t_checkTable])), (h_t_row, .inr (7, [.ref h_t_row_cells, .int v_t_row_count]))] s.heap := hP
  skip
  have hl := lv_entry ([.ref h_t]) (n := 1) (Nat.le_of_ble_eq_true rfl)
  rw [lg_entry_eq]
  generalize (lg_sl ([.ref h_t]) ++ List.replicate (1 - (lg_sl ([.ref h_t])).length) Slot.unset).toArray = ls at hl ⊢
  have hl : lv_has ls 1 [(0, .ref h_t)] := hl
  refine lv_aload_n hx hb d_PB_length_0 rfl (lv_at hl 0 rfl) ?_
  refine va_get (D := (dC, dI)) (ci := 10) (v := .ref h_t_row) (C := R_PB) (T := F_PB) (N := 6) hx hb ht in_PB hown hK hP 0 rfl rfl 0 (by decide) (ht _ k_424) (fun _ h9 => h9) rfl d_PB_length_1 ?_
  refine va_get (D := (dC, dI)) (ci := 7) (v := .int v_t_row_count) (C := R_Row) (T := F_Row) (N := 2) hx hb ht in_Row hown hK hP 1 rfl rfl 1 (by decide) (ht _ k_107) (fun _ h9 => h9) rfl d_PB_length_4 ?_
  obtain rfl := Option.some.inj h
  exact W.iret (v := v_t_row_count) hx hb hr (fun t ht hW => ⟨⟨_, (), rfl, rfl, by rw [ht]; exact hP, va_K.moved hW.alike hK, hD⟩, hS.F ht⟩) hS.2.2 d_PB_length_7
/-! PackedBytes.size()I -/
def fPB_size (N : Nat) (v_t_product_count : Int32) : Option (Int32) :=
    some v_t_product_count
set_option maxHeartbeats 4000000 in
set_option maxRecDepth 100000 in
theorem cPB_size (l : Launch) (dC : Nat → ClassId) (dI : Nat → Nat → Nat) (h_t h_t_row h_t_product h_t_unpacked h_t_packer h_t_unpacker h_t_checkTable h_t_product_cells : Nat) (cB cI cJ : ClassId) (sz : Nat) (N : Nat) (v_t_product_count : Int32) (o : Int32) (h : fPB_size N v_t_product_count = some o) : Met l y_PB_size w_PB_size ({ frames := 0, cells := 0, slots := 0, locals := 0 } : Room) (va_Pc [.ref h_t] (fun U => U.heap.size = sz ∧ va_P (dC, dI) vwCl [(h_t, .inr (10, [.ref h_t_row, .ref h_t_product, .ref h_t_unpacked, .ref h_t_packer, .ref h_t_unpacker, .ref h_t_checkTable])), (h_t_product, .inr (7, [.ref h_t_product_cells, .int v_t_product_count]))] U.heap ∧ va_K (dC, dI) vwCl [(cB, .byte), (cI, .int), (cJ, .long)] U ∧ va_D (fun _ => True) [(h_t, .inr (10, [.ref h_t_row, .ref h_t_product, .ref h_t_unpacked, .ref h_t_packer, .ref h_t_unpacker, .ref h_t_checkTable])), (h_t_product, .inr (7, [.ref h_t_product_cells, .int v_t_product_count]))] ∧ NW U)) (va_Qi (fun r (_ : Unit) => r = o) (fun _ t => va_P (dC, dI) vwCl [(h_t, .inr (10, [.ref h_t_row, .ref h_t_product, .ref h_t_unpacked, .ref h_t_packer, .ref h_t_unpacker, .ref h_t_checkTable])), (h_t_product, .inr (7, [.ref h_t_product_cells, .int v_t_product_count]))] t.heap ∧ va_K (dC, dI) vwCl [(cB, .byte), (cI, .int), (cJ, .long)] t ∧ va_D (va_A [(h_t, .inr (10, [.ref h_t_row, .ref h_t_product, .ref h_t_unpacked, .ref h_t_packer, .ref h_t_unpacker, .ref h_t_checkTable])), (h_t_product, .inr (7, [.ref h_t_product_cells, .int v_t_product_count]))] sz) [(h_t, .inr (10, [.ref h_t_row, .ref h_t_product, .ref h_t_unpacked, .ref h_t_packer, .ref h_t_unpacker, .ref h_t_checkTable])), (h_t_product, .inr (7, [.ref h_t_product_cells, .int v_t_product_count]))]) (va_A [(h_t, .inr (10, [.ref h_t_row, .ref h_t_product, .ref h_t_unpacked, .ref h_t_packer, .ref h_t_unpacker, .ref h_t_checkTable])), (h_t_product, .inr (7, [.ref h_t_product_cells, .int v_t_product_count]))] sz)) 0 0 (va_A [(h_t, .inr (10, [.ref h_t_row, .ref h_t_product, .ref h_t_unpacked, .ref h_t_packer, .ref h_t_unpacker, .ref h_t_checkTable])), (h_t_product, .inr (7, [.ref h_t_product_cells, .int v_t_product_count]))] sz) := by
  refine Met.ofW (cc := b_PB_size) (maxL := 1) (ret := (some .int)) (by decide) rfl ?_
  intro p e s m args below meth c s₁ B hml hv
  obtain ⟨rfl, hsz, hP, hK, hD0, hN⟩ := hv
  have hx := B.exec
  have hb := B.bytes
  have hr := B.returns
  have hts := atoms_spec (ws := w_PB_size) B.pre
  have ht : ∀ w ∈ TB, w.before ([.ref h_t]).toArray s = true := fun w h => hts w (List.mem_cons_of_mem _ h)
  have hown : s.vm.findClass R_PB = some m.cls := findClass_of_methodNamed B.named
  have hlocks := B.notSynchronized
  subst hsz
  have hD := hD0.self (sz := s.heap.size)
  generalize hAe : va_A [(h_t, .inr (10, [.ref h_t_row, .ref h_t_product, .ref h_t_unpacked, .ref h_t_packer, .ref h_t_unpacker, .ref h_t_checkTable])), (h_t_product, .inr (7, [.ref h_t_product_cells, .int v_t_product_count]))] s.heap.size = A at hD ⊢
  have hA : ∀ q : Nat, s.heap.size ≤ q → A q := fun q h => by rw [← hAe]; exact Or.inr h
  have hS : va_S A s.heap s.heap [] := va_S.rf
  have hP : va_P (dC, dI) vwCl [(h_t, .inr (10, [.ref h_t_row, .ref h_t_product, .ref h_t_unpacked, .ref h_t_packer, .ref h_t_unpacker, .ref h_t_checkTable])), (h_t_product, .inr (7, [.ref h_t_product_cells, .int v_t_product_count]))] s.heap := hP
  skip
  have hl := lv_entry ([.ref h_t]) (n := 1) (Nat.le_of_ble_eq_true rfl)
  rw [lg_entry_eq]
  generalize (lg_sl ([.ref h_t]) ++ List.replicate (1 - (lg_sl ([.ref h_t])).length) Slot.unset).toArray = ls at hl ⊢
  have hl : lv_has ls 1 [(0, .ref h_t)] := hl
  refine lv_aload_n hx hb d_PB_size_0 rfl (lv_at hl 0 rfl) ?_
  refine va_get (D := (dC, dI)) (ci := 10) (v := .ref h_t_product) (C := R_PB) (T := F_PB) (N := 6) hx hb ht in_PB hown hK hP 0 rfl rfl 1 (by decide) (ht _ k_425) (fun _ h9 => h9) rfl d_PB_size_1 ?_
  refine va_get (D := (dC, dI)) (ci := 7) (v := .int v_t_product_count) (C := R_Row) (T := F_Row) (N := 2) hx hb ht in_Row hown hK hP 1 rfl rfl 1 (by decide) (ht _ k_107) (fun _ h9 => h9) rfl d_PB_size_4 ?_
  obtain rfl := Option.some.inj h
  exact W.iret (v := v_t_product_count) hx hb hr (fun t ht hW => ⟨⟨_, (), rfl, rfl, by rw [ht]; exact hP, va_K.moved hW.alike hK, hD⟩, hS.F ht⟩) hS.2.2 d_PB_size_7
/-! PackedBytes.check()J -/
def fPB_check_21 (N : Nat) (x2 : Int32) (f_t_row_cells : Nat → Int32) (f_t_checkTable : Nat → Int32) : Nat → (Int32) → (Int32) → Option (Int32)
  | 0, _, _ => none
  | k + 1, x3, x4 =>
    if x2 ≤ x4 then
      some x3
    else
      if ¬ (x4 < 0 ∨ 65546 ≤ x4.toNatClampNeg) then
        if ¬ (((x3 ^^^ ((f_t_row_cells x4.toNatClampNeg).toInt8.toInt32)) &&& (255 : Int32)) < 0 ∨ 256 ≤ ((x3 ^^^ ((f_t_row_cells x4.toNatClampNeg).toInt8.toInt32)) &&& (255 : Int32)).toNatClampNeg) then
          fPB_check_21 N x2 f_t_row_cells f_t_checkTable k ((f_t_checkTable ((x3 ^^^ ((f_t_row_cells x4.toNatClampNeg).toInt8.toInt32)) &&& (255 : Int32)).toNatClampNeg) ^^^ (jus x3 (8 : Int32))) (x4 + (1 : Int32))
        else none
      else none
def fPB_check (N : Nat) (v_t_row_count : Int32) (f_t_row_cells : Nat → Int32) (f_t_checkTable : Nat → Int32) : Option (Int64) :=
    (fPB_check_21 N v_t_row_count f_t_row_cells f_t_checkTable N (-1 : Int32) (0 : Int32)).bind (fun y4 =>
      some (((y4 ^^^ (-1 : Int32)).toInt64) &&& (4294967295 : Int64)))
set_option maxHeartbeats 4000000 in
set_option maxRecDepth 100000 in
theorem wPB_check_21 {p : Program} {l : Launch} {e : Env} {s : State} {m : MethodId} {args : Array Value} {below : List Frame} {meth : Method} {c : Code} {Q : State → Prop} {A : Nat → Prop} {dC : Nat → ClassId} {dI : Nat → Nat → Nat} (h_t h_t_row h_t_product h_t_unpacked h_t_packer h_t_unpacker h_t_checkTable h_t_row_cells : Nat) (cB cI cJ : ClassId) (N : Nat) (v_t_row_count : Int32) (f_t_row_cells : Nat → Int32) (f_t_checkTable : Nat → Int32) (x2 : Int32) (C : CX p s m args c b_PB_check 5 R_PB A (dC, dI) [(cB, .byte), (cI, .int), (cJ, .long)]) :
    ∀ (n : Nat) (x3 : Int32) (x4 : Int32) (H : Heap) (locs : List Loc) (ls : Array Slot) (o : Int32), va_P (dC, dI) vwCl [(h_t, .inr (10, [.ref h_t_row, .ref h_t_product, .ref h_t_unpacked, .ref h_t_packer, .ref h_t_unpacker, .ref h_t_checkTable])), (h_t_row, .inr (7, [.ref h_t_row_cells, .int v_t_row_count])), (h_t_row_cells, .inl (cB, 65546, .inl (bf f_t_row_cells))), (h_t_checkTable, .inl (cI, 256, .inl f_t_checkTable))] H → va_D A [(h_t, .inr (10, [.ref h_t_row, .ref h_t_product, .ref h_t_unpacked, .ref h_t_packer, .ref h_t_unpacker, .ref h_t_checkTable])), (h_t_row, .inr (7, [.ref h_t_row_cells, .int v_t_row_count])), (h_t_row_cells, .inl (cB, 65546, .inl (bf f_t_row_cells))), (h_t_checkTable, .inl (cI, 256, .inl f_t_checkTable))] → va_S A s.heap H locs → lv_has ls 5 [(0, .ref h_t), (1, .ref h_t_row_cells), (2, .int x2), (3, .int x3), (4, .int x4)] → fPB_check_21 N x2 f_t_row_cells f_t_checkTable n x3 x4 = some o → (∀ (H : Heap) (locs : List Loc) (ls : Array Slot), va_P (dC, dI) vwCl [(h_t, .inr (10, [.ref h_t_row, .ref h_t_product, .ref h_t_unpacked, .ref h_t_packer, .ref h_t_unpacker, .ref h_t_checkTable])), (h_t_row, .inr (7, [.ref h_t_row_cells, .int v_t_row_count])), (h_t_row_cells, .inl (cB, 65546, .inl (bf f_t_row_cells))), (h_t_checkTable, .inl (cI, 256, .inl f_t_checkTable))] H → va_D A [(h_t, .inr (10, [.ref h_t_row, .ref h_t_product, .ref h_t_unpacked, .ref h_t_packer, .ref h_t_unpacker, .ref h_t_checkTable])), (h_t_row, .inr (7, [.ref h_t_row_cells, .int v_t_row_count])), (h_t_row_cells, .inl (cB, 65546, .inl (bf f_t_row_cells))), (h_t_checkTable, .inl (cI, 256, .inl f_t_checkTable))] → va_S A s.heap H locs → lv_has ls 5 [(3, .int o)] → W p l e ({ frames := 0, cells := 0, slots := 0, locals := 0 } : Room) s m args below meth c H locs 0 0 Q (F0 m 54 ls [])) → W p l e ({ frames := 0, cells := 0, slots := 0, locals := 0 } : Room) s m args below meth c H locs 0 0 Q (F0 m 21 ls []) := by
  obtain ⟨hx, hb, hml, hown, ht, hA, hK, hN⟩ := id C
  intro n
  induction n with
  | zero => intro x3 x4 H locs ls o _ _ _ _ h; exact nomatch h
  | succ k ih =>
    intro x3 x4 H locs ls o hP hD hS hl h kx
    refine lv_iload hx hb d_PB_check_21 (lv_at hl 4 rfl) ?_
    refine lv_iload_n hx hb d_PB_check_23 rfl (lv_at hl 2 rfl) ?_
    refine lv_icmp_ge (tgt := 54) hx hb d_PB_check_24 (by decide) (fun c1 => ?_) (fun c1 => ?_)
    · replace h := ip_p c1 h
      obtain rfl := Option.some.inj h
      exact kx _ _ _ hP hD hS (lv_sub hl [3] rfl)
    · replace h := ip_n c1 h
      refine lv_aload_n hx hb d_PB_check_27 rfl (lv_at hl 0 rfl) ?_
      refine va_get (D := (dC, dI)) (ci := 10) (v := .ref h_t_checkTable) (C := R_PB) (T := F_PB) (N := 6) hx hb ht in_PB hown hK hP 0 rfl rfl 5 (by decide) (ht _ k_429) (fun _ h9 => h9) rfl d_PB_check_28 ?_
      refine lv_iload_n hx hb d_PB_check_31 rfl (lv_at hl 3 rfl) ?_
      refine lv_aload_n hx hb d_PB_check_32 rfl (lv_at hl 1 rfl) ?_
      refine lv_iload hx hb d_PB_check_33 (lv_at hl 4 rfl) ?_
      obtain ⟨g2, h⟩ := gd h
      refine va_bald (f := bf f_t_row_cells) hx hb hK hP 2 0 rfl rfl g2 d_PB_check_35 ?_
      refine lv_ixor hx hb d_PB_check_36 ?_
      refine lv_sipush (v := (255 : Int32)) hx hb d_PB_check_37 (by decide) ?_
      refine lv_iand hx hb d_PB_check_40 ?_
      obtain ⟨g3, h⟩ := gd h
      refine va_iald hx hb hK hP 3 1 rfl rfl g3 d_PB_check_41 ?_
      refine lv_iload_n hx hb d_PB_check_42 rfl (lv_at hl 3 rfl) ?_
      refine lv_bipush (v := (8 : Int32)) hx hb d_PB_check_43 (by decide) ?_
      refine lv_iushr (v := jus x3 (8 : Int32)) hx hb d_PB_check_45 rfl ?_
      refine lv_ixor hx hb d_PB_check_46 ?_
      refine lv_istore_n (lv' := [(3, .int ((f_t_checkTable ((x3 ^^^ ((f_t_row_cells x4.toNatClampNeg).toInt8.toInt32)) &&& (255 : Int32)).toNatClampNeg) ^^^ (jus x3 (8 : Int32)))), (0, .ref h_t), (1, .ref h_t_row_cells), (2, .int x2), (4, .int x4)]) hx hb d_PB_check_47 rfl hl (by decide) rfl (fun ls hl => ?_)
      refine lv_iinc (v := x4 + (1 : Int32)) (lv' := [(4, .int (x4 + (1 : Int32))), (3, .int ((f_t_checkTable ((x3 ^^^ ((f_t_row_cells x4.toNatClampNeg).toInt8.toInt32)) &&& (255 : Int32)).toNatClampNeg) ^^^ (jus x3 (8 : Int32)))), (0, .ref h_t), (1, .ref h_t_row_cells), (2, .int x2)]) hx hb d_PB_check_48 hl (k := 4) rfl rfl (by decide) rfl (fun ls hl => ?_)
      refine lv_goto (tgt := 21) hx hb d_PB_check_51 (by decide) ?_
      exact ih ((f_t_checkTable ((x3 ^^^ ((f_t_row_cells x4.toNatClampNeg).toInt8.toInt32)) &&& (255 : Int32)).toNatClampNeg) ^^^ (jus x3 (8 : Int32))) (x4 + (1 : Int32)) _ _ _ _ hP hD hS (lv_sub hl [2, 3, 4, 1, 0] rfl) h kx
set_option maxHeartbeats 4000000 in
set_option maxRecDepth 100000 in
theorem cPB_check (l : Launch) (dC : Nat → ClassId) (dI : Nat → Nat → Nat) (h_t h_t_row h_t_product h_t_unpacked h_t_packer h_t_unpacker h_t_checkTable h_t_row_cells : Nat) (cB cI cJ : ClassId) (sz : Nat) (N : Nat) (v_t_row_count : Int32) (f_t_row_cells : Nat → Int32) (f_t_checkTable : Nat → Int32) (o : Int64) (h : fPB_check N v_t_row_count f_t_row_cells f_t_checkTable = some o) : Met l y_PB_check w_PB_check ({ frames := 0, cells := 0, slots := 0, locals := 0 } : Room) (va_Pc [.ref h_t] (fun U => U.heap.size = sz ∧ va_P (dC, dI) vwCl [(h_t, .inr (10, [.ref h_t_row, .ref h_t_product, .ref h_t_unpacked, .ref h_t_packer, .ref h_t_unpacker, .ref h_t_checkTable])), (h_t_row, .inr (7, [.ref h_t_row_cells, .int v_t_row_count])), (h_t_row_cells, .inl (cB, 65546, .inl (bf f_t_row_cells))), (h_t_checkTable, .inl (cI, 256, .inl f_t_checkTable))] U.heap ∧ va_K (dC, dI) vwCl [(cB, .byte), (cI, .int), (cJ, .long)] U ∧ va_D (fun _ => True) [(h_t, .inr (10, [.ref h_t_row, .ref h_t_product, .ref h_t_unpacked, .ref h_t_packer, .ref h_t_unpacker, .ref h_t_checkTable])), (h_t_row, .inr (7, [.ref h_t_row_cells, .int v_t_row_count])), (h_t_row_cells, .inl (cB, 65546, .inl (bf f_t_row_cells))), (h_t_checkTable, .inl (cI, 256, .inl f_t_checkTable))] ∧ NW U)) (va_Ql (fun r (_ : Unit) => r = o) (fun _ t => va_P (dC, dI) vwCl [(h_t, .inr (10, [.ref h_t_row, .ref h_t_product, .ref h_t_unpacked, .ref h_t_packer, .ref h_t_unpacker, .ref h_t_checkTable])), (h_t_row, .inr (7, [.ref h_t_row_cells, .int v_t_row_count])), (h_t_row_cells, .inl (cB, 65546, .inl (bf f_t_row_cells))), (h_t_checkTable, .inl (cI, 256, .inl f_t_checkTable))] t.heap ∧ va_K (dC, dI) vwCl [(cB, .byte), (cI, .int), (cJ, .long)] t ∧ va_D (va_A [(h_t, .inr (10, [.ref h_t_row, .ref h_t_product, .ref h_t_unpacked, .ref h_t_packer, .ref h_t_unpacker, .ref h_t_checkTable])), (h_t_row, .inr (7, [.ref h_t_row_cells, .int v_t_row_count])), (h_t_row_cells, .inl (cB, 65546, .inl (bf f_t_row_cells))), (h_t_checkTable, .inl (cI, 256, .inl f_t_checkTable))] sz) [(h_t, .inr (10, [.ref h_t_row, .ref h_t_product, .ref h_t_unpacked, .ref h_t_packer, .ref h_t_unpacker, .ref h_t_checkTable])), (h_t_row, .inr (7, [.ref h_t_row_cells, .int v_t_row_count])), (h_t_row_cells, .inl (cB, 65546, .inl (bf f_t_row_cells))), (h_t_checkTable, .inl (cI, 256, .inl f_t_checkTable))]) (va_A [(h_t, .inr (10, [.ref h_t_row, .ref h_t_product, .ref h_t_unpacked, .ref h_t_packer, .ref h_t_unpacker, .ref h_t_checkTable])), (h_t_row, .inr (7, [.ref h_t_row_cells, .int v_t_row_count])), (h_t_row_cells, .inl (cB, 65546, .inl (bf f_t_row_cells))), (h_t_checkTable, .inl (cI, 256, .inl f_t_checkTable))] sz)) 0 0 (va_A [(h_t, .inr (10, [.ref h_t_row, .ref h_t_product, .ref h_t_unpacked, .ref h_t_packer, .ref h_t_unpacker, .ref h_t_checkTable])), (h_t_row, .inr (7, [.ref h_t_row_cells, .int v_t_row_count])), (h_t_row_cells, .inl (cB, 65546, .inl (bf f_t_row_cells))), (h_t_checkTable, .inl (cI, 256, .inl f_t_checkTable))] sz) := by
  refine Met.ofW (cc := b_PB_check) (maxL := 5) (ret := (some .long)) (by decide) rfl ?_
  intro p e s m args below meth c s₁ B hml hv
  obtain ⟨rfl, hsz, hP, hK, hD0, hN⟩ := hv
  have hx := B.exec
  have hb := B.bytes
  have hr := B.returns
  have hts := atoms_spec (ws := w_PB_check) B.pre
  have ht : ∀ w ∈ TB, w.before ([.ref h_t]).toArray s = true := fun w h => hts w (List.mem_cons_of_mem _ h)
  have hown : s.vm.findClass R_PB = some m.cls := findClass_of_methodNamed B.named
  have hlocks := B.notSynchronized
  subst hsz
  have hD := hD0.self (sz := s.heap.size)
  generalize hAe : va_A [(h_t, .inr (10, [.ref h_t_row, .ref h_t_product, .ref h_t_unpacked, .ref h_t_packer, .ref h_t_unpacker, .ref h_t_checkTable])), (h_t_row, .inr (7, [.ref h_t_row_cells, .int v_t_row_count])), (h_t_row_cells, .inl (cB, 65546, .inl (bf f_t_row_cells))), (h_t_checkTable, .inl (cI, 256, .inl f_t_checkTable))] s.heap.size = A at hD ⊢
  have hA : ∀ q : Nat, s.heap.size ≤ q → A q := fun q h => by rw [← hAe]; exact Or.inr h
  have hS : va_S A s.heap s.heap [] := va_S.rf
  have hP : va_P (dC, dI) vwCl [(h_t, .inr (10, [.ref h_t_row, .ref h_t_product, .ref h_t_unpacked, .ref h_t_packer, .ref h_t_unpacker, .ref h_t_checkTable])), (h_t_row, .inr (7, [.ref h_t_row_cells, .int v_t_row_count])), (h_t_row_cells, .inl (cB, 65546, .inl (bf f_t_row_cells))), (h_t_checkTable, .inl (cI, 256, .inl f_t_checkTable))] s.heap := hP
  have C : CX p s m ([.ref h_t]).toArray c b_PB_check 5 R_PB A (dC, dI) [(cB, .byte), (cI, .int), (cJ, .long)] := ⟨hx, hb, hml, hown, ht, hA, hK, hN⟩
  have hl := lv_entry ([.ref h_t]) (n := 5) (Nat.le_of_ble_eq_true rfl)
  rw [lg_entry_eq]
  generalize (lg_sl ([.ref h_t]) ++ List.replicate (5 - (lg_sl ([.ref h_t])).length) Slot.unset).toArray = ls at hl ⊢
  have hl : lv_has ls 5 [(0, .ref h_t)] := hl
  refine lv_aload_n hx hb d_PB_check_0 rfl (lv_at hl 0 rfl) ?_
  refine va_get (D := (dC, dI)) (ci := 10) (v := .ref h_t_row) (C := R_PB) (T := F_PB) (N := 6) hx hb ht in_PB hown hK hP 0 rfl rfl 0 (by decide) (ht _ k_424) (fun _ h9 => h9) rfl d_PB_check_1 ?_
  refine va_get (D := (dC, dI)) (ci := 7) (v := .ref h_t_row_cells) (C := R_Row) (T := F_Row) (N := 2) hx hb ht in_Row hown hK hP 1 rfl rfl 0 (by decide) (ht _ k_105) (fun _ h9 => h9) rfl d_PB_check_4 ?_
  refine lv_astore_n (lv' := [(1, .ref h_t_row_cells), (0, .ref h_t)]) hx hb d_PB_check_7 rfl hl (by decide) rfl (fun ls hl => ?_)
  refine lv_aload_n hx hb d_PB_check_8 rfl (lv_at hl 1 rfl) ?_
  refine va_get (D := (dC, dI)) (ci := 10) (v := .ref h_t_row) (C := R_PB) (T := F_PB) (N := 6) hx hb ht in_PB hown hK hP 0 rfl rfl 0 (by decide) (ht _ k_424) (fun _ h9 => h9) rfl d_PB_check_9 ?_
  refine va_get (D := (dC, dI)) (ci := 7) (v := .int v_t_row_count) (C := R_Row) (T := F_Row) (N := 2) hx hb ht in_Row hown hK hP 1 rfl rfl 1 (by decide) (ht _ k_107) (fun _ h9 => h9) rfl d_PB_check_12 ?_
  refine lv_istore_n (lv' := [(2, .int v_t_row_count), (1, .ref h_t_row_cells), (0, .ref h_t)]) hx hb d_PB_check_15 rfl hl (by decide) rfl (fun ls hl => ?_)
  refine lv_iconst (v := (-1 : Int32)) hx hb d_PB_check_16 (by decide) ?_
  refine lv_istore_n (lv' := [(3, .int (-1 : Int32)), (2, .int v_t_row_count), (1, .ref h_t_row_cells), (0, .ref h_t)]) hx hb d_PB_check_17 rfl hl (by decide) rfl (fun ls hl => ?_)
  refine lv_iconst (v := (0 : Int32)) hx hb d_PB_check_18 (by decide) ?_
  refine lv_istore (lv' := [(4, .int (0 : Int32)), (3, .int (-1 : Int32)), (2, .int v_t_row_count), (1, .ref h_t_row_cells), (0, .ref h_t)]) hx hb d_PB_check_19 hl (by decide) rfl (fun ls hl => ?_)
  obtain ⟨y4, hy4, h⟩ := bd h
  refine wPB_check_21 h_t h_t_row h_t_product h_t_unpacked h_t_packer h_t_unpacker h_t_checkTable h_t_row_cells cB cI cJ N v_t_row_count f_t_row_cells f_t_checkTable v_t_row_count C N (-1 : Int32) (0 : Int32) _ _ _ _ hP hD hS (lv_sub hl [4, 3, 2, 1, 0] rfl) hy4 (fun H locs ls hP hD hS hl => ?_)
  refine lv_iload_n hx hb d_PB_check_54 rfl (lv_at hl 0 rfl) ?_
  refine lv_iconst (v := (-1 : Int32)) hx hb d_PB_check_55 (by decide) ?_
  refine lv_ixor hx hb d_PB_check_56 ?_
  refine lv_i2l (v := (y4 ^^^ (-1 : Int32)).toInt64) hx hb d_PB_check_57 rfl ?_
  refine lv_ldc2 (v := (4294967295 : Int64)) hx hb hown (ht _ k_642) d_PB_check_58 ?_
  refine lv_land hx hb d_PB_check_61 ?_
  obtain rfl := Option.some.inj h
  exact W.lret (v := ((y4 ^^^ (-1 : Int32)).toInt64) &&& (4294967295 : Int64)) hx hb hr (fun t ht hW => ⟨⟨_, (), rfl, rfl, by rw [ht]; exact hP, va_K.moved hW.alike hK, hD⟩, hS.F ht⟩) hS.2.2 d_PB_check_62
