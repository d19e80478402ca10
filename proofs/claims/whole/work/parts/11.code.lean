theorem d_Code_turnRound_0 : decode b_Code_turnRound 0 = .ok (.iconst 0, 1) := by decide +kernel
theorem d_Code_turnRound_1 : decode b_Code_turnRound 1 = .ok (.istore_n 2, 1) := by decide +kernel
theorem d_Code_turnRound_2 : decode b_Code_turnRound 2 = .ok (.iconst 0, 1) := by decide +kernel
theorem d_Code_turnRound_3 : decode b_Code_turnRound 3 = .ok (.istore_n 3, 1) := by decide +kernel
theorem d_Code_turnRound_4 : decode b_Code_turnRound 4 = .ok (.iload_n 3, 1) := by decide +kernel
theorem d_Code_turnRound_5 : decode b_Code_turnRound 5 = .ok (.iload_n 1, 1) := by decide +kernel
theorem d_Code_turnRound_6 : decode b_Code_turnRound 6 = .ok (.if_icmp .ge 19, 3) := by decide +kernel
theorem d_Code_turnRound_9 : decode b_Code_turnRound 9 = .ok (.iload_n 2, 1) := by decide +kernel
theorem d_Code_turnRound_10 : decode b_Code_turnRound 10 = .ok (.iconst 1, 1) := by decide +kernel
theorem d_Code_turnRound_11 : decode b_Code_turnRound 11 = .ok (.ishl, 1) := by decide +kernel
theorem d_Code_turnRound_12 : decode b_Code_turnRound 12 = .ok (.iload_n 0, 1) := by decide +kernel
theorem d_Code_turnRound_13 : decode b_Code_turnRound 13 = .ok (.iload_n 3, 1) := by decide +kernel
theorem d_Code_turnRound_14 : decode b_Code_turnRound 14 = .ok (.ishr, 1) := by decide +kernel
theorem d_Code_turnRound_15 : decode b_Code_turnRound 15 = .ok (.iconst 1, 1) := by decide +kernel
theorem d_Code_turnRound_16 : decode b_Code_turnRound 16 = .ok (.iand, 1) := by decide +kernel
theorem d_Code_turnRound_17 : decode b_Code_turnRound 17 = .ok (.ior, 1) := by decide +kernel
theorem d_Code_turnRound_18 : decode b_Code_turnRound 18 = .ok (.istore_n 2, 1) := by decide +kernel
theorem d_Code_turnRound_19 : decode b_Code_turnRound 19 = .ok (.iinc 3 1, 3) := by decide +kernel
theorem d_Code_turnRound_22 : decode b_Code_turnRound 22 = .ok (.goto (-18), 3) := by decide +kernel
theorem d_Code_turnRound_25 : decode b_Code_turnRound 25 = .ok (.iload_n 2, 1) := by decide +kernel
theorem d_Code_turnRound_26 : decode b_Code_turnRound 26 = .ok (.ireturn, 1) := by decide +kernel
theorem d_Code_number_0 : decode b_Code_number 0 = .ok (.aload_n 0, 1) := by decide +kernel
theorem d_Code_number_1 : decode b_Code_number 1 = .ok (.getfield 9, 3) := by decide +kernel
theorem d_Code_number_4 : decode b_Code_number 4 = .ok (.iconst 0, 1) := by decide +kernel
theorem d_Code_number_5 : decode b_Code_number 5 = .ok (.invokestatic 21, 3) := by decide +kernel
theorem d_Code_number_8 : decode b_Code_number 8 = .ok (.iconst 0, 1) := by decide +kernel
theorem d_Code_number_9 : decode b_Code_number 9 = .ok (.istore_n 1, 1) := by decide +kernel
theorem d_Code_number_10 : decode b_Code_number 10 = .ok (.iload_n 1, 1) := by decide +kernel
theorem d_Code_number_11 : decode b_Code_number 11 = .ok (.aload_n 0, 1) := by decide +kernel
theorem d_Code_number_12 : decode b_Code_number 12 = .ok (.getfield 15, 3) := by decide +kernel
theorem d_Code_number_15 : decode b_Code_number 15 = .ok (.arraylength, 1) := by decide +kernel
theorem d_Code_number_16 : decode b_Code_number 16 = .ok (.if_icmp .ge 35, 3) := by decide +kernel
theorem d_Code_number_19 : decode b_Code_number 19 = .ok (.aload_n 0, 1) := by decide +kernel
theorem d_Code_number_20 : decode b_Code_number 20 = .ok (.getfield 15, 3) := by decide +kernel
theorem d_Code_number_23 : decode b_Code_number 23 = .ok (.iload_n 1, 1) := by decide +kernel
theorem d_Code_number_24 : decode b_Code_number 24 = .ok (.iaload, 1) := by decide +kernel
theorem d_Code_number_25 : decode b_Code_number 25 = .ok (.ifCond .le 20, 3) := by decide +kernel
theorem d_Code_number_28 : decode b_Code_number 28 = .ok (.aload_n 0, 1) := by decide +kernel
theorem d_Code_number_29 : decode b_Code_number 29 = .ok (.getfield 9, 3) := by decide +kernel
theorem d_Code_number_32 : decode b_Code_number 32 = .ok (.aload_n 0, 1) := by decide +kernel
theorem d_Code_number_33 : decode b_Code_number 33 = .ok (.getfield 15, 3) := by decide +kernel
theorem d_Code_number_36 : decode b_Code_number 36 = .ok (.iload_n 1, 1) := by decide +kernel
theorem d_Code_number_37 : decode b_Code_number 37 = .ok (.iaload, 1) := by decide +kernel
theorem d_Code_number_38 : decode b_Code_number 38 = .ok (.iconst 1, 1) := by decide +kernel
theorem d_Code_number_39 : decode b_Code_number 39 = .ok (.iadd, 1) := by decide +kernel
theorem d_Code_number_40 : decode b_Code_number 40 = .ok (.dup2, 1) := by decide +kernel
theorem d_Code_number_41 : decode b_Code_number 41 = .ok (.iaload, 1) := by decide +kernel
theorem d_Code_number_42 : decode b_Code_number 42 = .ok (.iconst 1, 1) := by decide +kernel
theorem d_Code_number_43 : decode b_Code_number 43 = .ok (.iadd, 1) := by decide +kernel
theorem d_Code_number_44 : decode b_Code_number 44 = .ok (.iastore, 1) := by decide +kernel
theorem d_Code_number_45 : decode b_Code_number 45 = .ok (.iinc 1 1, 3) := by decide +kernel
theorem d_Code_number_48 : decode b_Code_number 48 = .ok (.goto (-38), 3) := by decide +kernel
theorem d_Code_number_51 : decode b_Code_number 51 = .ok (.iconst 2, 1) := by decide +kernel
theorem d_Code_number_52 : decode b_Code_number 52 = .ok (.istore_n 1, 1) := by decide +kernel
theorem d_Code_number_53 : decode b_Code_number 53 = .ok (.iload_n 1, 1) := by decide +kernel
theorem d_Code_number_54 : decode b_Code_number 54 = .ok (.aload_n 0, 1) := by decide +kernel
theorem d_Code_number_55 : decode b_Code_number 55 = .ok (.getfield 9, 3) := by decide +kernel
theorem d_Code_number_58 : decode b_Code_number 58 = .ok (.arraylength, 1) := by decide +kernel
theorem d_Code_number_59 : decode b_Code_number 59 = .ok (.if_icmp .ge 32, 3) := by decide +kernel
theorem d_Code_number_62 : decode b_Code_number 62 = .ok (.aload_n 0, 1) := by decide +kernel
theorem d_Code_number_63 : decode b_Code_number 63 = .ok (.getfield 9, 3) := by decide +kernel
theorem d_Code_number_66 : decode b_Code_number 66 = .ok (.iload_n 1, 1) := by decide +kernel
theorem d_Code_number_67 : decode b_Code_number 67 = .ok (.aload_n 0, 1) := by decide +kernel
theorem d_Code_number_68 : decode b_Code_number 68 = .ok (.getfield 9, 3) := by decide +kernel
theorem d_Code_number_71 : decode b_Code_number 71 = .ok (.iload_n 1, 1) := by decide +kernel
theorem d_Code_number_72 : decode b_Code_number 72 = .ok (.iconst 1, 1) := by decide +kernel
theorem d_Code_number_73 : decode b_Code_number 73 = .ok (.isub, 1) := by decide +kernel
theorem d_Code_number_74 : decode b_Code_number 74 = .ok (.iaload, 1) := by decide +kernel
theorem d_Code_number_75 : decode b_Code_number 75 = .ok (.aload_n 0, 1) := by decide +kernel
theorem d_Code_number_76 : decode b_Code_number 76 = .ok (.getfield 9, 3) := by decide +kernel
theorem d_Code_number_79 : decode b_Code_number 79 = .ok (.iload_n 1, 1) := by decide +kernel
theorem d_Code_number_80 : decode b_Code_number 80 = .ok (.iaload, 1) := by decide +kernel
theorem d_Code_number_81 : decode b_Code_number 81 = .ok (.iadd, 1) := by decide +kernel
theorem d_Code_number_82 : decode b_Code_number 82 = .ok (.iconst 2, 1) := by decide +kernel
theorem d_Code_number_83 : decode b_Code_number 83 = .ok (.imul, 1) := by decide +kernel
theorem d_Code_number_84 : decode b_Code_number 84 = .ok (.iastore, 1) := by decide +kernel
theorem d_Code_number_85 : decode b_Code_number 85 = .ok (.iinc 1 1, 3) := by decide +kernel
theorem d_Code_number_88 : decode b_Code_number 88 = .ok (.goto (-35), 3) := by decide +kernel
theorem d_Code_number_91 : decode b_Code_number 91 = .ok (.iconst 0, 1) := by decide +kernel
theorem d_Code_number_92 : decode b_Code_number 92 = .ok (.istore_n 1, 1) := by decide +kernel
theorem d_Code_number_93 : decode b_Code_number 93 = .ok (.iload_n 1, 1) := by decide +kernel
theorem d_Code_number_94 : decode b_Code_number 94 = .ok (.aload_n 0, 1) := by decide +kernel
theorem d_Code_number_95 : decode b_Code_number 95 = .ok (.getfield 15, 3) := by decide +kernel
theorem d_Code_number_98 : decode b_Code_number 98 = .ok (.arraylength, 1) := by decide +kernel
theorem d_Code_number_99 : decode b_Code_number 99 = .ok (.if_icmp .ge 46, 3) := by decide +kernel
theorem d_Code_number_102 : decode b_Code_number 102 = .ok (.aload_n 0, 1) := by decide +kernel
theorem d_Code_number_103 : decode b_Code_number 103 = .ok (.getfield 15, 3) := by decide +kernel
theorem d_Code_number_106 : decode b_Code_number 106 = .ok (.iload_n 1, 1) := by decide +kernel
theorem d_Code_number_107 : decode b_Code_number 107 = .ok (.iaload, 1) := by decide +kernel
theorem d_Code_number_108 : decode b_Code_number 108 = .ok (.istore_n 2, 1) := by decide +kernel
theorem d_Code_number_109 : decode b_Code_number 109 = .ok (.iload_n 2, 1) := by decide +kernel
theorem d_Code_number_110 : decode b_Code_number 110 = .ok (.ifCond .le 29, 3) := by decide +kernel
theorem d_Code_number_113 : decode b_Code_number 113 = .ok (.aload_n 0, 1) := by decide +kernel
theorem d_Code_number_114 : decode b_Code_number 114 = .ok (.getfield 18, 3) := by decide +kernel
theorem d_Code_number_117 : decode b_Code_number 117 = .ok (.iload_n 1, 1) := by decide +kernel
theorem d_Code_number_118 : decode b_Code_number 118 = .ok (.aload_n 0, 1) := by decide +kernel
theorem d_Code_number_119 : decode b_Code_number 119 = .ok (.getfield 9, 3) := by decide +kernel
theorem d_Code_number_122 : decode b_Code_number 122 = .ok (.iload_n 2, 1) := by decide +kernel
theorem d_Code_number_123 : decode b_Code_number 123 = .ok (.iaload, 1) := by decide +kernel
theorem d_Code_number_124 : decode b_Code_number 124 = .ok (.iload_n 2, 1) := by decide +kernel
theorem d_Code_number_125 : decode b_Code_number 125 = .ok (.invokestatic 27, 3) := by decide +kernel
theorem d_Code_number_128 : decode b_Code_number 128 = .ok (.iastore, 1) := by decide +kernel
theorem d_Code_number_129 : decode b_Code_number 129 = .ok (.aload_n 0, 1) := by decide +kernel
theorem d_Code_number_130 : decode b_Code_number 130 = .ok (.getfield 9, 3) := by decide +kernel
theorem d_Code_number_133 : decode b_Code_number 133 = .ok (.iload_n 2, 1) := by decide +kernel
theorem d_Code_number_134 : decode b_Code_number 134 = .ok (.dup2, 1) := by decide +kernel
theorem d_Code_number_135 : decode b_Code_number 135 = .ok (.iaload, 1) := by decide +kernel
theorem d_Code_number_136 : decode b_Code_number 136 = .ok (.iconst 1, 1) := by decide +kernel
theorem d_Code_number_137 : decode b_Code_number 137 = .ok (.iadd, 1) := by decide +kernel
theorem d_Code_number_138 : decode b_Code_number 138 = .ok (.iastore, 1) := by decide +kernel
theorem d_Code_number_139 : decode b_Code_number 139 = .ok (.iinc 1 1, 3) := by decide +kernel
theorem d_Code_number_142 : decode b_Code_number 142 = .ok (.goto (-49), 3) := by decide +kernel
theorem d_Code_number_145 : decode b_Code_number 145 = .ok (.return_, 1) := by decide +kernel
theorem d_Code_bitsFor_0 : decode b_Code_bitsFor 0 = .ok (.aload_n 1, 1) := by decide +kernel
theorem d_Code_bitsFor_1 : decode b_Code_bitsFor 1 = .ok (.arraylength, 1) := by decide +kernel
theorem d_Code_bitsFor_2 : decode b_Code_bitsFor 2 = .ok (.aload_n 0, 1) := by decide +kernel
theorem d_Code_bitsFor_3 : decode b_Code_bitsFor 3 = .ok (.getfield 15, 3) := by decide +kernel
theorem d_Code_bitsFor_6 : decode b_Code_bitsFor 6 = .ok (.arraylength, 1) := by decide +kernel
theorem d_Code_bitsFor_7 : decode b_Code_bitsFor 7 = .ok (.invokestatic 31, 3) := by decide +kernel
theorem d_Code_bitsFor_10 : decode b_Code_bitsFor 10 = .ok (.istore_n 2, 1) := by decide +kernel
theorem d_Code_bitsFor_11 : decode b_Code_bitsFor 11 = .ok (.iconst 0, 1) := by decide +kernel
theorem d_Code_bitsFor_12 : decode b_Code_bitsFor 12 = .ok (.istore_n 3, 1) := by decide +kernel
theorem d_Code_bitsFor_13 : decode b_Code_bitsFor 13 = .ok (.iconst 0, 1) := by decide +kernel
theorem d_Code_bitsFor_14 : decode b_Code_bitsFor 14 = .ok (.istore 4, 2) := by decide +kernel
theorem d_Code_bitsFor_16 : decode b_Code_bitsFor 16 = .ok (.iload 4, 2) := by decide +kernel
theorem d_Code_bitsFor_18 : decode b_Code_bitsFor 18 = .ok (.iload_n 2, 1) := by decide +kernel
theorem d_Code_bitsFor_19 : decode b_Code_bitsFor 19 = .ok (.if_icmp .ge 24, 3) := by decide +kernel
theorem d_Code_bitsFor_22 : decode b_Code_bitsFor 22 = .ok (.iload_n 3, 1) := by decide +kernel
theorem d_Code_bitsFor_23 : decode b_Code_bitsFor 23 = .ok (.aload_n 1, 1) := by decide +kernel
theorem d_Code_bitsFor_24 : decode b_Code_bitsFor 24 = .ok (.iload 4, 2) := by decide +kernel
theorem d_Code_bitsFor_26 : decode b_Code_bitsFor 26 = .ok (.iaload, 1) := by decide +kernel
theorem d_Code_bitsFor_27 : decode b_Code_bitsFor 27 = .ok (.aload_n 0, 1) := by decide +kernel
theorem d_Code_bitsFor_28 : decode b_Code_bitsFor 28 = .ok (.getfield 15, 3) := by decide +kernel
theorem d_Code_bitsFor_31 : decode b_Code_bitsFor 31 = .ok (.iload 4, 2) := by decide +kernel
theorem d_Code_bitsFor_33 : decode b_Code_bitsFor 33 = .ok (.iaload, 1) := by decide +kernel
theorem d_Code_bitsFor_34 : decode b_Code_bitsFor 34 = .ok (.imul, 1) := by decide +kernel
theorem d_Code_bitsFor_35 : decode b_Code_bitsFor 35 = .ok (.iadd, 1) := by decide +kernel
theorem d_Code_bitsFor_36 : decode b_Code_bitsFor 36 = .ok (.istore_n 3, 1) := by decide +kernel
theorem d_Code_bitsFor_37 : decode b_Code_bitsFor 37 = .ok (.iinc 4 1, 3) := by decide +kernel
theorem d_Code_bitsFor_40 : decode b_Code_bitsFor 40 = .ok (.goto (-24), 3) := by decide +kernel
theorem d_Code_bitsFor_43 : decode b_Code_bitsFor 43 = .ok (.iload_n 3, 1) := by decide +kernel
theorem d_Code_bitsFor_44 : decode b_Code_bitsFor 44 = .ok (.ireturn, 1) := by decide +kernel
/-! PackedBytes$Code.turnRound(II)I -/
def fCode_turnRound_4 (N : Nat) (x0 : Int32) (x1 : Int32) : Nat → (Int32) → (Int32) → Option (Int32)
  | 0, _, _ => none
  | k + 1, x2, x3 =>
    if x1 ≤ x3 then
      some x2
    else
      fCode_turnRound_4 N x0 x1 k ((x2 <<< ((1 : Int32) &&& 31)) ||| ((x0 >>> (x3 &&& 31)) &&& (1 : Int32))) (x3 + (1 : Int32))
def fCode_turnRound (N : Nat) (p1 : Int32) (p2 : Int32) : Option (Int32) :=
    (fCode_turnRound_4 N p1 p2 N (0 : Int32) (0 : Int32)).bind (fun y2 =>
      some y2)
set_option maxHeartbeats 4000000 in
set_option maxRecDepth 100000 in
theorem wCode_turnRound_4 {p : Program} {l : Launch} {e : Env} {s : State} {m : MethodId} {args : Array Value} {below : List Frame} {meth : Method} {c : Code} {Q : State → Prop} {A : Nat → Prop} {dC : Nat → ClassId} {dI : Nat → Nat → Nat} (cB cI cJ : ClassId) (N : Nat) (x0 : Int32) (x1 : Int32) (C : CX p s m args c b_Code_turnRound 4 R_Code A (dC, dI) [(cB, .byte), (cI, .int), (cJ, .long)]) :
    ∀ (n : Nat) (x2 : Int32) (x3 : Int32) (H : Heap) (locs : List Loc) (ls : Array Slot) (o : Int32), va_P (dC, dI) vwCl [] H → va_D A [] → va_S A s.heap H locs → lv_has ls 4 [(0, .int x0), (1, .int x1), (2, .int x2), (3, .int x3)] → fCode_turnRound_4 N x0 x1 n x2 x3 = some o → (∀ (H : Heap) (locs : List Loc) (ls : Array Slot), va_P (dC, dI) vwCl [] H → va_D A [] → va_S A s.heap H locs → lv_has ls 4 [(2, .int o)] → W p l e ({ frames := 0, cells := 0, slots := 0, locals := 0 } : Room) s m args below meth c H locs 0 0 Q (F0 m 25 ls [])) → W p l e ({ frames := 0, cells := 0, slots := 0, locals := 0 } : Room) s m args below meth c H locs 0 0 Q (F0 m 4 ls []) := by
  obtain ⟨hx, hb, hml, hown, ht, hA, hK, hN⟩ := id C
  intro n
  induction n with
  | zero => intro x2 x3 H locs ls o _ _ _ _ h; exact nomatch h
  | succ k ih =>
    intro x2 x3 H locs ls o hP hD hS hl h kx
    refine lv_iload_n hx hb d_Code_turnRound_4 rfl (lv_at hl 3 rfl) ?_
    refine lv_iload_n hx hb d_Code_turnRound_5 rfl (lv_at hl 1 rfl) ?_
    refine lv_icmp_ge (tgt := 25) hx hb d_Code_turnRound_6 (by decide) (fun c1 => ?_) (fun c1 => ?_)
    · replace h := ip_p c1 h
      obtain rfl := Option.some.inj h
      exact kx _ _ _ hP hD hS (lv_sub hl [2] rfl)
    · replace h := ip_n c1 h
      refine lv_iload_n hx hb d_Code_turnRound_9 rfl (lv_at hl 2 rfl) ?_
      refine lv_iconst (v := (1 : Int32)) hx hb d_Code_turnRound_10 (by decide) ?_
      refine lv_ishl hx hb d_Code_turnRound_11 ?_
      refine lv_iload_n hx hb d_Code_turnRound_12 rfl (lv_at hl 0 rfl) ?_
      refine lv_iload_n hx hb d_Code_turnRound_13 rfl (lv_at hl 3 rfl) ?_
      refine lv_ishr hx hb d_Code_turnRound_14 ?_
      refine lv_iconst (v := (1 : Int32)) hx hb d_Code_turnRound_15 (by decide) ?_
      refine lv_iand hx hb d_Code_turnRound_16 ?_
      refine lv_ior hx hb d_Code_turnRound_17 ?_
      refine lv_istore_n (lv' := [(2, .int ((x2 <<< ((1 : Int32) &&& 31)) ||| ((x0 >>> (x3 &&& 31)) &&& (1 : Int32)))), (0, .int x0), (1, .int x1), (3, .int x3)]) hx hb d_Code_turnRound_18 rfl hl (by decide) rfl (fun ls hl => ?_)
      refine lv_iinc (v := x3 + (1 : Int32)) (lv' := [(3, .int (x3 + (1 : Int32))), (2, .int ((x2 <<< ((1 : Int32) &&& 31)) ||| ((x0 >>> (x3 &&& 31)) &&& (1 : Int32)))), (0, .int x0), (1, .int x1)]) hx hb d_Code_turnRound_19 hl (k := 3) rfl rfl (by decide) rfl (fun ls hl => ?_)
      refine lv_goto (tgt := 4) hx hb d_Code_turnRound_22 (by decide) ?_
      exact ih ((x2 <<< ((1 : Int32) &&& 31)) ||| ((x0 >>> (x3 &&& 31)) &&& (1 : Int32))) (x3 + (1 : Int32)) _ _ _ _ hP hD hS (lv_sub hl [2, 3, 1, 0] rfl) h kx
set_option maxHeartbeats 4000000 in
set_option maxRecDepth 100000 in
theorem cCode_turnRound (l : Launch) (dC : Nat → ClassId) (dI : Nat → Nat → Nat) (cB cI cJ : ClassId) (sz : Nat) (N : Nat) (p1 : Int32) (p2 : Int32) (o : Int32) (h : fCode_turnRound N p1 p2 = some o) : Met l y_Code_turnRound w_Code_turnRound ({ frames := 0, cells := 0, slots := 0, locals := 0 } : Room) (va_Pc [.int p1, .int p2] (fun U => U.heap.size = sz ∧ va_P (dC, dI) vwCl [] U.heap ∧ va_K (dC, dI) vwCl [(cB, .byte), (cI, .int), (cJ, .long)] U ∧ va_D (fun _ => True) [] ∧ NW U)) (va_Qi (fun r (_ : Unit) => r = o) (fun _ t => va_P (dC, dI) vwCl [] t.heap ∧ va_K (dC, dI) vwCl [(cB, .byte), (cI, .int), (cJ, .long)] t ∧ va_D (va_A [] sz) []) (va_A [] sz)) 0 0 (va_A [] sz) := by
  refine Met.ofW (cc := b_Code_turnRound) (maxL := 4) (ret := (some .int)) (by decide) rfl ?_
  intro p e s m args below meth c s₁ B hml hv
  obtain ⟨rfl, hsz, hP, hK, hD0, hN⟩ := hv
  have hx := B.exec
  have hb := B.bytes
  have hr := B.returns
  have hts := atoms_spec (ws := w_Code_turnRound) B.pre
  have ht : ∀ w ∈ TB, w.before ([.int p1, .int p2]).toArray s = true := fun w h => hts w (List.mem_cons_of_mem _ h)
  have hown : s.vm.findClass R_Code = some m.cls := findClass_of_methodNamed B.named
  have hlocks := B.notSynchronized
  subst hsz
  have hD := hD0.self (sz := s.heap.size)
  generalize hAe : va_A [] s.heap.size = A at hD ⊢
  have hA : ∀ q : Nat, s.heap.size ≤ q → A q := fun q h => by rw [← hAe]; exact Or.inr h
  have hS : va_S A s.heap s.heap [] := va_S.rf
  have hP : va_P (dC, dI) vwCl [] s.heap := hP
  have C : CX p s m ([.int p1, .int p2]).toArray c b_Code_turnRound 4 R_Code A (dC, dI) [(cB, .byte), (cI, .int), (cJ, .long)] := ⟨hx, hb, hml, hown, ht, hA, hK, hN⟩
  have hl := lv_entry ([.int p1, .int p2]) (n := 4) (Nat.le_of_ble_eq_true rfl)
  rw [lg_entry_eq]
  generalize (lg_sl ([.int p1, .int p2]) ++ List.replicate (4 - (lg_sl ([.int p1, .int p2])).length) Slot.unset).toArray = ls at hl ⊢
  have hl : lv_has ls 4 [(0, .int p1), (1, .int p2)] := hl
  refine lv_iconst (v := (0 : Int32)) hx hb d_Code_turnRound_0 (by decide) ?_
  refine lv_istore_n (lv' := [(2, .int (0 : Int32)), (0, .int p1), (1, .int p2)]) hx hb d_Code_turnRound_1 rfl hl (by decide) rfl (fun ls hl => ?_)
  refine lv_iconst (v := (0 : Int32)) hx hb d_Code_turnRound_2 (by decide) ?_
  refine lv_istore_n (lv' := [(3, .int (0 : Int32)), (2, .int (0 : Int32)), (0, .int p1), (1, .int p2)]) hx hb d_Code_turnRound_3 rfl hl (by decide) rfl (fun ls hl => ?_)
  obtain ⟨y2, hy2, h⟩ := bd h
  refine wCode_turnRound_4 cB cI cJ N p1 p2 C N (0 : Int32) (0 : Int32) _ _ _ _ hP hD hS (lv_sub hl [2, 3, 1, 0] rfl) hy2 (fun H locs ls hP hD hS hl => ?_)
  refine lv_iload_n hx hb d_Code_turnRound_25 rfl (lv_at hl 0 rfl) ?_
  obtain rfl := Option.some.inj h
  exact W.iret (v := y2) hx hb hr (fun t ht hW => ⟨⟨_, (), rfl, rfl, by rw [ht]; exact hP, va_K.moved hW.alike hK, hD⟩, hS.F ht⟩) hS.2.2 d_Code_turnRound_26
/-! PackedBytes$Code.number()V -/
def fCode_number_10 (N : Nat) (n_t_lengths : Nat) (f_t_lengths : Nat → Int32) : Nat → (Int32) → (Nat → Int32) → Option ((Nat → Int32))
  | 0, _, _ => none
  | k + 1, x1, f_t_next =>
    if (nI n_t_lengths) ≤ x1 then
      some f_t_next
    else
      if ¬ (x1 < 0 ∨ n_t_lengths ≤ x1.toNatClampNeg) then
        if (f_t_lengths x1.toNatClampNeg) ≤ 0 then
          fCode_number_10 N n_t_lengths f_t_lengths k (x1 + (1 : Int32)) f_t_next
        else
          if ¬ (x1 < 0 ∨ n_t_lengths ≤ x1.toNatClampNeg) then
            if ¬ (((f_t_lengths x1.toNatClampNeg) + (1 : Int32)) < 0 ∨ 17 ≤ ((f_t_lengths x1.toNatClampNeg) + (1 : Int32)).toNatClampNeg) then
              if ¬ (((f_t_lengths x1.toNatClampNeg) + (1 : Int32)) < 0 ∨ 17 ≤ ((f_t_lengths x1.toNatClampNeg) + (1 : Int32)).toNatClampNeg) then
                fCode_number_10 N n_t_lengths f_t_lengths k (x1 + (1 : Int32)) (upd f_t_next ((f_t_lengths x1.toNatClampNeg) + (1 : Int32)).toNatClampNeg ((f_t_next ((f_t_lengths x1.toNatClampNeg) + (1 : Int32)).toNatClampNeg) + (1 : Int32)))
              else none
            else none
          else none
      else none
def fCode_number_53 (N : Nat) : Nat → (Int32) → (Nat → Int32) → Option ((Nat → Int32))
  | 0, _, _ => none
  | k + 1, x1, f_t_next =>
    if (nI 17) ≤ x1 then
      some f_t_next
    else
      if ¬ ((x1 - (1 : Int32)) < 0 ∨ 17 ≤ (x1 - (1 : Int32)).toNatClampNeg) then
        if ¬ (x1 < 0 ∨ 17 ≤ x1.toNatClampNeg) then
          if ¬ (x1 < 0 ∨ 17 ≤ x1.toNatClampNeg) then
            fCode_number_53 N k (x1 + (1 : Int32)) (upd f_t_next x1.toNatClampNeg (((f_t_next (x1 - (1 : Int32)).toNatClampNeg) + (f_t_next x1.toNatClampNeg)) * (2 : Int32)))
          else none
        else none
      else none
def fCode_number_93 (N : Nat) (n_t_lengths : Nat) (f_t_lengths : Nat → Int32) (n_t_bits : Nat) : Nat → (Int32) → (Nat → Int32) → (Nat → Int32) → Option ((Nat → Int32) × (Nat → Int32))
  | 0, _, _, _ => none
  | k + 1, x1, f_t_next, f_t_bits =>
    if (nI n_t_lengths) ≤ x1 then
      some (f_t_next, f_t_bits)
    else
      if ¬ (x1 < 0 ∨ n_t_lengths ≤ x1.toNatClampNeg) then
        if (f_t_lengths x1.toNatClampNeg) ≤ 0 then
          fCode_number_93 N n_t_lengths f_t_lengths n_t_bits k (x1 + (1 : Int32)) f_t_next f_t_bits
        else
          if ¬ ((f_t_lengths x1.toNatClampNeg) < 0 ∨ 17 ≤ (f_t_lengths x1.toNatClampNeg).toNatClampNeg) then
            (fCode_turnRound N (f_t_next (f_t_lengths x1.toNatClampNeg).toNatClampNeg) (f_t_lengths x1.toNatClampNeg)).bind (fun y18 =>
              if ¬ (x1 < 0 ∨ n_t_bits ≤ x1.toNatClampNeg) then
                if ¬ ((f_t_lengths x1.toNatClampNeg) < 0 ∨ 17 ≤ (f_t_lengths x1.toNatClampNeg).toNatClampNeg) then
                  if ¬ ((f_t_lengths x1.toNatClampNeg) < 0 ∨ 17 ≤ (f_t_lengths x1.toNatClampNeg).toNatClampNeg) then
                    fCode_number_93 N n_t_lengths f_t_lengths n_t_bits k (x1 + (1 : Int32)) (upd f_t_next (f_t_lengths x1.toNatClampNeg).toNatClampNeg ((f_t_next (f_t_lengths x1.toNatClampNeg).toNatClampNeg) + (1 : Int32))) (upd f_t_bits x1.toNatClampNeg y18)
                  else none
                else none
              else none)
          else none
      else none
def fCode_number (N : Nat) (f_t_next : Nat → Int32) (n_t_lengths : Nat) (f_t_lengths : Nat → Int32) (n_t_bits : Nat) (f_t_bits : Nat → Int32) : Option ((Nat → Int32) × (Nat → Int32)) :=
    (fJA_fill N (0 : Int32) 17 f_t_next).bind (fun y1 =>
      (fCode_number_10 N n_t_lengths f_t_lengths N (0 : Int32) y1).bind (fun y8 =>
        (fCode_number_53 N N (2 : Int32) y8).bind (fun y13 =>
          (fCode_number_93 N n_t_lengths f_t_lengths n_t_bits N (0 : Int32) y13 f_t_bits).bind (fun y22 =>
            some (y22.1, y22.2)))))
set_option maxHeartbeats 4000000 in
set_option maxRecDepth 100000 in
theorem wCode_number_10 {p : Program} {l : Launch} {e : Env} {s : State} {m : MethodId} {args : Array Value} {below : List Frame} {meth : Method} {c : Code} {Q : State → Prop} {A : Nat → Prop} {dC : Nat → ClassId} {dI : Nat → Nat → Nat} (h_t h_t_lengths h_t_bits h_t_next : Nat) (cB cI cJ : ClassId) (N : Nat) (n_t_lengths : Nat) (f_t_lengths : Nat → Int32) (n_t_bits : Nat) (f_t_bits : Nat → Int32) (C : CX p s m args c b_Code_number 3 R_Code A (dC, dI) [(cB, .byte), (cI, .int), (cJ, .long)]) :
    ∀ (n : Nat) (x1 : Int32) (f_t_next : Nat → Int32) (H : Heap) (locs : List Loc) (ls : Array Slot) (o : (Nat → Int32)), va_P (dC, dI) vwCl [(h_t, .inr (2, [.ref h_t_lengths, .ref h_t_bits, .ref h_t_next])), (h_t_next, .inl (cI, 17, .inl f_t_next)), (h_t_lengths, .inl (cI, n_t_lengths, .inl f_t_lengths)), (h_t_bits, .inl (cI, n_t_bits, .inl f_t_bits))] H → va_D A [(h_t, .inr (2, [.ref h_t_lengths, .ref h_t_bits, .ref h_t_next])), (h_t_next, .inl (cI, 17, .inl f_t_next)), (h_t_lengths, .inl (cI, n_t_lengths, .inl f_t_lengths)), (h_t_bits, .inl (cI, n_t_bits, .inl f_t_bits))] → va_S A s.heap H locs → lv_has ls 3 [(0, .ref h_t), (1, .int x1)] → fCode_number_10 N n_t_lengths f_t_lengths n x1 f_t_next = some o → (∀ (H : Heap) (locs : List Loc) (ls : Array Slot), va_P (dC, dI) vwCl [(h_t, .inr (2, [.ref h_t_lengths, .ref h_t_bits, .ref h_t_next])), (h_t_next, .inl (cI, 17, .inl o)), (h_t_lengths, .inl (cI, n_t_lengths, .inl f_t_lengths)), (h_t_bits, .inl (cI, n_t_bits, .inl f_t_bits))] H → va_D A [(h_t, .inr (2, [.ref h_t_lengths, .ref h_t_bits, .ref h_t_next])), (h_t_next, .inl (cI, 17, .inl o)), (h_t_lengths, .inl (cI, n_t_lengths, .inl f_t_lengths)), (h_t_bits, .inl (cI, n_t_bits, .inl f_t_bits))] → va_S A s.heap H locs → lv_has ls 3 [(0, .ref h_t)] → W p l e ({ frames := 1, cells := 0, slots := 0, locals := 23 } : Room) s m args below meth c H locs 0 0 Q (F0 m 51 ls [])) → W p l e ({ frames := 1, cells := 0, slots := 0, locals := 23 } : Room) s m args below meth c H locs 0 0 Q (F0 m 10 ls []) := by
  obtain ⟨hx, hb, hml, hown, ht, hA, hK, hN⟩ := id C
  intro n
  induction n with
  | zero => intro x1 f_t_next H locs ls o _ _ _ _ h; exact nomatch h
  | succ k ih =>
    intro x1 f_t_next H locs ls o hP hD hS hl h kx
    refine lv_iload_n hx hb d_Code_number_10 rfl (lv_at hl 1 rfl) ?_
    refine lv_aload_n hx hb d_Code_number_11 rfl (lv_at hl 0 rfl) ?_
    refine va_get (D := (dC, dI)) (ci := 2) (v := .ref h_t_lengths) (C := R_Code) (T := F_Code) (N := 3) hx hb ht in_Code hown hK hP 0 rfl rfl 0 (by decide) (ht _ k_173) (fun _ h9 => h9) rfl d_Code_number_12 ?_
    refine va_alen (v := nI n_t_lengths) hx hb hK hP 2 1 rfl rfl rfl d_Code_number_15 ?_
    refine lv_icmp_ge (tgt := 51) hx hb d_Code_number_16 (by decide) (fun c2 => ?_) (fun c2 => ?_)
    · replace h := ip_p c2 h
      obtain rfl := Option.some.inj h
      exact kx _ _ _ hP hD hS (lv_sub hl [0] rfl)
    · replace h := ip_n c2 h
      refine lv_aload_n hx hb d_Code_number_19 rfl (lv_at hl 0 rfl) ?_
      refine va_get (D := (dC, dI)) (ci := 2) (v := .ref h_t_lengths) (C := R_Code) (T := F_Code) (N := 3) hx hb ht in_Code hown hK hP 0 rfl rfl 0 (by decide) (ht _ k_173) (fun _ h9 => h9) rfl d_Code_number_20 ?_
      refine lv_iload_n hx hb d_Code_number_23 rfl (lv_at hl 1 rfl) ?_
      obtain ⟨g3, h⟩ := gd h
      refine va_iald hx hb hK hP 2 1 rfl rfl g3 d_Code_number_24 ?_
      refine lv_if_le (tgt := 45) hx hb d_Code_number_25 (by decide) (fun c4 => ?_) (fun c4 => ?_)
      · replace h := ip_p c4 h
        refine lv_iinc (v := x1 + (1 : Int32)) (lv' := [(1, .int (x1 + (1 : Int32))), (0, .ref h_t)]) hx hb d_Code_number_45 hl (k := 1) rfl rfl (by decide) rfl (fun ls hl => ?_)
        refine lv_goto (tgt := 10) hx hb d_Code_number_48 (by decide) ?_
        exact ih (x1 + (1 : Int32)) f_t_next _ _ _ _ hP hD hS (lv_sub hl [1, 0] rfl) h kx
      · replace h := ip_n c4 h
        refine lv_aload_n hx hb d_Code_number_28 rfl (lv_at hl 0 rfl) ?_
        refine va_get (D := (dC, dI)) (ci := 2) (v := .ref h_t_next) (C := R_Code) (T := F_Code) (N := 3) hx hb ht in_Code hown hK hP 0 rfl rfl 2 (by decide) (ht _ k_179) (fun _ h9 => h9) rfl d_Code_number_29 ?_
        refine lv_aload_n hx hb d_Code_number_32 rfl (lv_at hl 0 rfl) ?_
        refine va_get (D := (dC, dI)) (ci := 2) (v := .ref h_t_lengths) (C := R_Code) (T := F_Code) (N := 3) hx hb ht in_Code hown hK hP 0 rfl rfl 0 (by decide) (ht _ k_173) (fun _ h9 => h9) rfl d_Code_number_33 ?_
        refine lv_iload_n hx hb d_Code_number_36 rfl (lv_at hl 1 rfl) ?_
        obtain ⟨g5, h⟩ := gd h
        refine va_iald hx hb hK hP 2 1 rfl rfl g5 d_Code_number_37 ?_
        refine lv_iconst (v := (1 : Int32)) hx hb d_Code_number_38 (by decide) ?_
        refine lv_iadd hx hb d_Code_number_39 ?_
        refine lv_dup2_11 hx hb d_Code_number_40 rfl rfl ?_
        obtain ⟨g6, h⟩ := gd h
        refine va_iald hx hb hK hP 1 1 rfl rfl g6 d_Code_number_41 ?_
        refine lv_iconst (v := (1 : Int32)) hx hb d_Code_number_42 (by decide) ?_
        refine lv_iadd hx hb d_Code_number_43 ?_
        obtain ⟨g7, h⟩ := gd h
        refine va_iast hx hb hK hP hD hS 1 1 rfl rfl g7 d_Code_number_44 (fun H locs hP hD hS => ?_)
        have hP : va_P (dC, dI) vwCl [(h_t, .inr (2, [.ref h_t_lengths, .ref h_t_bits, .ref h_t_next])), (h_t_next, .inl (cI, 17, .inl (upd f_t_next ((f_t_lengths x1.toNatClampNeg) + (1 : Int32)).toNatClampNeg ((f_t_next ((f_t_lengths x1.toNatClampNeg) + (1 : Int32)).toNatClampNeg) + (1 : Int32))))), (h_t_lengths, .inl (cI, n_t_lengths, .inl f_t_lengths)), (h_t_bits, .inl (cI, n_t_bits, .inl f_t_bits))] H := hP
        have hD : va_D A [(h_t, .inr (2, [.ref h_t_lengths, .ref h_t_bits, .ref h_t_next])), (h_t_next, .inl (cI, 17, .inl (upd f_t_next ((f_t_lengths x1.toNatClampNeg) + (1 : Int32)).toNatClampNeg ((f_t_next ((f_t_lengths x1.toNatClampNeg) + (1 : Int32)).toNatClampNeg) + (1 : Int32))))), (h_t_lengths, .inl (cI, n_t_lengths, .inl f_t_lengths)), (h_t_bits, .inl (cI, n_t_bits, .inl f_t_bits))] := hD
        refine lv_iinc (v := x1 + (1 : Int32)) (lv' := [(1, .int (x1 + (1 : Int32))), (0, .ref h_t)]) hx hb d_Code_number_45 hl (k := 1) rfl rfl (by decide) rfl (fun ls hl => ?_)
        refine lv_goto (tgt := 10) hx hb d_Code_number_48 (by decide) ?_
        exact ih (x1 + (1 : Int32)) (upd f_t_next ((f_t_lengths x1.toNatClampNeg) + (1 : Int32)).toNatClampNeg ((f_t_next ((f_t_lengths x1.toNatClampNeg) + (1 : Int32)).toNatClampNeg) + (1 : Int32))) _ _ _ _ hP hD hS (lv_sub hl [1, 0] rfl) h kx
set_option maxHeartbeats 4000000 in
set_option maxRecDepth 100000 in
theorem wCode_number_53 {p : Program} {l : Launch} {e : Env} {s : State} {m : MethodId} {args : Array Value} {below : List Frame} {meth : Method} {c : Code} {Q : State → Prop} {A : Nat → Prop} {dC : Nat → ClassId} {dI : Nat → Nat → Nat} (h_t h_t_lengths h_t_bits h_t_next : Nat) (cB cI cJ : ClassId) (N : Nat) (n_t_lengths : Nat) (f_t_lengths : Nat → Int32) (n_t_bits : Nat) (f_t_bits : Nat → Int32) (C : CX p s m args c b_Code_number 3 R_Code A (dC, dI) [(cB, .byte), (cI, .int), (cJ, .long)]) :
    ∀ (n : Nat) (x1 : Int32) (f_t_next : Nat → Int32) (H : Heap) (locs : List Loc) (ls : Array Slot) (o : (Nat → Int32)), va_P (dC, dI) vwCl [(h_t, .inr (2, [.ref h_t_lengths, .ref h_t_bits, .ref h_t_next])), (h_t_next, .inl (cI, 17, .inl f_t_next)), (h_t_lengths, .inl (cI, n_t_lengths, .inl f_t_lengths)), (h_t_bits, .inl (cI, n_t_bits, .inl f_t_bits))] H → va_D A [(h_t, .inr (2, [.ref h_t_lengths, .ref h_t_bits, .ref h_t_next])), (h_t_next, .inl (cI, 17, .inl f_t_next)), (h_t_lengths, .inl (cI, n_t_lengths, .inl f_t_lengths)), (h_t_bits, .inl (cI, n_t_bits, .inl f_t_bits))] → va_S A s.heap H locs → lv_has ls 3 [(0, .ref h_t), (1, .int x1)] → fCode_number_53 N n x1 f_t_next = some o → (∀ (H : Heap) (locs : List Loc) (ls : Array Slot), va_P (dC, dI) vwCl [(h_t, .inr (2, [.ref h_t_lengths, .ref h_t_bits, .ref h_t_next])), (h_t_next, .inl (cI, 17, .inl o)), (h_t_lengths, .inl (cI, n_t_lengths, .inl f_t_lengths)), (h_t_bits, .inl (cI, n_t_bits, .inl f_t_bits))] H → va_D A [(h_t, .inr (2, [.ref h_t_lengths, .ref h_t_bits, .ref h_t_next])), (h_t_next, .inl (cI, 17, .inl o)), (h_t_lengths, .inl (cI, n_t_lengths, .inl f_t_lengths)), (h_t_bits, .inl (cI, n_t_bits, .inl f_t_bits))] → va_S A s.heap H locs → lv_has ls 3 [(0, .ref h_t)] → W p l e ({ frames := 1, cells := 0, slots := 0, locals := 23 } : Room) s m args below meth c H locs 0 0 Q (F0 m 91 ls [])) → W p l e ({ frames := 1, cells := 0, slots := 0, locals := 23 } : Room) s m args below meth c H locs 0 0 Q (F0 m 53 ls []) := by
  obtain ⟨hx, hb, hml, hown, ht, hA, hK, hN⟩ := id C
  intro n
  induction n with
  | zero => intro x1 f_t_next H locs ls o _ _ _ _ h; exact nomatch h
  | succ k ih =>
    intro x1 f_t_next H locs ls o hP hD hS hl h kx
    refine lv_iload_n hx hb d_Code_number_53 rfl (lv_at hl 1 rfl) ?_
    refine lv_aload_n hx hb d_Code_number_54 rfl (lv_at hl 0 rfl) ?_
    refine va_get (D := (dC, dI)) (ci := 2) (v := .ref h_t_next) (C := R_Code) (T := F_Code) (N := 3) hx hb ht in_Code hown hK hP 0 rfl rfl 2 (by decide) (ht _ k_179) (fun _ h9 => h9) rfl d_Code_number_55 ?_
    refine va_alen (v := nI 17) hx hb hK hP 1 1 rfl rfl rfl d_Code_number_58 ?_
    refine lv_icmp_ge (tgt := 91) hx hb d_Code_number_59 (by decide) (fun c9 => ?_) (fun c9 => ?_)
    · replace h := ip_p c9 h
      obtain rfl := Option.some.inj h
      exact kx _ _ _ hP hD hS (lv_sub hl [0] rfl)
    · replace h := ip_n c9 h
      refine lv_aload_n hx hb d_Code_number_62 rfl (lv_at hl 0 rfl) ?_
      refine va_get (D := (dC, dI)) (ci := 2) (v := .ref h_t_next) (C := R_Code) (T := F_Code) (N := 3) hx hb ht in_Code hown hK hP 0 rfl rfl 2 (by decide) (ht _ k_179) (fun _ h9 => h9) rfl d_Code_number_63 ?_
      refine lv_iload_n hx hb d_Code_number_66 rfl (lv_at hl 1 rfl) ?_
      refine lv_aload_n hx hb d_Code_number_67 rfl (lv_at hl 0 rfl) ?_
      refine va_get (D := (dC, dI)) (ci := 2) (v := .ref h_t_next) (C := R_Code) (T := F_Code) (N := 3) hx hb ht in_Code hown hK hP 0 rfl rfl 2 (by decide) (ht _ k_179) (fun _ h9 => h9) rfl d_Code_number_68 ?_
      refine lv_iload_n hx hb d_Code_number_71 rfl (lv_at hl 1 rfl) ?_
      refine lv_iconst (v := (1 : Int32)) hx hb d_Code_number_72 (by decide) ?_
      refine lv_isub hx hb d_Code_number_73 ?_
      obtain ⟨g10, h⟩ := gd h
      refine va_iald hx hb hK hP 1 1 rfl rfl g10 d_Code_number_74 ?_
      refine lv_aload_n hx hb d_Code_number_75 rfl (lv_at hl 0 rfl) ?_
      refine va_get (D := (dC, dI)) (ci := 2) (v := .ref h_t_next) (C := R_Code) (T := F_Code) (N := 3) hx hb ht in_Code hown hK hP 0 rfl rfl 2 (by decide) (ht _ k_179) (fun _ h9 => h9) rfl d_Code_number_76 ?_
      refine lv_iload_n hx hb d_Code_number_79 rfl (lv_at hl 1 rfl) ?_
      obtain ⟨g11, h⟩ := gd h
      refine va_iald hx hb hK hP 1 1 rfl rfl g11 d_Code_number_80 ?_
      refine lv_iadd hx hb d_Code_number_81 ?_
      refine lv_iconst (v := (2 : Int32)) hx hb d_Code_number_82 (by decide) ?_
      refine lv_imul hx hb d_Code_number_83 ?_
      obtain ⟨g12, h⟩ := gd h
      refine va_iast hx hb hK hP hD hS 1 1 rfl rfl g12 d_Code_number_84 (fun H locs hP hD hS => ?_)
      have hP : va_P (dC, dI) vwCl [(h_t, .inr (2, [.ref h_t_lengths, .ref h_t_bits, .ref h_t_next])), (h_t_next, .inl (cI, 17, .inl (upd f_t_next x1.toNatClampNeg (((f_t_next (x1 - (1 : Int32)).toNatClampNeg) + (f_t_next x1.toNatClampNeg)) * (2 : Int32))))), (h_t_lengths, .inl (cI, n_t_lengths, .inl f_t_lengths)), (h_t_bits, .inl (cI, n_t_bits, .inl f_t_bits))] H := hP
      have hD : va_D A [(h_t, .inr (2, [.ref h_t_lengths, .ref h_t_bits, .ref h_t_next])), (h_t_next, .inl (cI, 17, .inl (upd f_t_next x1.toNatClampNeg (((f_t_next (x1 - (1 : Int32)).toNatClampNeg) + (f_t_next x1.toNatClampNeg)) * (2 : Int32))))), (h_t_lengths, .inl (cI, n_t_lengths, .inl f_t_lengths)), (h_t_bits, .inl (cI, n_t_bits, .inl f_t_bits))] := hD
      refine lv_iinc (v := x1 + (1 : Int32)) (lv' := [(1, .int (x1 + (1 : Int32))), (0, .ref h_t)]) hx hb d_Code_number_85 hl (k := 1) rfl rfl (by decide) rfl (fun ls hl => ?_)
      refine lv_goto (tgt := 53) hx hb d_Code_number_88 (by decide) ?_
      exact ih (x1 + (1 : Int32)) (upd f_t_next x1.toNatClampNeg (((f_t_next (x1 - (1 : Int32)).toNatClampNeg) + (f_t_next x1.toNatClampNeg)) * (2 : Int32))) _ _ _ _ hP hD hS (lv_sub hl [1, 0] rfl) h kx
set_option maxHeartbeats 4000000 in
set_option maxRecDepth 100000 in
theorem wCode_number_93 {p : Program} {l : Launch} {e : Env} {s : State} {m : MethodId} {args : Array Value} {below : List Frame} {meth : Method} {c : Code} {Q : State → Prop} {A : Nat → Prop} {dC : Nat → ClassId} {dI : Nat → Nat → Nat} (h_t h_t_lengths h_t_bits h_t_next : Nat) (cB cI cJ : ClassId) (N : Nat) (n_t_lengths : Nat) (f_t_lengths : Nat → Int32) (n_t_bits : Nat) (C : CX p s m args c b_Code_number 3 R_Code A (dC, dI) [(cB, .byte), (cI, .int), (cJ, .long)]) :
    ∀ (n : Nat) (x1 : Int32) (f_t_next : Nat → Int32) (f_t_bits : Nat → Int32) (H : Heap) (locs : List Loc) (ls : Array Slot) (o : (Nat → Int32) × (Nat → Int32)), va_P (dC, dI) vwCl [(h_t, .inr (2, [.ref h_t_lengths, .ref h_t_bits, .ref h_t_next])), (h_t_next, .inl (cI, 17, .inl f_t_next)), (h_t_lengths, .inl (cI, n_t_lengths, .inl f_t_lengths)), (h_t_bits, .inl (cI, n_t_bits, .inl f_t_bits))] H → va_D A [(h_t, .inr (2, [.ref h_t_lengths, .ref h_t_bits, .ref h_t_next])), (h_t_next, .inl (cI, 17, .inl f_t_next)), (h_t_lengths, .inl (cI, n_t_lengths, .inl f_t_lengths)), (h_t_bits, .inl (cI, n_t_bits, .inl f_t_bits))] → va_S A s.heap H locs → lv_has ls 3 [(0, .ref h_t), (1, .int x1)] → fCode_number_93 N n_t_lengths f_t_lengths n_t_bits n x1 f_t_next f_t_bits = some o → (∀ (H : Heap) (locs : List Loc) (ls : Array Slot), va_P (dC, dI) vwCl [(h_t, .inr (2, [.ref h_t_lengths, .ref h_t_bits, .ref h_t_next])), (h_t_next, .inl (cI, 17, .inl o.1)), (h_t_lengths, .inl (cI, n_t_lengths, .inl f_t_lengths)), (h_t_bits, .inl (cI, n_t_bits, .inl o.2))] H → va_D A [(h_t, .inr (2, [.ref h_t_lengths, .ref h_t_bits, .ref h_t_next])), (h_t_next, .inl (cI, 17, .inl o.1)), (h_t_lengths, .inl (cI, n_t_lengths, .inl f_t_lengths)), (h_t_bits, .inl (cI, n_t_bits, .inl o.2))] → va_S A s.heap H locs → lv_has ls 3 [] → W p l e ({ frames := 1, cells := 0, slots := 0, locals := 23 } : Room) s m args below meth c H locs 0 0 Q (F0 m 145 ls [])) → W p l e ({ frames := 1, cells := 0, slots := 0, locals := 23 } : Room) s m args below meth c H locs 0 0 Q (F0 m 93 ls []) := by
  obtain ⟨hx, hb, hml, hown, ht, hA, hK, hN⟩ := id C
  intro n
  induction n with
  | zero => intro x1 f_t_next f_t_bits H locs ls o _ _ _ _ h; exact nomatch h
  | succ k ih =>
    intro x1 f_t_next f_t_bits H locs ls o hP hD hS hl h kx
    refine lv_iload_n hx hb d_Code_number_93 rfl (lv_at hl 1 rfl) ?_
    refine lv_aload_n hx hb d_Code_number_94 rfl (lv_at hl 0 rfl) ?_
    refine va_get (D := (dC, dI)) (ci := 2) (v := .ref h_t_lengths) (C := R_Code) (T := F_Code) (N := 3) hx hb ht in_Code hown hK hP 0 rfl rfl 0 (by decide) (ht _ k_173) (fun _ h9 => h9) rfl d_Code_number_95 ?_
    refine va_alen (v := nI n_t_lengths) hx hb hK hP 2 1 rfl rfl rfl d_Code_number_98 ?_
    refine lv_icmp_ge (tgt := 145) hx hb d_Code_number_99 (by decide) (fun c14 => ?_) (fun c14 => ?_)
    · replace h := ip_p c14 h
      obtain rfl := Option.some.inj h
      exact kx _ _ _ hP hD hS (lv_sub hl [] rfl)
    · replace h := ip_n c14 h
      refine lv_aload_n hx hb d_Code_number_102 rfl (lv_at hl 0 rfl) ?_
      refine va_get (D := (dC, dI)) (ci := 2) (v := .ref h_t_lengths) (C := R_Code) (T := F_Code) (N := 3) hx hb ht in_Code hown hK hP 0 rfl rfl 0 (by decide) (ht _ k_173) (fun _ h9 => h9) rfl d_Code_number_103 ?_
      refine lv_iload_n hx hb d_Code_number_106 rfl (lv_at hl 1 rfl) ?_
      obtain ⟨g15, h⟩ := gd h
      refine va_iald hx hb hK hP 2 1 rfl rfl g15 d_Code_number_107 ?_
      refine lv_istore_n (lv' := [(2, .int (f_t_lengths x1.toNatClampNeg)), (0, .ref h_t), (1, .int x1)]) hx hb d_Code_number_108 rfl hl (by decide) rfl (fun ls hl => ?_)
      refine lv_iload_n hx hb d_Code_number_109 rfl (lv_at hl 0 rfl) ?_
      refine lv_if_le (tgt := 139) hx hb d_Code_number_110 (by decide) (fun c16 => ?_) (fun c16 => ?_)
      · replace h := ip_p c16 h
        refine lv_iinc (v := x1 + (1 : Int32)) (lv' := [(1, .int (x1 + (1 : Int32))), (2, .int (f_t_lengths x1.toNatClampNeg)), (0, .ref h_t)]) hx hb d_Code_number_139 hl (k := 2) rfl rfl (by decide) rfl (fun ls hl => ?_)
        refine lv_goto (tgt := 93) hx hb d_Code_number_142 (by decide) ?_
        exact ih (x1 + (1 : Int32)) f_t_next f_t_bits _ _ _ _ hP hD hS (lv_sub hl [2, 0] rfl) h kx
      · replace h := ip_n c16 h
        refine lv_aload_n hx hb d_Code_number_113 rfl (lv_at hl 1 rfl) ?_
        refine va_get (D := (dC, dI)) (ci := 2) (v := .ref h_t_bits) (C := R_Code) (T := F_Code) (N := 3) hx hb ht in_Code hown hK hP 0 rfl rfl 1 (by decide) (ht _ k_176) (fun _ h9 => h9) rfl d_Code_number_114 ?_
        refine lv_iload_n hx hb d_Code_number_117 rfl (lv_at hl 2 rfl) ?_
        refine lv_aload_n hx hb d_Code_number_118 rfl (lv_at hl 1 rfl) ?_
        refine va_get (D := (dC, dI)) (ci := 2) (v := .ref h_t_next) (C := R_Code) (T := F_Code) (N := 3) hx hb ht in_Code hown hK hP 0 rfl rfl 2 (by decide) (ht _ k_179) (fun _ h9 => h9) rfl d_Code_number_119 ?_
        refine lv_iload_n hx hb d_Code_number_122 rfl (lv_at hl 0 rfl) ?_
        obtain ⟨g17, h⟩ := gd h
        refine va_iald hx hb hK hP 1 1 rfl rfl g17 d_Code_number_123 ?_
        refine lv_iload_n hx hb d_Code_number_124 rfl (lv_at hl 0 rfl) ?_
        obtain ⟨y18, hy18, h⟩ := bd h
        have hPc := hP.sub (ws' := []) [] rfl
        have hDc := hD.sub (ws' := []) [] (by decide) rfl
        have hFc := va_free (wc := []) hD hS hA [] rfl
        refine va_calli (va_runS (As := [.int (f_t_next (f_t_lengths x1.toNatClampNeg).toNatClampNeg), .int (f_t_lengths x1.toNatClampNeg)]) (rest := [.int x1, .ref h_t_bits]) ⟨hx, hb, hml, hown, ht⟩ (cCode_turnRound l dC dI cB cI cJ _ N (f_t_next (f_t_lengths x1.toNatClampNeg).toNatClampNeg) (f_t_lengths x1.toNatClampNeg) y18 hy18) (⟨callB_of 2 ht (gTB (k_285)) rfl rfl rfl (ht _ k_70) (ht _ k_283) (by decide +kernel) ⟨Nat.le_of_ble_eq_true rfl, Nat.le_of_ble_eq_true rfl⟩, ht _ k_284⟩) ⟨fun a U g mk q => by obtain ⟨q0, q1, qP, qK, qD, qN⟩ := q; exact ⟨q0, q1, qP, va_K.moved (u := U) (U := U.calling g mk a) (Vm.Alike.refl U.vm) qK, qD, NW_same (u := U) rfl qN⟩, fun U hU hW => ⟨rfl, by rw [hU], by rw [hU]; exact hPc, va_K.moved hW.alike hK, hDc.weaken (fun _ _ _ _ => trivial), NW_warm hW hN⟩⟩ rfl rfl hl.1 rfl (lv_room (Nat.le_of_ble_eq_true rfl)) d_Code_number_125 ⟨Nat.le_of_ble_eq_true rfl, Nat.le_of_ble_eq_true rfl⟩) hS (fun q _ h => hFc q h) hFc (fun ry18 u t H1 locs htH hvm hw hB hz1 hk1 hS => ?_)
        obtain ⟨hP1, hK1, hD1⟩ := hB
        rw [htH] at hP1
        obtain ⟨hP, hD⟩ := va_join (wr := [(h_t, .inr (2, [.ref h_t_lengths, .ref h_t_bits, .ref h_t_next])), (h_t_next, .inl (cI, 17, .inl f_t_next)), (h_t_lengths, .inl (cI, n_t_lengths, .inl f_t_lengths)), (h_t_bits, .inl (cI, n_t_bits, .inl f_t_bits))]) (w1 := []) hP hD [] [0, 1, 2, 3] rfl rfl (by decide) (by decide) hk1 hFc hP1 hD1
        generalize H1 = H at hP hS ⊢
        have hP : va_P (dC, dI) vwCl [(h_t, .inr (2, [.ref h_t_lengths, .ref h_t_bits, .ref h_t_next])), (h_t_next, .inl (cI, 17, .inl f_t_next)), (h_t_lengths, .inl (cI, n_t_lengths, .inl f_t_lengths)), (h_t_bits, .inl (cI, n_t_bits, .inl f_t_bits))] H := hP.sub [0, 1, 2, 3] rfl
        have hD : va_D A [(h_t, .inr (2, [.ref h_t_lengths, .ref h_t_bits, .ref h_t_next])), (h_t_next, .inl (cI, 17, .inl f_t_next)), (h_t_lengths, .inl (cI, n_t_lengths, .inl f_t_lengths)), (h_t_bits, .inl (cI, n_t_bits, .inl f_t_bits))] := hD.sub [0, 1, 2, 3] (by decide) rfl
        replace hw := hw.symm
        subst hw
        obtain ⟨g19, h⟩ := gd h
        refine va_iast hx hb hK hP hD hS 3 1 rfl rfl g19 d_Code_number_128 (fun H locs hP hD hS => ?_)
        have hP : va_P (dC, dI) vwCl [(h_t, .inr (2, [.ref h_t_lengths, .ref h_t_bits, .ref h_t_next])), (h_t_next, .inl (cI, 17, .inl f_t_next)), (h_t_lengths, .inl (cI, n_t_lengths, .inl f_t_lengths)), (h_t_bits, .inl (cI, n_t_bits, .inl (upd f_t_bits x1.toNatClampNeg y18)))] H := hP
        have hD : va_D A [(h_t, .inr (2, [.ref h_t_lengths, .ref h_t_bits, .ref h_t_next])), (h_t_next, .inl (cI, 17, .inl f_t_next)), (h_t_lengths, .inl (cI, n_t_lengths, .inl f_t_lengths)), (h_t_bits, .inl (cI, n_t_bits, .inl (upd f_t_bits x1.toNatClampNeg y18)))] := hD
        refine lv_aload_n hx hb d_Code_number_129 rfl (lv_at hl 1 rfl) ?_
        refine va_get (D := (dC, dI)) (ci := 2) (v := .ref h_t_next) (C := R_Code) (T := F_Code) (N := 3) hx hb ht in_Code hown hK hP 0 rfl rfl 2 (by decide) (ht _ k_179) (fun _ h9 => h9) rfl d_Code_number_130 ?_
        refine lv_iload_n hx hb d_Code_number_133 rfl (lv_at hl 0 rfl) ?_
        refine lv_dup2_11 hx hb d_Code_number_134 rfl rfl ?_
        obtain ⟨g20, h⟩ := gd h
        refine va_iald hx hb hK hP 1 1 rfl rfl g20 d_Code_number_135 ?_
        refine lv_iconst (v := (1 : Int32)) hx hb d_Code_number_136 (by decide) ?_
        refine lv_iadd hx hb d_Code_number_137 ?_
        obtain ⟨g21, h⟩ := gd h
        refine va_iast hx hb hK hP hD hS 1 1 rfl rfl g21 d_Code_number_138 (fun H locs hP hD hS => ?_)
        have hP : va_P (dC, dI) vwCl [(h_t, .inr (2, [.ref h_t_lengths, .ref h_t_bits, .ref h_t_next])), (h_t_next, .inl (cI, 17, .inl (upd f_t_next (f_t_lengths x1.toNatClampNeg).toNatClampNeg ((f_t_next (f_t_lengths x1.toNatClampNeg).toNatClampNeg) + (1 : Int32))))), (h_t_lengths, .inl (cI, n_t_lengths, .inl f_t_lengths)), (h_t_bits, .inl (cI, n_t_bits, .inl (upd f_t_bits x1.toNatClampNeg y18)))] H := hP
        have hD : va_D A [(h_t, .inr (2, [.ref h_t_lengths, .ref h_t_bits, .ref h_t_next])), (h_t_next, .inl (cI, 17, .inl (upd f_t_next (f_t_lengths x1.toNatClampNeg).toNatClampNeg ((f_t_next (f_t_lengths x1.toNatClampNeg).toNatClampNeg) + (1 : Int32))))), (h_t_lengths, .inl (cI, n_t_lengths, .inl f_t_lengths)), (h_t_bits, .inl (cI, n_t_bits, .inl (upd f_t_bits x1.toNatClampNeg y18)))] := hD
        refine lv_iinc (v := x1 + (1 : Int32)) (lv' := [(1, .int (x1 + (1 : Int32))), (2, .int (f_t_lengths x1.toNatClampNeg)), (0, .ref h_t)]) hx hb d_Code_number_139 hl (k := 2) rfl rfl (by decide) rfl (fun ls hl => ?_)
        refine lv_goto (tgt := 93) hx hb d_Code_number_142 (by decide) ?_
        exact ih (x1 + (1 : Int32)) (upd f_t_next (f_t_lengths x1.toNatClampNeg).toNatClampNeg ((f_t_next (f_t_lengths x1.toNatClampNeg).toNatClampNeg) + (1 : Int32))) (upd f_t_bits x1.toNatClampNeg y18) _ _ _ _ hP hD hS (lv_sub hl [2, 0] rfl) h kx
set_option maxHeartbeats 4000000 in
set_option maxRecDepth 100000 in
theorem cCode_number (l : Launch) (dC : Nat → ClassId) (dI : Nat → Nat → Nat) (h_t h_t_lengths h_t_bits h_t_next : Nat) (cB cI cJ : ClassId) (sz : Nat) (N : Nat) (f_t_next : Nat → Int32) (n_t_lengths : Nat) (f_t_lengths : Nat → Int32) (n_t_bits : Nat) (f_t_bits : Nat → Int32) (o : (Nat → Int32) × (Nat → Int32)) (h : fCode_number N f_t_next n_t_lengths f_t_lengths n_t_bits f_t_bits = some o) : Met l y_Code_number w_Code_number ({ frames := 1, cells := 0, slots := 0, locals := 23 } : Room) (va_Pc [.ref h_t] (fun U => U.heap.size = sz ∧ va_P (dC, dI) vwCl [(h_t, .inr (2, [.ref h_t_lengths, .ref h_t_bits, .ref h_t_next])), (h_t_next, .inl (cI, 17, .inl f_t_next)), (h_t_lengths, .inl (cI, n_t_lengths, .inl f_t_lengths)), (h_t_bits, .inl (cI, n_t_bits, .inl f_t_bits))] U.heap ∧ va_K (dC, dI) vwCl [(cB, .byte), (cI, .int), (cJ, .long)] U ∧ va_D (fun _ => True) [(h_t, .inr (2, [.ref h_t_lengths, .ref h_t_bits, .ref h_t_next])), (h_t_next, .inl (cI, 17, .inl f_t_next)), (h_t_lengths, .inl (cI, n_t_lengths, .inl f_t_lengths)), (h_t_bits, .inl (cI, n_t_bits, .inl f_t_bits))] ∧ NW U)) (va_Qv (fun _ : Unit => True) (fun _ t => va_P (dC, dI) vwCl [(h_t, .inr (2, [.ref h_t_lengths, .ref h_t_bits, .ref h_t_next])), (h_t_next, .inl (cI, 17, .inl o.1)), (h_t_lengths, .inl (cI, n_t_lengths, .inl f_t_lengths)), (h_t_bits, .inl (cI, n_t_bits, .inl o.2))] t.heap ∧ va_K (dC, dI) vwCl [(cB, .byte), (cI, .int), (cJ, .long)] t ∧ va_D (va_A [(h_t, .inr (2, [.ref h_t_lengths, .ref h_t_bits, .ref h_t_next])), (h_t_next, .inl (cI, 17, .inl f_t_next)), (h_t_lengths, .inl (cI, n_t_lengths, .inl f_t_lengths)), (h_t_bits, .inl (cI, n_t_bits, .inl f_t_bits))] sz) [(h_t, .inr (2, [.ref h_t_lengths, .ref h_t_bits, .ref h_t_next])), (h_t_next, .inl (cI, 17, .inl o.1)), (h_t_lengths, .inl (cI, n_t_lengths, .inl f_t_lengths)), (h_t_bits, .inl (cI, n_t_bits, .inl o.2))]) (va_A [(h_t, .inr (2, [.ref h_t_lengths, .ref h_t_bits, .ref h_t_next])), (h_t_next, .inl (cI, 17, .inl f_t_next)), (h_t_lengths, .inl (cI, n_t_lengths, .inl f_t_lengths)), (h_t_bits, .inl (cI, n_t_bits, .inl f_t_bits))] sz)) 0 0 (va_A [(h_t, .inr (2, [.ref h_t_lengths, .ref h_t_bits, .ref h_t_next])), (h_t_next, .inl (cI, 17, .inl f_t_next)), (h_t_lengths, .inl (cI, n_t_lengths, .inl f_t_lengths)), (h_t_bits, .inl (cI, n_t_bits, .inl f_t_bits))] sz) := by
  refine Met.ofW (cc := b_Code_number) (maxL := 3) (ret := none) (by decide) rfl ?_
  intro p e s m args below meth c s₁ B hml hv
  obtain ⟨rfl, hsz, hP, hK, hD0, hN⟩ := hv
  have hx := B.exec
  have hb := B.bytes
  have hr := B.returns
  have hts := atoms_spec (ws := w_Code_number) B.pre
  have ht : ∀ w ∈ TB, w.before ([.ref h_t]).toArray s = true := fun w h => hts w (List.mem_cons_of_mem _ h)
  have hown : s.vm.findClass R_Code = some m.cls := findClass_of_methodNamed B.named
  have hlocks := B.notSynchronized
  subst hsz
  have hD := hD0.self (sz := s.heap.size)
  generalize hAe : va_A [(h_t, .inr (2, [.ref h_t_lengths, .ref h_t_bits, .ref h_t_next])), (h_t_next, .inl (cI, 17, .inl f_t_next)), (h_t_lengths, .inl (cI, n_t_lengths, .inl f_t_lengths)), (h_t_bits, .inl (cI, n_t_bits, .inl f_t_bits))] s.heap.size = A at hD ⊢
  have hA : ∀ q : Nat, s.heap.size ≤ q → A q := fun q h => by rw [← hAe]; exact Or.inr h
  have hS : va_S A s.heap s.heap [] := va_S.rf
  have hP : va_P (dC, dI) vwCl [(h_t, .inr (2, [.ref h_t_lengths, .ref h_t_bits, .ref h_t_next])), (h_t_next, .inl (cI, 17, .inl f_t_next)), (h_t_lengths, .inl (cI, n_t_lengths, .inl f_t_lengths)), (h_t_bits, .inl (cI, n_t_bits, .inl f_t_bits))] s.heap := hP
  have C : CX p s m ([.ref h_t]).toArray c b_Code_number 3 R_Code A (dC, dI) [(cB, .byte), (cI, .int), (cJ, .long)] := ⟨hx, hb, hml, hown, ht, hA, hK, hN⟩
  have hl := lv_entry ([.ref h_t]) (n := 3) (Nat.le_of_ble_eq_true rfl)
  rw [lg_entry_eq]
  generalize (lg_sl ([.ref h_t]) ++ List.replicate (3 - (lg_sl ([.ref h_t])).length) Slot.unset).toArray = ls at hl ⊢
  have hl : lv_has ls 3 [(0, .ref h_t)] := hl
  refine lv_aload_n hx hb d_Code_number_0 rfl (lv_at hl 0 rfl) ?_
  refine va_get (D := (dC, dI)) (ci := 2) (v := .ref h_t_next) (C := R_Code) (T := F_Code) (N := 3) hx hb ht in_Code hown hK hP 0 rfl rfl 2 (by decide) (ht _ k_179) (fun _ h9 => h9) rfl d_Code_number_1 ?_
  refine lv_iconst (v := (0 : Int32)) hx hb d_Code_number_4 (by decide) ?_
  obtain ⟨y1, hy1, h⟩ := bd h
  have hPc := hP.sub (ws' := [(h_t_next, .inl (cI, 17, .inl f_t_next))]) [1] rfl
  have hDc := hD.sub (ws' := [(h_t_next, .inl (cI, 17, .inl f_t_next))]) [1] (by decide) rfl
  have hFc := va_free (wc := [(h_t_next, .inl (cI, 17, .inl f_t_next))]) hD hS hA [1] rfl
  refine va_callv (va_runS (As := [.ref h_t_next, .int (0 : Int32)]) (rest := []) ⟨hx, hb, hml, hown, ht⟩ (cJA_fill l dC dI h_t_next cB cI cJ _ N (0 : Int32) 17 f_t_next y1 hy1) (⟨callB_of 2 ht (gTB (k_226)) rfl rfl rfl (ht _ k_71) (ht _ k_282) (by decide +kernel) ⟨Nat.le_of_ble_eq_true rfl, Nat.le_of_ble_eq_true rfl⟩, ht _ k_225⟩) ⟨fun a U g mk q => by obtain ⟨q0, q1, qP, qK, qD, qN⟩ := q; exact ⟨q0, q1, qP, va_K.moved (u := U) (U := U.calling g mk a) (Vm.Alike.refl U.vm) qK, qD, NW_same (u := U) rfl qN⟩, fun U hU hW => ⟨rfl, by rw [hU], by rw [hU]; exact hPc, va_K.moved hW.alike hK, hDc.weaken (fun _ _ _ _ => trivial), NW_warm hW hN⟩⟩ rfl rfl hl.1 rfl (lv_room (Nat.le_of_ble_eq_true rfl)) d_Code_number_5 ⟨Nat.le_of_ble_eq_true rfl, Nat.le_of_ble_eq_true rfl⟩) hS (fun q _ h => hFc q h) hFc (fun u t H1 locs htH hvm hw hB hz1 hk1 hS => ?_)
  obtain ⟨hP1, hK1, hD1⟩ := hB
  rw [htH] at hP1
  obtain ⟨hP, hD⟩ := va_join (wr := [(h_t, .inr (2, [.ref h_t_lengths, .ref h_t_bits, .ref h_t_next])), (h_t_lengths, .inl (cI, n_t_lengths, .inl f_t_lengths)), (h_t_bits, .inl (cI, n_t_bits, .inl f_t_bits))]) (w1 := [(h_t_next, .inl (cI, 17, .inl y1))]) hP hD [1] [0, 2, 3] rfl rfl (by decide) (by decide) hk1 hFc hP1 hD1
  generalize H1 = H at hP hS ⊢
  have hP : va_P (dC, dI) vwCl [(h_t, .inr (2, [.ref h_t_lengths, .ref h_t_bits, .ref h_t_next])), (h_t_next, .inl (cI, 17, .inl y1)), (h_t_lengths, .inl (cI, n_t_lengths, .inl f_t_lengths)), (h_t_bits, .inl (cI, n_t_bits, .inl f_t_bits))] H := hP.sub [0, 3, 1, 2] rfl
  have hD : va_D A [(h_t, .inr (2, [.ref h_t_lengths, .ref h_t_bits, .ref h_t_next])), (h_t_next, .inl (cI, 17, .inl y1)), (h_t_lengths, .inl (cI, n_t_lengths, .inl f_t_lengths)), (h_t_bits, .inl (cI, n_t_bits, .inl f_t_bits))] := hD.sub [0, 3, 1, 2] (by decide) rfl
  refine lv_iconst (v := (0 : Int32)) hx hb d_Code_number_8 (by decide) ?_
  refine lv_istore_n (lv' := [(1, .int (0 : Int32)), (0, .ref h_t)]) hx hb d_Code_number_9 rfl hl (by decide) rfl (fun ls hl => ?_)
  obtain ⟨y8, hy8, h⟩ := bd h
  refine wCode_number_10 h_t h_t_lengths h_t_bits h_t_next cB cI cJ N n_t_lengths f_t_lengths n_t_bits f_t_bits C N (0 : Int32) y1 _ _ _ _ hP hD hS (lv_sub hl [1, 0] rfl) hy8 (fun H locs ls hP hD hS hl => ?_)
  refine lv_iconst (v := (2 : Int32)) hx hb d_Code_number_51 (by decide) ?_
  refine lv_istore_n (lv' := [(1, .int (2 : Int32)), (0, .ref h_t)]) hx hb d_Code_number_52 rfl hl (by decide) rfl (fun ls hl => ?_)
  obtain ⟨y13, hy13, h⟩ := bd h
  refine wCode_number_53 h_t h_t_lengths h_t_bits h_t_next cB cI cJ N n_t_lengths f_t_lengths n_t_bits f_t_bits C N (2 : Int32) y8 _ _ _ _ hP hD hS (lv_sub hl [1, 0] rfl) hy13 (fun H locs ls hP hD hS hl => ?_)
  refine lv_iconst (v := (0 : Int32)) hx hb d_Code_number_91 (by decide) ?_
  refine lv_istore_n (lv' := [(1, .int (0 : Int32)), (0, .ref h_t)]) hx hb d_Code_number_92 rfl hl (by decide) rfl (fun ls hl => ?_)
  obtain ⟨y22, hy22, h⟩ := bd h
  refine wCode_number_93 h_t h_t_lengths h_t_bits h_t_next cB cI cJ N n_t_lengths f_t_lengths n_t_bits C N (0 : Int32) y13 f_t_bits _ _ _ _ hP hD hS (lv_sub hl [1, 0] rfl) hy22 (fun H locs ls hP hD hS hl => ?_)
  obtain rfl := Option.some.inj h
  exact W.vret hx hb hr (fun t ht hW => ⟨⟨(), rfl, trivial, by rw [ht]; exact hP, va_K.moved hW.alike hK, hD⟩, hS.F ht⟩) hS.2.2 d_Code_number_145
/-! PackedBytes$Code.bitsFor([I)I -/
def fCode_bitsFor_16 (N : Nat) (n_p1 : Nat) (f_p1 : Nat → Int32) (n_t_lengths : Nat) (f_t_lengths : Nat → Int32) (x2 : Int32) : Nat → (Int32) → (Int32) → Option (Int32)
  | 0, _, _ => none
  | k + 1, x3, x4 =>
    if x2 ≤ x4 then
      some x3
    else
      if ¬ (x4 < 0 ∨ n_p1 ≤ x4.toNatClampNeg) then
        if ¬ (x4 < 0 ∨ n_t_lengths ≤ x4.toNatClampNeg) then
          fCode_bitsFor_16 N n_p1 f_p1 n_t_lengths f_t_lengths x2 k (x3 + ((f_p1 x4.toNatClampNeg) * (f_t_lengths x4.toNatClampNeg))) (x4 + (1 : Int32))
        else none
      else none
def fCode_bitsFor (N : Nat) (n_p1 : Nat) (f_p1 : Nat → Int32) (n_t_lengths : Nat) (f_t_lengths : Nat → Int32) : Option (Int32) :=
    (fCode_bitsFor_16 N n_p1 f_p1 n_t_lengths f_t_lengths (if (nI n_t_lengths) < (nI n_p1) then (nI n_t_lengths) else (nI n_p1)) N (0 : Int32) (0 : Int32)).bind (fun y4 =>
      some y4)
set_option maxHeartbeats 4000000 in
set_option maxRecDepth 100000 in
theorem wCode_bitsFor_16 {p : Program} {l : Launch} {e : Env} {s : State} {m : MethodId} {args : Array Value} {below : List Frame} {meth : Method} {c : Code} {Q : State → Prop} {A : Nat → Prop} {dC : Nat → ClassId} {dI : Nat → Nat → Nat} (h_t h_t_lengths h_t_bits h_t_next h_p1 : Nat) (cB cI cJ : ClassId) (N : Nat) (n_p1 : Nat) (f_p1 : Nat → Int32) (n_t_lengths : Nat) (f_t_lengths : Nat → Int32) (x2 : Int32) (C : CX p s m args c b_Code_bitsFor 5 R_Code A (dC, dI) [(cB, .byte), (cI, .int), (cJ, .long)]) :
    ∀ (n : Nat) (x3 : Int32) (x4 : Int32) (H : Heap) (locs : List Loc) (ls : Array Slot) (o : Int32), va_P (dC, dI) vwCl [(h_t, .inr (2, [.ref h_t_lengths, .ref h_t_bits, .ref h_t_next])), (h_p1, .inl (cI, n_p1, .inl f_p1)), (h_t_lengths, .inl (cI, n_t_lengths, .inl f_t_lengths))] H → va_D A [(h_t, .inr (2, [.ref h_t_lengths, .ref h_t_bits, .ref h_t_next])), (h_p1, .inl (cI, n_p1, .inl f_p1)), (h_t_lengths, .inl (cI, n_t_lengths, .inl f_t_lengths))] → va_S A s.heap H locs → lv_has ls 5 [(0, .ref h_t), (1, .ref h_p1), (2, .int x2), (3, .int x3), (4, .int x4)] → fCode_bitsFor_16 N n_p1 f_p1 n_t_lengths f_t_lengths x2 n x3 x4 = some o → (∀ (H : Heap) (locs : List Loc) (ls : Array Slot), va_P (dC, dI) vwCl [(h_t, .inr (2, [.ref h_t_lengths, .ref h_t_bits, .ref h_t_next])), (h_p1, .inl (cI, n_p1, .inl f_p1)), (h_t_lengths, .inl (cI, n_t_lengths, .inl f_t_lengths))] H → va_D A [(h_t, .inr (2, [.ref h_t_lengths, .ref h_t_bits, .ref h_t_next])), (h_p1, .inl (cI, n_p1, .inl f_p1)), (h_t_lengths, .inl (cI, n_t_lengths, .inl f_t_lengths))] → va_S A s.heap H locs → lv_has ls 5 [(3, .int o)] → W p l e ({ frames := 1, cells := 0, slots := 0, locals := 14 } : Room) s m args below meth c H locs 0 0 Q (F0 m 43 ls [])) → W p l e ({ frames := 1, cells := 0, slots := 0, locals := 14 } : Room) s m args below meth c H locs 0 0 Q (F0 m 16 ls []) := by
  obtain ⟨hx, hb, hml, hown, ht, hA, hK, hN⟩ := id C
  intro n
  induction n with
  | zero => intro x3 x4 H locs ls o _ _ _ _ h; exact nomatch h
  | succ k ih =>
    intro x3 x4 H locs ls o hP hD hS hl h kx
    refine lv_iload hx hb d_Code_bitsFor_16 (lv_at hl 4 rfl) ?_
    refine lv_iload_n hx hb d_Code_bitsFor_18 rfl (lv_at hl 2 rfl) ?_
    refine lv_icmp_ge (tgt := 43) hx hb d_Code_bitsFor_19 (by decide) (fun c1 => ?_) (fun c1 => ?_)
    · replace h := ip_p c1 h
      obtain rfl := Option.some.inj h
      exact kx _ _ _ hP hD hS (lv_sub hl [3] rfl)
    · replace h := ip_n c1 h
      refine lv_iload_n hx hb d_Code_bitsFor_22 rfl (lv_at hl 3 rfl) ?_
      refine lv_aload_n hx hb d_Code_bitsFor_23 rfl (lv_at hl 1 rfl) ?_
      refine lv_iload hx hb d_Code_bitsFor_24 (lv_at hl 4 rfl) ?_
      obtain ⟨g2, h⟩ := gd h
      refine va_iald hx hb hK hP 1 1 rfl rfl g2 d_Code_bitsFor_26 ?_
      refine lv_aload_n hx hb d_Code_bitsFor_27 rfl (lv_at hl 0 rfl) ?_
      refine va_get (D := (dC, dI)) (ci := 2) (v := .ref h_t_lengths) (C := R_Code) (T := F_Code) (N := 3) hx hb ht in_Code hown hK hP 0 rfl rfl 0 (by decide) (ht _ k_173) (fun _ h9 => h9) rfl d_Code_bitsFor_28 ?_
      refine lv_iload hx hb d_Code_bitsFor_31 (lv_at hl 4 rfl) ?_
      obtain ⟨g3, h⟩ := gd h
      refine va_iald hx hb hK hP 2 1 rfl rfl g3 d_Code_bitsFor_33 ?_
      refine lv_imul hx hb d_Code_bitsFor_34 ?_
      refine lv_iadd hx hb d_Code_bitsFor_35 ?_
      refine lv_istore_n (lv' := [(3, .int (x3 + ((f_p1 x4.toNatClampNeg) * (f_t_lengths x4.toNatClampNeg)))), (0, .ref h_t), (1, .ref h_p1), (2, .int x2), (4, .int x4)]) hx hb d_Code_bitsFor_36 rfl hl (by decide) rfl (fun ls hl => ?_)
      refine lv_iinc (v := x4 + (1 : Int32)) (lv' := [(4, .int (x4 + (1 : Int32))), (3, .int (x3 + ((f_p1 x4.toNatClampNeg) * (f_t_lengths x4.toNatClampNeg)))), (0, .ref h_t), (1, .ref h_p1), (2, .int x2)]) hx hb d_Code_bitsFor_37 hl (k := 4) rfl rfl (by decide) rfl (fun ls hl => ?_)
      refine lv_goto (tgt := 16) hx hb d_Code_bitsFor_40 (by decide) ?_
      exact ih (x3 + ((f_p1 x4.toNatClampNeg) * (f_t_lengths x4.toNatClampNeg))) (x4 + (1 : Int32)) _ _ _ _ hP hD hS (lv_sub hl [2, 3, 4, 1, 0] rfl) h kx
set_option maxHeartbeats 4000000 in
set_option maxRecDepth 100000 in
theorem cCode_bitsFor (l : Launch) (dC : Nat → ClassId) (dI : Nat → Nat → Nat) (h_t h_t_lengths h_t_bits h_t_next h_p1 : Nat) (cB cI cJ : ClassId) (sz : Nat) (N : Nat) (n_p1 : Nat) (f_p1 : Nat → Int32) (n_t_lengths : Nat) (f_t_lengths : Nat → Int32) (o : Int32) (h : fCode_bitsFor N n_p1 f_p1 n_t_lengths f_t_lengths = some o) : Met l y_Code_bitsFor w_Code_bitsFor ({ frames := 1, cells := 0, slots := 0, locals := 14 } : Room) (va_Pc [.ref h_t, .ref h_p1] (fun U => U.heap.size = sz ∧ va_P (dC, dI) vwCl [(h_t, .inr (2, [.ref h_t_lengths, .ref h_t_bits, .ref h_t_next])), (h_p1, .inl (cI, n_p1, .inl f_p1)), (h_t_lengths, .inl (cI, n_t_lengths, .inl f_t_lengths))] U.heap ∧ va_K (dC, dI) vwCl [(cB, .byte), (cI, .int), (cJ, .long)] U ∧ va_D (fun _ => True) [(h_t, .inr (2, [.ref h_t_lengths, .ref h_t_bits, .ref h_t_next])), (h_p1, .inl (cI, n_p1, .inl f_p1)), (h_t_lengths, .inl (cI, n_t_lengths, .inl f_t_lengths))] ∧ NW U)) (va_Qi (fun r (_ : Unit) => r = o) (fun _ t => va_P (dC, dI) vwCl [(h_t, .inr (2, [.ref h_t_lengths, .ref h_t_bits, .ref h_t_next])), (h_p1, .inl (cI, n_p1, .inl f_p1)), (h_t_lengths, .inl (cI, n_t_lengths, .inl f_t_lengths))] t.heap ∧ va_K (dC, dI) vwCl [(cB, .byte), (cI, .int), (cJ, .long)] t ∧ va_D (va_A [(h_t, .inr (2, [.ref h_t_lengths, .ref h_t_bits, .ref h_t_next])), (h_p1, .inl (cI, n_p1, .inl f_p1)), (h_t_lengths, .inl (cI, n_t_lengths, .inl f_t_lengths))] sz) [(h_t, .inr (2, [.ref h_t_lengths, .ref h_t_bits, .ref h_t_next])), (h_p1, .inl (cI, n_p1, .inl f_p1)), (h_t_lengths, .inl (cI, n_t_lengths, .inl f_t_lengths))]) (va_A [(h_t, .inr (2, [.ref h_t_lengths, .ref h_t_bits, .ref h_t_next])), (h_p1, .inl (cI, n_p1, .inl f_p1)), (h_t_lengths, .inl (cI, n_t_lengths, .inl f_t_lengths))] sz)) 0 0 (va_A [(h_t, .inr (2, [.ref h_t_lengths, .ref h_t_bits, .ref h_t_next])), (h_p1, .inl (cI, n_p1, .inl f_p1)), (h_t_lengths, .inl (cI, n_t_lengths, .inl f_t_lengths))] sz) := by
  refine Met.ofW (cc := b_Code_bitsFor) (maxL := 5) (ret := (some .int)) (by decide) rfl ?_
  intro p e s m args below meth c s₁ B hml hv
  obtain ⟨rfl, hsz, hP, hK, hD0, hN⟩ := hv
  have hx := B.exec
  have hb := B.bytes
  have hr := B.returns
  have hts := atoms_spec (ws := w_Code_bitsFor) B.pre
  have ht : ∀ w ∈ TB, w.before ([.ref h_t, .ref h_p1]).toArray s = true := fun w h => hts w (List.mem_cons_of_mem _ h)
  have hown : s.vm.findClass R_Code = some m.cls := findClass_of_methodNamed B.named
  have hlocks := B.notSynchronized
  subst hsz
  have hD := hD0.self (sz := s.heap.size)
  generalize hAe : va_A [(h_t, .inr (2, [.ref h_t_lengths, .ref h_t_bits, .ref h_t_next])), (h_p1, .inl (cI, n_p1, .inl f_p1)), (h_t_lengths, .inl (cI, n_t_lengths, .inl f_t_lengths))] s.heap.size = A at hD ⊢
  have hA : ∀ q : Nat, s.heap.size ≤ q → A q := fun q h => by rw [← hAe]; exact Or.inr h
  have hS : va_S A s.heap s.heap [] := va_S.rf
  have hP : va_P (dC, dI) vwCl [(h_t, .inr (2, [.ref h_t_lengths, .ref h_t_bits, .ref h_t_next])), (h_p1, .inl (cI, n_p1, .inl f_p1)), (h_t_lengths, .inl (cI, n_t_lengths, .inl f_t_lengths))] s.heap := hP
  have C : CX p s m ([.ref h_t, .ref h_p1]).toArray c b_Code_bitsFor 5 R_Code A (dC, dI) [(cB, .byte), (cI, .int), (cJ, .long)] := ⟨hx, hb, hml, hown, ht, hA, hK, hN⟩
  have hl := lv_entry ([.ref h_t, .ref h_p1]) (n := 5) (Nat.le_of_ble_eq_true rfl)
  rw [lg_entry_eq]
  generalize (lg_sl ([.ref h_t, .ref h_p1]) ++ List.replicate (5 - (lg_sl ([.ref h_t, .ref h_p1])).length) Slot.unset).toArray = ls at hl ⊢
  have hl : lv_has ls 5 [(0, .ref h_t), (1, .ref h_p1)] := hl
  refine lv_aload_n hx hb d_Code_bitsFor_0 rfl (lv_at hl 1 rfl) ?_
  refine va_alen (v := nI n_p1) hx hb hK hP 1 1 rfl rfl rfl d_Code_bitsFor_1 ?_
  refine lv_aload_n hx hb d_Code_bitsFor_2 rfl (lv_at hl 0 rfl) ?_
  refine va_get (D := (dC, dI)) (ci := 2) (v := .ref h_t_lengths) (C := R_Code) (T := F_Code) (N := 3) hx hb ht in_Code hown hK hP 0 rfl rfl 0 (by decide) (ht _ k_173) (fun _ h9 => h9) rfl d_Code_bitsFor_3 ?_
  refine va_alen (v := nI n_t_lengths) hx hb hK hP 2 1 rfl rfl rfl d_Code_bitsFor_6 ?_
  refine va_mmin hx hb (hml.trans hl.1.symm) hown (ht _ k_586) (ht _ k_461) (ht _ k_83) (ht _ k_462) (Nat.le_of_ble_eq_true rfl) (Nat.le_of_ble_eq_true rfl) (Nat.le_of_ble_eq_true rfl) (Nat.le_of_ble_eq_true rfl) d_Code_bitsFor_7 ?_
  refine lv_istore_n (lv' := [(2, .int (if (nI n_t_lengths) < (nI n_p1) then (nI n_t_lengths) else (nI n_p1))), (0, .ref h_t), (1, .ref h_p1)]) hx hb d_Code_bitsFor_10 rfl hl (by decide) rfl (fun ls hl => ?_)
  refine lv_iconst (v := (0 : Int32)) hx hb d_Code_bitsFor_11 (by decide) ?_
  refine lv_istore_n (lv' := [(3, .int (0 : Int32)), (2, .int (if (nI n_t_lengths) < (nI n_p1) then (nI n_t_lengths) else (nI n_p1))), (0, .ref h_t), (1, .ref h_p1)]) hx hb d_Code_bitsFor_12 rfl hl (by decide) rfl (fun ls hl => ?_)
  refine lv_iconst (v := (0 : Int32)) hx hb d_Code_bitsFor_13 (by decide) ?_
  refine lv_istore (lv' := [(4, .int (0 : Int32)), (3, .int (0 : Int32)), (2, .int (if (nI n_t_lengths) < (nI n_p1) then (nI n_t_lengths) else (nI n_p1))), (0, .ref h_t), (1, .ref h_p1)]) hx hb d_Code_bitsFor_14 hl (by decide) rfl (fun ls hl => ?_)
  obtain ⟨y4, hy4, h⟩ := bd h
  refine wCode_bitsFor_16 h_t h_t_lengths h_t_bits h_t_next h_p1 cB cI cJ N n_p1 f_p1 n_t_lengths f_t_lengths (if (nI n_t_lengths) < (nI n_p1) then (nI n_t_lengths) else (nI n_p1)) C N (0 : Int32) (0 : Int32) _ _ _ _ hP hD hS (lv_sub hl [3, 4, 2, 1, 0] rfl) hy4 (fun H locs ls hP hD hS hl => ?_)
  refine lv_iload_n hx hb d_Code_bitsFor_43 rfl (lv_at hl 0 rfl) ?_
  obtain rfl := Option.some.inj h
  exact W.iret (v := y4) hx hb hr (fun t ht hW => ⟨⟨_, (), rfl, rfl, by rw [ht]; exact hP, va_K.moved hW.alike hK, hD⟩, hS.F ht⟩) hS.2.2 d_Code_bitsFor_44
