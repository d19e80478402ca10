-- ===== PART A: goes FIRST, ahead of the names: the tables' words, and 'selects' of the private methods out of them =====
/-- a private method of a class that the tables say can be made, by its rows of tables_1 -/
def lw_okq (q : MethodName × Nat) : Prop := (q.1.cls ≠ "java/lang/invoke/MethodHandle" ∧ q.1.cls ≠ "java/lang/invoke/VarHandle") ∧ Cond.instantiable q.1.cls q.2 ∈ tables_1 ∧ Cond.privateMethod q.1 ∈ tables_1 ∧ Cond.instanceMethod q.1 ∈ tables_1
theorem lw_p0 : lw_okq (⟨"PackedBytes$Matcher", "findMatch", "(II)V"⟩, 8) := ⟨⟨by decide +kernel, by decide +kernel⟩, List.mem_of_getElem? (i := 180) (by decide +kernel), List.mem_of_getElem? (i := 400) (by decide +kernel), List.mem_of_getElem? (i := 401) (by decide +kernel)⟩
theorem lw_p1 : lw_okq (⟨"PackedBytes$Matcher", "hash", "(I)I"⟩, 8) := ⟨⟨by decide +kernel, by decide +kernel⟩, List.mem_of_getElem? (i := 180) (by decide +kernel), List.mem_of_getElem? (i := 404) (by decide +kernel), List.mem_of_getElem? (i := 405) (by decide +kernel)⟩
theorem lw_p2 : lw_okq (⟨"PackedBytes$Matcher", "sameThree", "(II)Z"⟩, 8) := ⟨⟨by decide +kernel, by decide +kernel⟩, List.mem_of_getElem? (i := 180) (by decide +kernel), List.mem_of_getElem? (i := 410) (by decide +kernel), List.mem_of_getElem? (i := 411) (by decide +kernel)⟩
theorem lw_p3 : lw_okq (⟨"PackedBytes$Matcher", "compare", "(III)V"⟩, 8) := ⟨⟨by decide +kernel, by decide +kernel⟩, List.mem_of_getElem? (i := 180) (by decide +kernel), List.mem_of_getElem? (i := 414) (by decide +kernel), List.mem_of_getElem? (i := 415) (by decide +kernel)⟩
theorem lw_p4 : lw_okq (⟨"PackedBytes$Matcher", "remember", "(II)V"⟩, 8) := ⟨⟨by decide +kernel, by decide +kernel⟩, List.mem_of_getElem? (i := 180) (by decide +kernel), List.mem_of_getElem? (i := 421) (by decide +kernel), List.mem_of_getElem? (i := 422) (by decide +kernel)⟩
theorem lw_p5 : lw_okq (⟨"PackedBytes$Packer", "countSymbols", "()V"⟩, 13) := ⟨⟨by decide +kernel, by decide +kernel⟩, List.mem_of_getElem? (i := 57) (by decide +kernel), List.mem_of_getElem? (i := 425) (by decide +kernel), List.mem_of_getElem? (i := 426) (by decide +kernel)⟩
theorem lw_p6 : lw_okq (⟨"PackedBytes$Packer", "makeOwnCodes", "()V"⟩, 13) := ⟨⟨by decide +kernel, by decide +kernel⟩, List.mem_of_getElem? (i := 57) (by decide +kernel), List.mem_of_getElem? (i := 437) (by decide +kernel), List.mem_of_getElem? (i := 438) (by decide +kernel)⟩
theorem lw_p7 : lw_okq (⟨"PackedBytes$Trees", "sortLeaves", "(I)V"⟩, 9) := ⟨⟨by decide +kernel, by decide +kernel⟩, List.mem_of_getElem? (i := 63) (by decide +kernel), List.mem_of_getElem? (i := 449) (by decide +kernel), List.mem_of_getElem? (i := 450) (by decide +kernel)⟩
theorem lw_p8 : lw_okq (⟨"PackedBytes$Trees", "insertLeaf", "(I)V"⟩, 9) := ⟨⟨by decide +kernel, by decide +kernel⟩, List.mem_of_getElem? (i := 63) (by decide +kernel), List.mem_of_getElem? (i := 453) (by decide +kernel), List.mem_of_getElem? (i := 454) (by decide +kernel)⟩
theorem lw_p9 : lw_okq (⟨"PackedBytes$Trees", "joinAll", "()V"⟩, 9) := ⟨⟨by decide +kernel, by decide +kernel⟩, List.mem_of_getElem? (i := 63) (by decide +kernel), List.mem_of_getElem? (i := 457) (by decide +kernel), List.mem_of_getElem? (i := 458) (by decide +kernel)⟩
theorem lw_p10 : lw_okq (⟨"PackedBytes$Trees", "takeLeast", "()I"⟩, 9) := ⟨⟨by decide +kernel, by decide +kernel⟩, List.mem_of_getElem? (i := 63) (by decide +kernel), List.mem_of_getElem? (i := 461) (by decide +kernel), List.mem_of_getElem? (i := 462) (by decide +kernel)⟩
theorem lw_p11 : lw_okq (⟨"PackedBytes$Trees", "deepest", "()I"⟩, 9) := ⟨⟨by decide +kernel, by decide +kernel⟩, List.mem_of_getElem? (i := 63) (by decide +kernel), List.mem_of_getElem? (i := 465) (by decide +kernel), List.mem_of_getElem? (i := 466) (by decide +kernel)⟩
theorem lw_p12 : lw_okq (⟨"PackedBytes$Trees", "halve", "(I)V"⟩, 9) := ⟨⟨by decide +kernel, by decide +kernel⟩, List.mem_of_getElem? (i := 63) (by decide +kernel), List.mem_of_getElem? (i := 470) (by decide +kernel), List.mem_of_getElem? (i := 471) (by decide +kernel)⟩
theorem lw_p13 : lw_okq (⟨"PackedBytes$Header", "listItems", "(I)V"⟩, 8) := ⟨⟨by decide +kernel, by decide +kernel⟩, List.mem_of_getElem? (i := 98) (by decide +kernel), List.mem_of_getElem? (i := 483) (by decide +kernel), List.mem_of_getElem? (i := 484) (by decide +kernel)⟩
theorem lw_p14 : lw_okq (⟨"PackedBytes$Header", "run", "(III)I"⟩, 8) := ⟨⟨by decide +kernel, by decide +kernel⟩, List.mem_of_getElem? (i := 98) (by decide +kernel), List.mem_of_getElem? (i := 489) (by decide +kernel), List.mem_of_getElem? (i := 490) (by decide +kernel)⟩
theorem lw_p15 : lw_okq (⟨"PackedBytes$Header", "addItem", "(II)V"⟩, 8) := ⟨⟨by decide +kernel, by decide +kernel⟩, List.mem_of_getElem? (i := 98) (by decide +kernel), List.mem_of_getElem? (i := 493) (by decide +kernel), List.mem_of_getElem? (i := 494) (by decide +kernel)⟩
def lw_privs_1 : List (MethodName × Nat) := [(⟨"PackedBytes$Matcher", "findMatch", "(II)V"⟩, 8), (⟨"PackedBytes$Matcher", "hash", "(I)I"⟩, 8), (⟨"PackedBytes$Matcher", "sameThree", "(II)Z"⟩, 8), (⟨"PackedBytes$Matcher", "compare", "(III)V"⟩, 8), (⟨"PackedBytes$Matcher", "remember", "(II)V"⟩, 8), (⟨"PackedBytes$Packer", "countSymbols", "()V"⟩, 13), (⟨"PackedBytes$Packer", "makeOwnCodes", "()V"⟩, 13), (⟨"PackedBytes$Trees", "sortLeaves", "(I)V"⟩, 9), (⟨"PackedBytes$Trees", "insertLeaf", "(I)V"⟩, 9), (⟨"PackedBytes$Trees", "joinAll", "()V"⟩, 9), (⟨"PackedBytes$Trees", "takeLeast", "()I"⟩, 9), (⟨"PackedBytes$Trees", "deepest", "()I"⟩, 9), (⟨"PackedBytes$Trees", "halve", "(I)V"⟩, 9), (⟨"PackedBytes$Header", "listItems", "(I)V"⟩, 8), (⟨"PackedBytes$Header", "run", "(III)I"⟩, 8), (⟨"PackedBytes$Header", "addItem", "(II)V"⟩, 8)]
theorem lw_r1 : ∀ q ∈ lw_privs_1, lw_okq q := List.forall_mem_cons.mpr ⟨lw_p0, List.forall_mem_cons.mpr ⟨lw_p1, List.forall_mem_cons.mpr ⟨lw_p2, List.forall_mem_cons.mpr ⟨lw_p3, List.forall_mem_cons.mpr ⟨lw_p4, List.forall_mem_cons.mpr ⟨lw_p5, List.forall_mem_cons.mpr ⟨lw_p6, List.forall_mem_cons.mpr ⟨lw_p7, List.forall_mem_cons.mpr ⟨lw_p8, List.forall_mem_cons.mpr ⟨lw_p9, List.forall_mem_cons.mpr ⟨lw_p10, List.forall_mem_cons.mpr ⟨lw_p11, List.forall_mem_cons.mpr ⟨lw_p12, List.forall_mem_cons.mpr ⟨lw_p13, List.forall_mem_cons.mpr ⟨lw_p14, List.forall_mem_cons.mpr ⟨lw_p15, fun _ h => absurd h List.not_mem_nil⟩⟩⟩⟩⟩⟩⟩⟩⟩⟩⟩⟩⟩⟩⟩⟩
theorem lw_p16 : lw_okq (⟨"PackedBytes$Packer", "fillReport", "()V"⟩, 13) := ⟨⟨by decide +kernel, by decide +kernel⟩, List.mem_of_getElem? (i := 57) (by decide +kernel), List.mem_of_getElem? (i := 501) (by decide +kernel), List.mem_of_getElem? (i := 502) (by decide +kernel)⟩
theorem lw_p17 : lw_okq (⟨"PackedBytes$Packer", "moreBits", "()I"⟩, 13) := ⟨⟨by decide +kernel, by decide +kernel⟩, List.mem_of_getElem? (i := 57) (by decide +kernel), List.mem_of_getElem? (i := 505) (by decide +kernel), List.mem_of_getElem? (i := 506) (by decide +kernel)⟩
theorem lw_p18 : lw_okq (⟨"PackedBytes$Packer", "storedBlocks", "()I"⟩, 13) := ⟨⟨by decide +kernel, by decide +kernel⟩, List.mem_of_getElem? (i := 57) (by decide +kernel), List.mem_of_getElem? (i := 513) (by decide +kernel), List.mem_of_getElem? (i := 514) (by decide +kernel)⟩
theorem lw_p19 : lw_okq (⟨"PackedBytes$Packer", "writeStored", "()V"⟩, 13) := ⟨⟨by decide +kernel, by decide +kernel⟩, List.mem_of_getElem? (i := 57) (by decide +kernel), List.mem_of_getElem? (i := 537) (by decide +kernel), List.mem_of_getElem? (i := 538) (by decide +kernel)⟩
theorem lw_p20 : lw_okq (⟨"PackedBytes$Packer", "writeTokens", "(LPackedBytes$Code;LPackedBytes$Code;)V"⟩, 13) := ⟨⟨by decide +kernel, by decide +kernel⟩, List.mem_of_getElem? (i := 57) (by decide +kernel), List.mem_of_getElem? (i := 558) (by decide +kernel), List.mem_of_getElem? (i := 559) (by decide +kernel)⟩
theorem lw_p21 : lw_okq (⟨"PackedBytes$Packer", "writeMatch", "(IILPackedBytes$Code;LPackedBytes$Code;)V"⟩, 13) := ⟨⟨by decide +kernel, by decide +kernel⟩, List.mem_of_getElem? (i := 57) (by decide +kernel), List.mem_of_getElem? (i := 562) (by decide +kernel), List.mem_of_getElem? (i := 563) (by decide +kernel)⟩
theorem lw_p22 : lw_okq (⟨"java/lang/Throwable", "fillInStackTrace", "(I)Ljava/lang/Throwable;"⟩, 6) := ⟨⟨by decide +kernel, by decide +kernel⟩, List.mem_of_getElem? (i := 627) (by decide +kernel), List.mem_of_getElem? (i := 625) (by decide +kernel), List.mem_of_getElem? (i := 626) (by decide +kernel)⟩
theorem lw_p23 : lw_okq (⟨"PackedBytes$Unpacker", "readBlock", "()Z"⟩, 13) := ⟨⟨by decide +kernel, by decide +kernel⟩, List.mem_of_getElem? (i := 264) (by decide +kernel), List.mem_of_getElem? (i := 757) (by decide +kernel), List.mem_of_getElem? (i := 758) (by decide +kernel)⟩
theorem lw_p24 : lw_okq (⟨"PackedBytes$Unpacker", "wrong", "(II)Z"⟩, 13) := ⟨⟨by decide +kernel, by decide +kernel⟩, List.mem_of_getElem? (i := 264) (by decide +kernel), List.mem_of_getElem? (i := 765) (by decide +kernel), List.mem_of_getElem? (i := 766) (by decide +kernel)⟩
theorem lw_p25 : lw_okq (⟨"PackedBytes$Unpacker", "readStored", "()Z"⟩, 13) := ⟨⟨by decide +kernel, by decide +kernel⟩, List.mem_of_getElem? (i := 264) (by decide +kernel), List.mem_of_getElem? (i := 769) (by decide +kernel), List.mem_of_getElem? (i := 770) (by decide +kernel)⟩
theorem lw_p26 : lw_okq (⟨"PackedBytes$Unpacker", "readTokens", "(LPackedBytes$Decoder;LPackedBytes$Decoder;)Z"⟩, 13) := ⟨⟨by decide +kernel, by decide +kernel⟩, List.mem_of_getElem? (i := 264) (by decide +kernel), List.mem_of_getElem? (i := 784) (by decide +kernel), List.mem_of_getElem? (i := 785) (by decide +kernel)⟩
theorem lw_p27 : lw_okq (⟨"PackedBytes$Unpacker", "readMatch", "(IILPackedBytes$Decoder;)Z"⟩, 13) := ⟨⟨by decide +kernel, by decide +kernel⟩, List.mem_of_getElem? (i := 264) (by decide +kernel), List.mem_of_getElem? (i := 792) (by decide +kernel), List.mem_of_getElem? (i := 793) (by decide +kernel)⟩
theorem lw_p28 : lw_okq (⟨"PackedBytes$Unpacker", "readDistance", "(ILPackedBytes$Decoder;)I"⟩, 13) := ⟨⟨by decide +kernel, by decide +kernel⟩, List.mem_of_getElem? (i := 264) (by decide +kernel), List.mem_of_getElem? (i := 798) (by decide +kernel), List.mem_of_getElem? (i := 799) (by decide +kernel)⟩
theorem lw_p29 : lw_okq (⟨"PackedBytes$Unpacker", "readOwnCodes", "()Z"⟩, 13) := ⟨⟨by decide +kernel, by decide +kernel⟩, List.mem_of_getElem? (i := 264) (by decide +kernel), List.mem_of_getElem? (i := 806) (by decide +kernel), List.mem_of_getElem? (i := 807) (by decide +kernel)⟩
theorem lw_p30 : lw_okq (⟨"PackedBytes$Unpacker", "readCodeLengths", "(I)Z"⟩, 13) := ⟨⟨by decide +kernel, by decide +kernel⟩, List.mem_of_getElem? (i := 264) (by decide +kernel), List.mem_of_getElem? (i := 810) (by decide +kernel), List.mem_of_getElem? (i := 811) (by decide +kernel)⟩
theorem lw_p31 : lw_okq (⟨"PackedBytes$Unpacker", "readLengths", "(II)Z"⟩, 13) := ⟨⟨by decide +kernel, by decide +kernel⟩, List.mem_of_getElem? (i := 264) (by decide +kernel), List.mem_of_getElem? (i := 820) (by decide +kernel), List.mem_of_getElem? (i := 821) (by decide +kernel)⟩
def lw_privs_2 : List (MethodName × Nat) := [(⟨"PackedBytes$Packer", "fillReport", "()V"⟩, 13), (⟨"PackedBytes$Packer", "moreBits", "()I"⟩, 13), (⟨"PackedBytes$Packer", "storedBlocks", "()I"⟩, 13), (⟨"PackedBytes$Packer", "writeStored", "()V"⟩, 13), (⟨"PackedBytes$Packer", "writeTokens", "(LPackedBytes$Code;LPackedBytes$Code;)V"⟩, 13), (⟨"PackedBytes$Packer", "writeMatch", "(IILPackedBytes$Code;LPackedBytes$Code;)V"⟩, 13), (⟨"java/lang/Throwable", "fillInStackTrace", "(I)Ljava/lang/Throwable;"⟩, 6), (⟨"PackedBytes$Unpacker", "readBlock", "()Z"⟩, 13), (⟨"PackedBytes$Unpacker", "wrong", "(II)Z"⟩, 13), (⟨"PackedBytes$Unpacker", "readStored", "()Z"⟩, 13), (⟨"PackedBytes$Unpacker", "readTokens", "(LPackedBytes$Decoder;LPackedBytes$Decoder;)Z"⟩, 13), (⟨"PackedBytes$Unpacker", "readMatch", "(IILPackedBytes$Decoder;)Z"⟩, 13), (⟨"PackedBytes$Unpacker", "readDistance", "(ILPackedBytes$Decoder;)I"⟩, 13), (⟨"PackedBytes$Unpacker", "readOwnCodes", "()Z"⟩, 13), (⟨"PackedBytes$Unpacker", "readCodeLengths", "(I)Z"⟩, 13), (⟨"PackedBytes$Unpacker", "readLengths", "(II)Z"⟩, 13)]
theorem lw_r2 : ∀ q ∈ lw_privs_2, lw_okq q := List.forall_mem_cons.mpr ⟨lw_p16, List.forall_mem_cons.mpr ⟨lw_p17, List.forall_mem_cons.mpr ⟨lw_p18, List.forall_mem_cons.mpr ⟨lw_p19, List.forall_mem_cons.mpr ⟨lw_p20, List.forall_mem_cons.mpr ⟨lw_p21, List.forall_mem_cons.mpr ⟨lw_p22, List.forall_mem_cons.mpr ⟨lw_p23, List.forall_mem_cons.mpr ⟨lw_p24, List.forall_mem_cons.mpr ⟨lw_p25, List.forall_mem_cons.mpr ⟨lw_p26, List.forall_mem_cons.mpr ⟨lw_p27, List.forall_mem_cons.mpr ⟨lw_p28, List.forall_mem_cons.mpr ⟨lw_p29, List.forall_mem_cons.mpr ⟨lw_p30, List.forall_mem_cons.mpr ⟨lw_p31, fun _ h => absurd h List.not_mem_nil⟩⟩⟩⟩⟩⟩⟩⟩⟩⟩⟩⟩⟩⟩⟩⟩
theorem lw_p32 : lw_okq (⟨"PackedBytes$Unpacker", "readLength", "(II)I"⟩, 13) := ⟨⟨by decide +kernel, by decide +kernel⟩, List.mem_of_getElem? (i := 264) (by decide +kernel), List.mem_of_getElem? (i := 824) (by decide +kernel), List.mem_of_getElem? (i := 825) (by decide +kernel)⟩
theorem lw_p33 : lw_okq (⟨"PackedBytesModel", "findTokens", "()V"⟩, 45) := ⟨⟨by decide +kernel, by decide +kernel⟩, List.mem_of_getElem? (i := 873) (by decide +kernel), List.mem_of_getElem? (i := 1052) (by decide +kernel), List.mem_of_getElem? (i := 1053) (by decide +kernel)⟩
theorem lw_p34 : lw_okq (⟨"PackedBytesModel", "enter", "(II)I"⟩, 45) := ⟨⟨by decide +kernel, by decide +kernel⟩, List.mem_of_getElem? (i := 873) (by decide +kernel), List.mem_of_getElem? (i := 1056) (by decide +kernel), List.mem_of_getElem? (i := 1057) (by decide +kernel)⟩
theorem lw_p35 : lw_okq (⟨"PackedBytesModel", "pairAt", "(I)I"⟩, 45) := ⟨⟨by decide +kernel, by decide +kernel⟩, List.mem_of_getElem? (i := 873) (by decide +kernel), List.mem_of_getElem? (i := 1060) (by decide +kernel), List.mem_of_getElem? (i := 1061) (by decide +kernel)⟩
theorem lw_p36 : lw_okq (⟨"PackedBytesModel", "sameFrom", "(II)I"⟩, 45) := ⟨⟨by decide +kernel, by decide +kernel⟩, List.mem_of_getElem? (i := 873) (by decide +kernel), List.mem_of_getElem? (i := 1065) (by decide +kernel), List.mem_of_getElem? (i := 1066) (by decide +kernel)⟩
theorem lw_p37 : lw_okq (⟨"PackedBytesModel", "count", "()V"⟩, 45) := ⟨⟨by decide +kernel, by decide +kernel⟩, List.mem_of_getElem? (i := 873) (by decide +kernel), List.mem_of_getElem? (i := 1070) (by decide +kernel), List.mem_of_getElem? (i := 1071) (by decide +kernel)⟩
theorem lw_p38 : lw_okq (⟨"PackedBytesModel", "setFixed", "()V"⟩, 45) := ⟨⟨by decide +kernel, by decide +kernel⟩, List.mem_of_getElem? (i := 873) (by decide +kernel), List.mem_of_getElem? (i := 1097) (by decide +kernel), List.mem_of_getElem? (i := 1098) (by decide +kernel)⟩
theorem lw_p39 : lw_okq (⟨"PackedBytesModel", "bitsOfTokens", "()I"⟩, 45) := ⟨⟨by decide +kernel, by decide +kernel⟩, List.mem_of_getElem? (i := 873) (by decide +kernel), List.mem_of_getElem? (i := 1101) (by decide +kernel), List.mem_of_getElem? (i := 1102) (by decide +kernel)⟩
theorem lw_p40 : lw_okq (⟨"PackedBytesModel", "setOwn", "()V"⟩, 45) := ⟨⟨by decide +kernel, by decide +kernel⟩, List.mem_of_getElem? (i := 873) (by decide +kernel), List.mem_of_getElem? (i := 1111) (by decide +kernel), List.mem_of_getElem? (i := 1112) (by decide +kernel)⟩
theorem lw_p41 : lw_okq (⟨"PackedBytesModel", "join", "([I[IIII)V"⟩, 45) := ⟨⟨by decide +kernel, by decide +kernel⟩, List.mem_of_getElem? (i := 873) (by decide +kernel), List.mem_of_getElem? (i := 1115) (by decide +kernel), List.mem_of_getElem? (i := 1116) (by decide +kernel)⟩
theorem lw_p42 : lw_okq (⟨"PackedBytesModel", "least", "(II)I"⟩, 45) := ⟨⟨by decide +kernel, by decide +kernel⟩, List.mem_of_getElem? (i := 873) (by decide +kernel), List.mem_of_getElem? (i := 1119) (by decide +kernel), List.mem_of_getElem? (i := 1120) (by decide +kernel)⟩
theorem lw_p43 : lw_okq (⟨"PackedBytesModel", "findRuns", "()V"⟩, 45) := ⟨⟨by decide +kernel, by decide +kernel⟩, List.mem_of_getElem? (i := 873) (by decide +kernel), List.mem_of_getElem? (i := 1123) (by decide +kernel), List.mem_of_getElem? (i := 1124) (by decide +kernel)⟩
theorem lw_p44 : lw_okq (⟨"PackedBytesModel", "runOf", "(III)I"⟩, 45) := ⟨⟨by decide +kernel, by decide +kernel⟩, List.mem_of_getElem? (i := 873) (by decide +kernel), List.mem_of_getElem? (i := 1127) (by decide +kernel), List.mem_of_getElem? (i := 1128) (by decide +kernel)⟩
theorem lw_p45 : lw_okq (⟨"PackedBytesModel", "writeStored", "()V"⟩, 45) := ⟨⟨by decide +kernel, by decide +kernel⟩, List.mem_of_getElem? (i := 873) (by decide +kernel), List.mem_of_getElem? (i := 1134) (by decide +kernel), List.mem_of_getElem? (i := 1135) (by decide +kernel)⟩
theorem lw_p46 : lw_okq (⟨"PackedBytesModel", "bit", "(I)V"⟩, 45) := ⟨⟨by decide +kernel, by decide +kernel⟩, List.mem_of_getElem? (i := 873) (by decide +kernel), List.mem_of_getElem? (i := 1138) (by decide +kernel), List.mem_of_getElem? (i := 1139) (by decide +kernel)⟩
theorem lw_p47 : lw_okq (⟨"PackedBytesModel", "low", "(II)V"⟩, 45) := ⟨⟨by decide +kernel, by decide +kernel⟩, List.mem_of_getElem? (i := 873) (by decide +kernel), List.mem_of_getElem? (i := 1142) (by decide +kernel), List.mem_of_getElem? (i := 1143) (by decide +kernel)⟩
def lw_privs_3 : List (MethodName × Nat) := [(⟨"PackedBytes$Unpacker", "readLength", "(II)I"⟩, 13), (⟨"PackedBytesModel", "findTokens", "()V"⟩, 45), (⟨"PackedBytesModel", "enter", "(II)I"⟩, 45), (⟨"PackedBytesModel", "pairAt", "(I)I"⟩, 45), (⟨"PackedBytesModel", "sameFrom", "(II)I"⟩, 45), (⟨"PackedBytesModel", "count", "()V"⟩, 45), (⟨"PackedBytesModel", "setFixed", "()V"⟩, 45), (⟨"PackedBytesModel", "bitsOfTokens", "()I"⟩, 45), (⟨"PackedBytesModel", "setOwn", "()V"⟩, 45), (⟨"PackedBytesModel", "join", "([I[IIII)V"⟩, 45), (⟨"PackedBytesModel", "least", "(II)I"⟩, 45), (⟨"PackedBytesModel", "findRuns", "()V"⟩, 45), (⟨"PackedBytesModel", "runOf", "(III)I"⟩, 45), (⟨"PackedBytesModel", "writeStored", "()V"⟩, 45), (⟨"PackedBytesModel", "bit", "(I)V"⟩, 45), (⟨"PackedBytesModel", "low", "(II)V"⟩, 45)]
theorem lw_r3 : ∀ q ∈ lw_privs_3, lw_okq q := List.forall_mem_cons.mpr ⟨lw_p32, List.forall_mem_cons.mpr ⟨lw_p33, List.forall_mem_cons.mpr ⟨lw_p34, List.forall_mem_cons.mpr ⟨lw_p35, List.forall_mem_cons.mpr ⟨lw_p36, List.forall_mem_cons.mpr ⟨lw_p37, List.forall_mem_cons.mpr ⟨lw_p38, List.forall_mem_cons.mpr ⟨lw_p39, List.forall_mem_cons.mpr ⟨lw_p40, List.forall_mem_cons.mpr ⟨lw_p41, List.forall_mem_cons.mpr ⟨lw_p42, List.forall_mem_cons.mpr ⟨lw_p43, List.forall_mem_cons.mpr ⟨lw_p44, List.forall_mem_cons.mpr ⟨lw_p45, List.forall_mem_cons.mpr ⟨lw_p46, List.forall_mem_cons.mpr ⟨lw_p47, fun _ h => absurd h List.not_mem_nil⟩⟩⟩⟩⟩⟩⟩⟩⟩⟩⟩⟩⟩⟩⟩⟩
theorem lw_p48 : lw_okq (⟨"PackedBytesModel", "writeTokens", "()V"⟩, 45) := ⟨⟨by decide +kernel, by decide +kernel⟩, List.mem_of_getElem? (i := 873) (by decide +kernel), List.mem_of_getElem? (i := 1146) (by decide +kernel), List.mem_of_getElem? (i := 1147) (by decide +kernel)⟩
theorem lw_p49 : lw_okq (⟨"PackedBytesModel", "number", "([I[III)V"⟩, 45) := ⟨⟨by decide +kernel, by decide +kernel⟩, List.mem_of_getElem? (i := 873) (by decide +kernel), List.mem_of_getElem? (i := 1150) (by decide +kernel), List.mem_of_getElem? (i := 1151) (by decide +kernel)⟩
theorem lw_p50 : lw_okq (⟨"PackedBytesModel", "high", "(II)V"⟩, 45) := ⟨⟨by decide +kernel, by decide +kernel⟩, List.mem_of_getElem? (i := 873) (by decide +kernel), List.mem_of_getElem? (i := 1154) (by decide +kernel), List.mem_of_getElem? (i := 1155) (by decide +kernel)⟩
theorem lw_p51 : lw_okq (⟨"PackedBytesModel", "writeOwn", "()V"⟩, 45) := ⟨⟨by decide +kernel, by decide +kernel⟩, List.mem_of_getElem? (i := 873) (by decide +kernel), List.mem_of_getElem? (i := 1158) (by decide +kernel), List.mem_of_getElem? (i := 1159) (by decide +kernel)⟩
theorem lw_p52 : lw_okq (⟨"PackedBytesModel", "readBlocks", "()Z"⟩, 45) := ⟨⟨by decide +kernel, by decide +kernel⟩, List.mem_of_getElem? (i := 873) (by decide +kernel), List.mem_of_getElem? (i := 1174) (by decide +kernel), List.mem_of_getElem? (i := 1175) (by decide +kernel)⟩
theorem lw_p53 : lw_okq (⟨"PackedBytesModel", "wrong", "(II)Z"⟩, 45) := ⟨⟨by decide +kernel, by decide +kernel⟩, List.mem_of_getElem? (i := 873) (by decide +kernel), List.mem_of_getElem? (i := 1178) (by decide +kernel), List.mem_of_getElem? (i := 1179) (by decide +kernel)⟩
theorem lw_p54 : lw_okq (⟨"PackedBytesModel", "take", "(I)I"⟩, 45) := ⟨⟨by decide +kernel, by decide +kernel⟩, List.mem_of_getElem? (i := 873) (by decide +kernel), List.mem_of_getElem? (i := 1182) (by decide +kernel), List.mem_of_getElem? (i := 1183) (by decide +kernel)⟩
theorem lw_p55 : lw_okq (⟨"PackedBytesModel", "next", "()I"⟩, 45) := ⟨⟨by decide +kernel, by decide +kernel⟩, List.mem_of_getElem? (i := 873) (by decide +kernel), List.mem_of_getElem? (i := 1186) (by decide +kernel), List.mem_of_getElem? (i := 1187) (by decide +kernel)⟩
theorem lw_p56 : lw_okq (⟨"PackedBytesModel", "readStored", "()Z"⟩, 45) := ⟨⟨by decide +kernel, by decide +kernel⟩, List.mem_of_getElem? (i := 873) (by decide +kernel), List.mem_of_getElem? (i := 1190) (by decide +kernel), List.mem_of_getElem? (i := 1191) (by decide +kernel)⟩
theorem lw_p57 : lw_okq (⟨"PackedBytesModel", "sort", "([IIII)V"⟩, 45) := ⟨⟨by decide +kernel, by decide +kernel⟩, List.mem_of_getElem? (i := 873) (by decide +kernel), List.mem_of_getElem? (i := 1194) (by decide +kernel), List.mem_of_getElem? (i := 1195) (by decide +kernel)⟩
theorem lw_p58 : lw_okq (⟨"PackedBytesModel", "readOwn", "()Z"⟩, 45) := ⟨⟨by decide +kernel, by decide +kernel⟩, List.mem_of_getElem? (i := 873) (by decide +kernel), List.mem_of_getElem? (i := 1198) (by decide +kernel), List.mem_of_getElem? (i := 1199) (by decide +kernel)⟩
theorem lw_p59 : lw_okq (⟨"PackedBytesModel", "used", "(I)I"⟩, 45) := ⟨⟨by decide +kernel, by decide +kernel⟩, List.mem_of_getElem? (i := 873) (by decide +kernel), List.mem_of_getElem? (i := 1202) (by decide +kernel), List.mem_of_getElem? (i := 1203) (by decide +kernel)⟩
theorem lw_p60 : lw_okq (⟨"PackedBytesModel", "symbol", "(I)I"⟩, 45) := ⟨⟨by decide +kernel, by decide +kernel⟩, List.mem_of_getElem? (i := 873) (by decide +kernel), List.mem_of_getElem? (i := 1206) (by decide +kernel), List.mem_of_getElem? (i := 1207) (by decide +kernel)⟩
theorem lw_p61 : lw_okq (⟨"PackedBytesModel", "codesIn", "(I)I"⟩, 45) := ⟨⟨by decide +kernel, by decide +kernel⟩, List.mem_of_getElem? (i := 873) (by decide +kernel), List.mem_of_getElem? (i := 1210) (by decide +kernel), List.mem_of_getElem? (i := 1211) (by decide +kernel)⟩
theorem lw_p62 : lw_okq (⟨"PackedBytesModel", "readTokens", "()Z"⟩, 45) := ⟨⟨by decide +kernel, by decide +kernel⟩, List.mem_of_getElem? (i := 873) (by decide +kernel), List.mem_of_getElem? (i := 1214) (by decide +kernel), List.mem_of_getElem? (i := 1215) (by decide +kernel)⟩
theorem lw_p63 : lw_okq (⟨"PackedBytesModel", "readMatch", "(I)Z"⟩, 45) := ⟨⟨by decide +kernel, by decide +kernel⟩, List.mem_of_getElem? (i := 873) (by decide +kernel), List.mem_of_getElem? (i := 1218) (by decide +kernel), List.mem_of_getElem? (i := 1219) (by decide +kernel)⟩
def lw_privs_4 : List (MethodName × Nat) := [(⟨"PackedBytesModel", "writeTokens", "()V"⟩, 45), (⟨"PackedBytesModel", "number", "([I[III)V"⟩, 45), (⟨"PackedBytesModel", "high", "(II)V"⟩, 45), (⟨"PackedBytesModel", "writeOwn", "()V"⟩, 45), (⟨"PackedBytesModel", "readBlocks", "()Z"⟩, 45), (⟨"PackedBytesModel", "wrong", "(II)Z"⟩, 45), (⟨"PackedBytesModel", "take", "(I)I"⟩, 45), (⟨"PackedBytesModel", "next", "()I"⟩, 45), (⟨"PackedBytesModel", "readStored", "()Z"⟩, 45), (⟨"PackedBytesModel", "sort", "([IIII)V"⟩, 45), (⟨"PackedBytesModel", "readOwn", "()Z"⟩, 45), (⟨"PackedBytesModel", "used", "(I)I"⟩, 45), (⟨"PackedBytesModel", "symbol", "(I)I"⟩, 45), (⟨"PackedBytesModel", "codesIn", "(I)I"⟩, 45), (⟨"PackedBytesModel", "readTokens", "()Z"⟩, 45), (⟨"PackedBytesModel", "readMatch", "(I)Z"⟩, 45)]
theorem lw_r4 : ∀ q ∈ lw_privs_4, lw_okq q := List.forall_mem_cons.mpr ⟨lw_p48, List.forall_mem_cons.mpr ⟨lw_p49, List.forall_mem_cons.mpr ⟨lw_p50, List.forall_mem_cons.mpr ⟨lw_p51, List.forall_mem_cons.mpr ⟨lw_p52, List.forall_mem_cons.mpr ⟨lw_p53, List.forall_mem_cons.mpr ⟨lw_p54, List.forall_mem_cons.mpr ⟨lw_p55, List.forall_mem_cons.mpr ⟨lw_p56, List.forall_mem_cons.mpr ⟨lw_p57, List.forall_mem_cons.mpr ⟨lw_p58, List.forall_mem_cons.mpr ⟨lw_p59, List.forall_mem_cons.mpr ⟨lw_p60, List.forall_mem_cons.mpr ⟨lw_p61, List.forall_mem_cons.mpr ⟨lw_p62, List.forall_mem_cons.mpr ⟨lw_p63, fun _ h => absurd h List.not_mem_nil⟩⟩⟩⟩⟩⟩⟩⟩⟩⟩⟩⟩⟩⟩⟩⟩
def lw_privs : List (MethodName × Nat) := lw_privs_1 ++ (lw_privs_2 ++ (lw_privs_3 ++ (lw_privs_4)))
def lw_tbl : List Cond := k2_sels lw_privs ++ tables_1
theorem lw_privs_ok : ∀ q ∈ lw_privs, lw_okq q := by
  show ∀ q ∈ lw_privs_1 ++ (lw_privs_2 ++ (lw_privs_3 ++ (lw_privs_4))), lw_okq q
  exact List.forall_mem_append.mpr ⟨lw_r1, List.forall_mem_append.mpr ⟨lw_r2, List.forall_mem_append.mpr ⟨lw_r3, lw_r4⟩⟩⟩
def R_BitSink : String := "PackedBytes$BitSink"
def F_BitSink : u_T := fun k => match k with
  | 0 => ("PackedBytes$BitSink", "to", "LPackedBytes$Row;", true)
  | 1 => ("PackedBytes$BitSink", "held", "I", false)
  | _ => ("PackedBytes$BitSink", "heldBits", "I", false)
def t_BitSink : Nat → FieldType := fun k => match k with
  | 0 => .object "PackedBytes$Row"
  | 1 => .int
  | _ => .int
theorem n_BitSink : ∀ a, a < 3 → ∀ b, b < 3 → a ≠ b → (F_BitSink a).2.1 ≠ (F_BitSink b).2.1 := by decide +kernel
theorem t_BitSink_ok : ∀ k, k < 3 → parseFieldDescriptor (F_BitSink k).2.2.1 = some (t_BitSink k) := by decide +kernel
def R_BitSource : String := "PackedBytes$BitSource"
def F_BitSource : u_T := fun k => match k with
  | 0 => ("PackedBytes$BitSource", "from", "LPackedBytes$Row;", true)
  | _ => ("PackedBytes$BitSource", "place", "I", false)
def t_BitSource : Nat → FieldType := fun k => match k with
  | 0 => .object "PackedBytes$Row"
  | _ => .int
theorem n_BitSource : ∀ a, a < 2 → ∀ b, b < 2 → a ≠ b → (F_BitSource a).2.1 ≠ (F_BitSource b).2.1 := by decide +kernel
theorem t_BitSource_ok : ∀ k, k < 2 → parseFieldDescriptor (F_BitSource k).2.2.1 = some (t_BitSource k) := by decide +kernel
def R_Code : String := "PackedBytes$Code"
def F_Code : u_T := fun k => match k with
  | 0 => ("PackedBytes$Code", "lengths", "[I", true)
  | 1 => ("PackedBytes$Code", "bits", "[I", true)
  | _ => ("PackedBytes$Code", "next", "[I", true)
def t_Code : Nat → FieldType := fun k => match k with
  | 0 => .array .int
  | 1 => .array .int
  | _ => .array .int
theorem n_Code : ∀ a, a < 3 → ∀ b, b < 3 → a ≠ b → (F_Code a).2.1 ≠ (F_Code b).2.1 := by decide +kernel
theorem t_Code_ok : ∀ k, k < 3 → parseFieldDescriptor (F_Code k).2.2.1 = some (t_Code k) := by decide +kernel
def R_Decoder : String := "PackedBytes$Decoder"
def F_Decoder : u_T := fun k => match k with
  | 0 => ("PackedBytes$Decoder", "perLength", "[I", true)
  | 1 => ("PackedBytes$Decoder", "starts", "[I", true)
  | 2 => ("PackedBytes$Decoder", "sorted", "[I", true)
  | 3 => ("PackedBytes$Decoder", "codes", "I", false)
  | _ => ("PackedBytes$Decoder", "left", "I", false)
def t_Decoder : Nat → FieldType := fun k => match k with
  | 0 => .array .int
  | 1 => .array .int
  | 2 => .array .int
  | 3 => .int
  | _ => .int
theorem n_Decoder : ∀ a, a < 5 → ∀ b, b < 5 → a ≠ b → (F_Decoder a).2.1 ≠ (F_Decoder b).2.1 := by decide +kernel
theorem t_Decoder_ok : ∀ k, k < 5 → parseFieldDescriptor (F_Decoder k).2.2.1 = some (t_Decoder k) := by decide +kernel
def R_Header : String := "PackedBytes$Header"
def F_Header : u_T := fun k => match k with
  | 0 => ("PackedBytes$Header", "code", "LPackedBytes$Code;", true)
  | 1 => ("PackedBytes$Header", "counts", "[I", true)
  | 2 => ("PackedBytes$Header", "lengths", "[I", true)
  | 3 => ("PackedBytes$Header", "items", "[I", true)
  | 4 => ("PackedBytes$Header", "itemCount", "I", false)
  | 5 => ("PackedBytes$Header", "symbols", "I", false)
  | 6 => ("PackedBytes$Header", "distances", "I", false)
  | _ => ("PackedBytes$Header", "codes", "I", false)
def t_Header : Nat → FieldType := fun k => match k with
  | 0 => .object "PackedBytes$Code"
  | 1 => .array .int
  | 2 => .array .int
  | 3 => .array .int
  | 4 => .int
  | 5 => .int
  | 6 => .int
  | _ => .int
theorem n_Header : ∀ a, a < 8 → ∀ b, b < 8 → a ≠ b → (F_Header a).2.1 ≠ (F_Header b).2.1 := by decide +kernel
theorem t_Header_ok : ∀ k, k < 8 → parseFieldDescriptor (F_Header k).2.2.1 = some (t_Header k) := by decide +kernel
def R_Matcher : String := "PackedBytes$Matcher"
def F_Matcher : u_T := fun k => match k with
  | 0 => ("PackedBytes$Matcher", "row", "LPackedBytes$Row;", true)
  | 1 => ("PackedBytes$Matcher", "heads", "[I", true)
  | 2 => ("PackedBytes$Matcher", "before", "[I", true)
  | 3 => ("PackedBytes$Matcher", "tokens", "[I", true)
  | 4 => ("PackedBytes$Matcher", "tokenCount", "I", false)
  | 5 => ("PackedBytes$Matcher", "matchCount", "I", false)
  | 6 => ("PackedBytes$Matcher", "bestLength", "I", false)
  | _ => ("PackedBytes$Matcher", "bestDistance", "I", false)
def t_Matcher : Nat → FieldType := fun k => match k with
  | 0 => .object "PackedBytes$Row"
  | 1 => .array .int
  | 2 => .array .int
  | 3 => .array .int
  | 4 => .int
  | 5 => .int
  | 6 => .int
  | _ => .int
theorem n_Matcher : ∀ a, a < 8 → ∀ b, b < 8 → a ≠ b → (F_Matcher a).2.1 ≠ (F_Matcher b).2.1 := by decide +kernel
theorem t_Matcher_ok : ∀ k, k < 8 → parseFieldDescriptor (F_Matcher k).2.2.1 = some (t_Matcher k) := by decide +kernel
def R_Packer : String := "PackedBytes$Packer"
def F_Packer : u_T := fun k => match k with
  | 0 => ("PackedBytes$Packer", "row", "LPackedBytes$Row;", true)
  | 1 => ("PackedBytes$Packer", "product", "LPackedBytes$Row;", true)
  | 2 => ("PackedBytes$Packer", "sink", "LPackedBytes$BitSink;", true)
  | 3 => ("PackedBytes$Packer", "matcher", "LPackedBytes$Matcher;", true)
  | 4 => ("PackedBytes$Packer", "trees", "LPackedBytes$Trees;", true)
  | 5 => ("PackedBytes$Packer", "header", "LPackedBytes$Header;", true)
  | 6 => ("PackedBytes$Packer", "symbolCounts", "[I", true)
  | 7 => ("PackedBytes$Packer", "distanceCounts", "[I", true)
  | 8 => ("PackedBytes$Packer", "ownSymbols", "LPackedBytes$Code;", true)
  | 9 => ("PackedBytes$Packer", "ownDistances", "LPackedBytes$Code;", true)
  | 10 => ("PackedBytes$Packer", "fixedSymbols", "LPackedBytes$Code;", true)
  | 11 => ("PackedBytes$Packer", "fixedDistances", "LPackedBytes$Code;", true)
  | _ => ("PackedBytes$Packer", "report", "[I", true)
def t_Packer : Nat → FieldType := fun k => match k with
  | 0 => .object "PackedBytes$Row"
  | 1 => .object "PackedBytes$Row"
  | 2 => .object "PackedBytes$BitSink"
  | 3 => .object "PackedBytes$Matcher"
  | 4 => .object "PackedBytes$Trees"
  | 5 => .object "PackedBytes$Header"
  | 6 => .array .int
  | 7 => .array .int
  | 8 => .object "PackedBytes$Code"
  | 9 => .object "PackedBytes$Code"
  | 10 => .object "PackedBytes$Code"
  | 11 => .object "PackedBytes$Code"
  | _ => .array .int
theorem n_Packer : ∀ a, a < 13 → ∀ b, b < 13 → a ≠ b → (F_Packer a).2.1 ≠ (F_Packer b).2.1 := by decide +kernel
theorem t_Packer_ok : ∀ k, k < 13 → parseFieldDescriptor (F_Packer k).2.2.1 = some (t_Packer k) := by decide +kernel
def R_Row : String := "PackedBytes$Row"
def F_Row : u_T := fun k => match k with
  | 0 => ("PackedBytes$Row", "cells", "[B", true)
  | _ => ("PackedBytes$Row", "count", "I", false)
def t_Row : Nat → FieldType := fun k => match k with
  | 0 => .array .byte
  | _ => .int
theorem n_Row : ∀ a, a < 2 → ∀ b, b < 2 → a ≠ b → (F_Row a).2.1 ≠ (F_Row b).2.1 := by decide +kernel
theorem t_Row_ok : ∀ k, k < 2 → parseFieldDescriptor (F_Row k).2.2.1 = some (t_Row k) := by decide +kernel
def R_Trees : String := "PackedBytes$Trees"
def F_Trees : u_T := fun k => match k with
  | 0 => ("PackedBytes$Trees", "weights", "[I", true)
  | 1 => ("PackedBytes$Trees", "parents", "[I", true)
  | 2 => ("PackedBytes$Trees", "depths", "[I", true)
  | 3 => ("PackedBytes$Trees", "leafSymbols", "[I", true)
  | 4 => ("PackedBytes$Trees", "shrunk", "[I", true)
  | 5 => ("PackedBytes$Trees", "leaves", "I", false)
  | 6 => ("PackedBytes$Trees", "made", "I", false)
  | 7 => ("PackedBytes$Trees", "nextLeaf", "I", false)
  | _ => ("PackedBytes$Trees", "nextJoined", "I", false)
def t_Trees : Nat → FieldType := fun k => match k with
  | 0 => .array .int
  | 1 => .array .int
  | 2 => .array .int
  | 3 => .array .int
  | 4 => .array .int
  | 5 => .int
  | 6 => .int
  | 7 => .int
  | _ => .int
theorem n_Trees : ∀ a, a < 9 → ∀ b, b < 9 → a ≠ b → (F_Trees a).2.1 ≠ (F_Trees b).2.1 := by decide +kernel
theorem t_Trees_ok : ∀ k, k < 9 → parseFieldDescriptor (F_Trees k).2.2.1 = some (t_Trees k) := by decide +kernel
def R_Unpacker : String := "PackedBytes$Unpacker"
def F_Unpacker : u_T := fun k => match k with
  | 0 => ("PackedBytes$Unpacker", "from", "LPackedBytes$Row;", true)
  | 1 => ("PackedBytes$Unpacker", "to", "LPackedBytes$Row;", true)
  | 2 => ("PackedBytes$Unpacker", "source", "LPackedBytes$BitSource;", true)
  | 3 => ("PackedBytes$Unpacker", "fixedSymbols", "LPackedBytes$Decoder;", true)
  | 4 => ("PackedBytes$Unpacker", "fixedDistances", "LPackedBytes$Decoder;", true)
  | 5 => ("PackedBytes$Unpacker", "ownSymbols", "LPackedBytes$Decoder;", true)
  | 6 => ("PackedBytes$Unpacker", "ownDistances", "LPackedBytes$Decoder;", true)
  | 7 => ("PackedBytes$Unpacker", "lengthCode", "LPackedBytes$Decoder;", true)
  | 8 => ("PackedBytes$Unpacker", "codeLengths", "[I", true)
  | 9 => ("PackedBytes$Unpacker", "lengths", "[I", true)
  | 10 => ("PackedBytes$Unpacker", "limit", "I", false)
  | 11 => ("PackedBytes$Unpacker", "lastBlock", "Z", false)
  | _ => ("PackedBytes$Unpacker", "report", "[I", true)
def t_Unpacker : Nat → FieldType := fun k => match k with
  | 0 => .object "PackedBytes$Row"
  | 1 => .object "PackedBytes$Row"
  | 2 => .object "PackedBytes$BitSource"
  | 3 => .object "PackedBytes$Decoder"
  | 4 => .object "PackedBytes$Decoder"
  | 5 => .object "PackedBytes$Decoder"
  | 6 => .object "PackedBytes$Decoder"
  | 7 => .object "PackedBytes$Decoder"
  | 8 => .array .int
  | 9 => .array .int
  | 10 => .int
  | 11 => .boolean
  | _ => .array .int
theorem n_Unpacker : ∀ a, a < 13 → ∀ b, b < 13 → a ≠ b → (F_Unpacker a).2.1 ≠ (F_Unpacker b).2.1 := by decide +kernel
theorem t_Unpacker_ok : ∀ k, k < 13 → parseFieldDescriptor (F_Unpacker k).2.2.1 = some (t_Unpacker k) := by decide +kernel
def R_PB : String := "PackedBytes"
def F_PB : u_T := fun k => match k with
  | 0 => ("PackedBytes", "row", "LPackedBytes$Row;", true)
  | 1 => ("PackedBytes", "product", "LPackedBytes$Row;", true)
  | 2 => ("PackedBytes", "unpacked", "LPackedBytes$Row;", true)
  | 3 => ("PackedBytes", "packer", "LPackedBytes$Packer;", true)
  | 4 => ("PackedBytes", "unpacker", "LPackedBytes$Unpacker;", true)
  | _ => ("PackedBytes", "checkTable", "[I", true)
def t_PB : Nat → FieldType := fun k => match k with
  | 0 => .object "PackedBytes$Row"
  | 1 => .object "PackedBytes$Row"
  | 2 => .object "PackedBytes$Row"
  | 3 => .object "PackedBytes$Packer"
  | 4 => .object "PackedBytes$Unpacker"
  | _ => .array .int
theorem n_PB : ∀ a, a < 6 → ∀ b, b < 6 → a ≠ b → (F_PB a).2.1 ≠ (F_PB b).2.1 := by decide +kernel
theorem t_PB_ok : ∀ k, k < 6 → parseFieldDescriptor (F_PB k).2.2.1 = some (t_PB k) := by decide +kernel
def R_La : String := "PackedBytesLaw"
def R_Mo : String := "PackedBytesModel"
def F_Mo : u_T := fun k => match k with
  | 0 => ("PackedBytesModel", "code", "I", false)
  | 1 => ("PackedBytesModel", "length", "I", false)
  | 2 => ("PackedBytesModel", "row", "[B", true)
  | 3 => ("PackedBytesModel", "size", "I", false)
  | 4 => ("PackedBytesModel", "product", "[B", true)
  | 5 => ("PackedBytesModel", "tokens", "I", false)
  | 6 => ("PackedBytesModel", "token", "[I", true)
  | 7 => ("PackedBytesModel", "heads", "[I", true)
  | 8 => ("PackedBytesModel", "before", "[I", true)
  | 9 => ("PackedBytesModel", "counts", "[I", true)
  | 10 => ("PackedBytesModel", "lengths", "[I", true)
  | 11 => ("PackedBytesModel", "fewCounts", "[I", true)
  | 12 => ("PackedBytesModel", "fewLengths", "[I", true)
  | 13 => ("PackedBytesModel", "weights", "[I", true)
  | 14 => ("PackedBytesModel", "parents", "[I", true)
  | 15 => ("PackedBytesModel", "symbols", "[I", true)
  | 16 => ("PackedBytesModel", "numbers", "[I", true)
  | 17 => ("PackedBytesModel", "fewNumbers", "[I", true)
  | 18 => ("PackedBytesModel", "firsts", "[I", true)
  | 19 => ("PackedBytesModel", "line", "[I", true)
  | 20 => ("PackedBytesModel", "runs", "I", false)
  | 21 => ("PackedBytesModel", "run", "[I", true)
  | 22 => ("PackedBytesModel", "rest", "[I", true)
  | 23 => ("PackedBytesModel", "wide", "I", false)
  | 24 => ("PackedBytesModel", "deep", "I", false)
  | 25 => ("PackedBytesModel", "few", "I", false)
  | 26 => ("PackedBytesModel", "ownLengths", "[I", true)
  | 27 => ("PackedBytesModel", "ownFew", "[I", true)
  | 28 => ("PackedBytesModel", "kind", "I", false)
  | 29 => ("PackedBytesModel", "bytes", "I", false)
  | 30 => ("PackedBytesModel", "matches", "I", false)
  | 31 => ("PackedBytesModel", "storedBits", "I", false)
  | 32 => ("PackedBytesModel", "fixedBits", "I", false)
  | 33 => ("PackedBytesModel", "ownBits", "I", false)
  | 34 => ("PackedBytesModel", "out", "I", false)
  | 35 => ("PackedBytesModel", "pos", "I", false)
  | 36 => ("PackedBytesModel", "total", "I", false)
  | 37 => ("PackedBytesModel", "fault", "I", false)
  | 38 => ("PackedBytesModel", "place", "I", false)
  | 39 => ("PackedBytesModel", "made", "I", false)
  | 40 => ("PackedBytesModel", "limit", "I", false)
  | 41 => ("PackedBytesModel", "taken", "I", false)
  | 42 => ("PackedBytesModel", "fresh", "[B", true)
  | 43 => ("PackedBytesModel", "many", "[I", true)
  | _ => ("PackedBytesModel", "sorted", "[I", true)
def t_Mo : Nat → FieldType := fun k => match k with
  | 0 => .int
  | 1 => .int
  | 2 => .array .byte
  | 3 => .int
  | 4 => .array .byte
  | 5 => .int
  | 6 => .array .int
  | 7 => .array .int
  | 8 => .array .int
  | 9 => .array .int
  | 10 => .array .int
  | 11 => .array .int
  | 12 => .array .int
  | 13 => .array .int
  | 14 => .array .int
  | 15 => .array .int
  | 16 => .array .int
  | 17 => .array .int
  | 18 => .array .int
  | 19 => .array .int
  | 20 => .int
  | 21 => .array .int
  | 22 => .array .int
  | 23 => .int
  | 24 => .int
  | 25 => .int
  | 26 => .array .int
  | 27 => .array .int
  | 28 => .int
  | 29 => .int
  | 30 => .int
  | 31 => .int
  | 32 => .int
  | 33 => .int
  | 34 => .int
  | 35 => .int
  | 36 => .int
  | 37 => .int
  | 38 => .int
  | 39 => .int
  | 40 => .int
  | 41 => .int
  | 42 => .array .byte
  | 43 => .array .int
  | _ => .array .int
theorem n_Mo : ∀ a, a < 45 → ∀ b, b < 45 → a ≠ b → (F_Mo a).2.1 ≠ (F_Mo b).2.1 := by decide +kernel
theorem t_Mo_ok : ∀ k, k < 45 → parseFieldDescriptor (F_Mo k).2.2.1 = some (t_Mo k) := by decide +kernel
def R_JA : String := "java/util/Arrays"
abbrev vwCl : List vw_C := [(R_BitSink, F_BitSink, 3), (R_BitSource, F_BitSource, 2), (R_Code, F_Code, 3), (R_Decoder, F_Decoder, 5), (R_Header, F_Header, 8), (R_Matcher, F_Matcher, 8), (R_Packer, F_Packer, 13), (R_Row, F_Row, 2), (R_Trees, F_Trees, 9), (R_Unpacker, F_Unpacker, 13), (R_PB, F_PB, 6), (R_Mo, F_Mo, 45)]
/-- the words that keep, of the tables -/
def TB : List Cond := lw_tbl.filter goodWord
theorem TB_in {w : Cond} (i : Nat) (h : lw_tbl[i]? = some w) (g : goodWord w = true) : w ∈ TB := List.mem_filter.mpr ⟨List.mem_of_getElem? h, g⟩
theorem gTB {y : MethodName} {b : ByteArray} {n : Nat} {r : Option FieldType} (h : Cond.code y b n r ∈ TB) : GoodIn TB (Cond.code y b n r :: TB) := fun w hw => by
  have q : w ∈ TB := (List.mem_cons.mp hw).elim (fun e => e ▸ h) id
  exact ⟨q, good_of_word (List.mem_filter.mp q).2⟩
abbrev b_BitSink_init : ByteArray := prog_2_method_1_code
def y_BitSink_init : MethodName := ⟨R_BitSink, "<init>", "(LPackedBytes$Row;)V"⟩
def w_BitSink_init : List Cond := .code y_BitSink_init b_BitSink_init 2 none :: TB
abbrev b_BitSink_restart : ByteArray := prog_2_method_2_code
def y_BitSink_restart : MethodName := ⟨R_BitSink, "restart", "()V"⟩
def w_BitSink_restart : List Cond := .code y_BitSink_restart b_BitSink_restart 1 none :: TB
abbrev b_BitSink_put : ByteArray := prog_2_method_3_code
def y_BitSink_put : MethodName := ⟨R_BitSink, "put", "(II)V"⟩
def w_BitSink_put : List Cond := .code y_BitSink_put b_BitSink_put 3 none :: TB
abbrev b_BitSink_fillByte : ByteArray := prog_2_method_4_code
def y_BitSink_fillByte : MethodName := ⟨R_BitSink, "fillByte", "()V"⟩
def w_BitSink_fillByte : List Cond := .code y_BitSink_fillByte b_BitSink_fillByte 1 none :: TB
abbrev b_BitSource_init : ByteArray := prog_3_method_1_code
def y_BitSource_init : MethodName := ⟨R_BitSource, "<init>", "(LPackedBytes$Row;)V"⟩
def w_BitSource_init : List Cond := .code y_BitSource_init b_BitSource_init 2 none :: TB
abbrev b_BitSource_bitsLeft : ByteArray := prog_3_method_2_code
def y_BitSource_bitsLeft : MethodName := ⟨R_BitSource, "bitsLeft", "()I"⟩
def w_BitSource_bitsLeft : List Cond := .code y_BitSource_bitsLeft b_BitSource_bitsLeft 1 (some .int) :: TB
abbrev b_BitSource_take : ByteArray := prog_3_method_3_code
def y_BitSource_take : MethodName := ⟨R_BitSource, "take", "(I)I"⟩
def w_BitSource_take : List Cond := .code y_BitSource_take b_BitSource_take 5 (some .int) :: TB
abbrev b_BitSource_toWholeByte : ByteArray := prog_3_method_4_code
def y_BitSource_toWholeByte : MethodName := ⟨R_BitSource, "toWholeByte", "()V"⟩
def w_BitSource_toWholeByte : List Cond := .code y_BitSource_toWholeByte b_BitSource_toWholeByte 1 none :: TB
abbrev b_BitSource_bytesTaken : ByteArray := prog_3_method_5_code
def y_BitSource_bytesTaken : MethodName := ⟨R_BitSource, "bytesTaken", "()I"⟩
def w_BitSource_bytesTaken : List Cond := .code y_BitSource_bytesTaken b_BitSource_bytesTaken 1 (some .int) :: TB
abbrev b_Code_init : ByteArray := prog_4_method_1_code
def y_Code_init : MethodName := ⟨R_Code, "<init>", "([I)V"⟩
def w_Code_init : List Cond := .code y_Code_init b_Code_init 2 none :: TB
abbrev b_Code_number : ByteArray := prog_4_method_2_code
def y_Code_number : MethodName := ⟨R_Code, "number", "()V"⟩
def w_Code_number : List Cond := .code y_Code_number b_Code_number 3 none :: TB
abbrev b_Code_turnRound : ByteArray := prog_4_method_3_code
def y_Code_turnRound : MethodName := ⟨R_Code, "turnRound", "(II)I"⟩
def w_Code_turnRound : List Cond := .code y_Code_turnRound b_Code_turnRound 4 (some .int) :: TB
abbrev b_Code_bitsFor : ByteArray := prog_4_method_4_code
def y_Code_bitsFor : MethodName := ⟨R_Code, "bitsFor", "([I)I"⟩
def w_Code_bitsFor : List Cond := .code y_Code_bitsFor b_Code_bitsFor 5 (some .int) :: TB
abbrev b_Decoder_init : ByteArray := prog_5_method_1_code
def y_Decoder_init : MethodName := ⟨R_Decoder, "<init>", "()V"⟩
def w_Decoder_init : List Cond := .code y_Decoder_init b_Decoder_init 1 none :: TB
abbrev b_Decoder_learn : ByteArray := prog_5_method_2_code
def y_Decoder_learn : MethodName := ⟨R_Decoder, "learn", "([III)V"⟩
def w_Decoder_learn : List Cond := .code y_Decoder_learn b_Decoder_learn 6 none :: TB
abbrev b_Decoder_isFull : ByteArray := prog_5_method_3_code
def y_Decoder_isFull : MethodName := ⟨R_Decoder, "isFull", "()Z"⟩
def w_Decoder_isFull : List Cond := .code y_Decoder_isFull b_Decoder_isFull 1 (some .boolean) :: TB
abbrev b_Decoder_isOneBit : ByteArray := prog_5_method_4_code
def y_Decoder_isOneBit : MethodName := ⟨R_Decoder, "isOneBit", "()Z"⟩
def w_Decoder_isOneBit : List Cond := .code y_Decoder_isOneBit b_Decoder_isOneBit 1 (some .boolean) :: TB
abbrev b_Decoder_isEmpty : ByteArray := prog_5_method_5_code
def y_Decoder_isEmpty : MethodName := ⟨R_Decoder, "isEmpty", "()Z"⟩
def w_Decoder_isEmpty : List Cond := .code y_Decoder_isEmpty b_Decoder_isEmpty 1 (some .boolean) :: TB
abbrev b_Decoder_decode : ByteArray := prog_5_method_6_code
def y_Decoder_decode : MethodName := ⟨R_Decoder, "decode", "(LPackedBytes$BitSource;)I"⟩
def w_Decoder_decode : List Cond := .code y_Decoder_decode b_Decoder_decode 11 (some .int) :: TB
abbrev b_Header_init : ByteArray := prog_6_method_1_code
def y_Header_init : MethodName := ⟨R_Header, "<init>", "()V"⟩
def w_Header_init : List Cond := .code y_Header_init b_Header_init 1 none :: TB
abbrev b_Header_prepare : ByteArray := prog_6_method_2_code
def y_Header_prepare : MethodName := ⟨R_Header, "prepare", "(LPackedBytes$Code;LPackedBytes$Code;LPackedBytes$Trees;)V"⟩
def w_Header_prepare : List Cond := .code y_Header_prepare b_Header_prepare 4 none :: TB
abbrev b_Header_countUsed : ByteArray := prog_6_method_3_code
def y_Header_countUsed : MethodName := ⟨R_Header, "countUsed", "([II)I"⟩
def w_Header_countUsed : List Cond := .code y_Header_countUsed b_Header_countUsed 3 (some .int) :: TB
abbrev b_Header_listItems : ByteArray := prog_6_method_4_code
def y_Header_listItems : MethodName := ⟨R_Header, "listItems", "(I)V"⟩
def w_Header_listItems : List Cond := .code y_Header_listItems b_Header_listItems 5 none :: TB
abbrev b_Header_run : ByteArray := prog_6_method_5_code
def y_Header_run : MethodName := ⟨R_Header, "run", "(III)I"⟩
def w_Header_run : List Cond := .code y_Header_run b_Header_run 5 (some .int) :: TB
abbrev b_Header_addItem : ByteArray := prog_6_method_6_code
def y_Header_addItem : MethodName := ⟨R_Header, "addItem", "(II)V"⟩
def w_Header_addItem : List Cond := .code y_Header_addItem b_Header_addItem 3 none :: TB
abbrev b_Header_bitsInAll : ByteArray := prog_6_method_7_code
def y_Header_bitsInAll : MethodName := ⟨R_Header, "bitsInAll", "()I"⟩
def w_Header_bitsInAll : List Cond := .code y_Header_bitsInAll b_Header_bitsInAll 3 (some .int) :: TB
abbrev b_Header_write : ByteArray := prog_6_method_8_code
def y_Header_write : MethodName := ⟨R_Header, "write", "(LPackedBytes$BitSink;)V"⟩
def w_Header_write : List Cond := .code y_Header_write b_Header_write 4 none :: TB
abbrev b_Matcher_init : ByteArray := prog_7_method_1_code
def y_Matcher_init : MethodName := ⟨R_Matcher, "<init>", "(LPackedBytes$Row;)V"⟩
def w_Matcher_init : List Cond := .code y_Matcher_init b_Matcher_init 2 none :: TB
abbrev b_Matcher_findTokens : ByteArray := prog_7_method_2_code
def y_Matcher_findTokens : MethodName := ⟨R_Matcher, "findTokens", "()V"⟩
def w_Matcher_findTokens : List Cond := .code y_Matcher_findTokens b_Matcher_findTokens 4 none :: TB
abbrev b_Matcher_findMatch : ByteArray := prog_7_method_3_code
def y_Matcher_findMatch : MethodName := ⟨R_Matcher, "findMatch", "(II)V"⟩
def w_Matcher_findMatch : List Cond := .code y_Matcher_findMatch b_Matcher_findMatch 8 none :: TB
abbrev b_Matcher_sameThree : ByteArray := prog_7_method_4_code
def y_Matcher_sameThree : MethodName := ⟨R_Matcher, "sameThree", "(II)Z"⟩
def w_Matcher_sameThree : List Cond := .code y_Matcher_sameThree b_Matcher_sameThree 4 (some .boolean) :: TB
abbrev b_Matcher_compare : ByteArray := prog_7_method_5_code
def y_Matcher_compare : MethodName := ⟨R_Matcher, "compare", "(III)V"⟩
def w_Matcher_compare : List Cond := .code y_Matcher_compare b_Matcher_compare 6 none :: TB
abbrev b_Matcher_remember : ByteArray := prog_7_method_6_code
def y_Matcher_remember : MethodName := ⟨R_Matcher, "remember", "(II)V"⟩
def w_Matcher_remember : List Cond := .code y_Matcher_remember b_Matcher_remember 5 none :: TB
abbrev b_Matcher_hash : ByteArray := prog_7_method_7_code
def y_Matcher_hash : MethodName := ⟨R_Matcher, "hash", "(I)I"⟩
def w_Matcher_hash : List Cond := .code y_Matcher_hash b_Matcher_hash 4 (some .int) :: TB
abbrev b_Packer_init : ByteArray := prog_8_method_1_code
def y_Packer_init : MethodName := ⟨R_Packer, "<init>", "(LPackedBytes$Row;LPackedBytes$Row;)V"⟩
def w_Packer_init : List Cond := .code y_Packer_init b_Packer_init 3 none :: TB
abbrev b_Packer_ownLengths : ByteArray := prog_8_method_2_code
def y_Packer_ownLengths : MethodName := ⟨R_Packer, "ownLengths", "(I)[I"⟩
def w_Packer_ownLengths : List Cond := .code y_Packer_ownLengths b_Packer_ownLengths 2 (some (.array .int)) :: TB
abbrev b_Packer_makeProduct : ByteArray := prog_8_method_3_code
def y_Packer_makeProduct : MethodName := ⟨R_Packer, "makeProduct", "()V"⟩
def w_Packer_makeProduct : List Cond := .code y_Packer_makeProduct b_Packer_makeProduct 1 none :: TB
abbrev b_Packer_countSymbols : ByteArray := prog_8_method_4_code
def y_Packer_countSymbols : MethodName := ⟨R_Packer, "countSymbols", "()V"⟩
def w_Packer_countSymbols : List Cond := .code y_Packer_countSymbols b_Packer_countSymbols 5 none :: TB
abbrev b_Packer_makeOwnCodes : ByteArray := prog_8_method_5_code
def y_Packer_makeOwnCodes : MethodName := ⟨R_Packer, "makeOwnCodes", "()V"⟩
def w_Packer_makeOwnCodes : List Cond := .code y_Packer_makeOwnCodes b_Packer_makeOwnCodes 1 none :: TB
abbrev b_Packer_fillReport : ByteArray := prog_8_method_6_code
def y_Packer_fillReport : MethodName := ⟨R_Packer, "fillReport", "()V"⟩
def w_Packer_fillReport : List Cond := .code y_Packer_fillReport b_Packer_fillReport 2 none :: TB
abbrev b_Packer_storedBlocks : ByteArray := prog_8_method_7_code
def y_Packer_storedBlocks : MethodName := ⟨R_Packer, "storedBlocks", "()I"⟩
def w_Packer_storedBlocks : List Cond := .code y_Packer_storedBlocks b_Packer_storedBlocks 1 (some .int) :: TB
abbrev b_Packer_moreBits : ByteArray := prog_8_method_8_code
def y_Packer_moreBits : MethodName := ⟨R_Packer, "moreBits", "()I"⟩
def w_Packer_moreBits : List Cond := .code y_Packer_moreBits b_Packer_moreBits 3 (some .int) :: TB
abbrev b_Packer_writeStored : ByteArray := prog_8_method_9_code
def y_Packer_writeStored : MethodName := ⟨R_Packer, "writeStored", "()V"⟩
def w_Packer_writeStored : List Cond := .code y_Packer_writeStored b_Packer_writeStored 5 none :: TB
abbrev b_Packer_writeTokens : ByteArray := prog_8_method_10_code
def y_Packer_writeTokens : MethodName := ⟨R_Packer, "writeTokens", "(LPackedBytes$Code;LPackedBytes$Code;)V"⟩
def w_Packer_writeTokens : List Cond := .code y_Packer_writeTokens b_Packer_writeTokens 6 none :: TB
abbrev b_Packer_writeMatch : ByteArray := prog_8_method_11_code
def y_Packer_writeMatch : MethodName := ⟨R_Packer, "writeMatch", "(IILPackedBytes$Code;LPackedBytes$Code;)V"⟩
def w_Packer_writeMatch : List Cond := .code y_Packer_writeMatch b_Packer_writeMatch 7 none :: TB
abbrev b_Row_init : ByteArray := prog_9_method_1_code
def y_Row_init : MethodName := ⟨R_Row, "<init>", "()V"⟩
def w_Row_init : List Cond := .code y_Row_init b_Row_init 1 none :: TB
abbrev b_Row_add : ByteArray := prog_9_method_2_code
def y_Row_add : MethodName := ⟨R_Row, "add", "(I)V"⟩
def w_Row_add : List Cond := .code y_Row_add b_Row_add 2 none :: TB
abbrev b_Row_addNumber : ByteArray := prog_9_method_3_code
def y_Row_addNumber : MethodName := ⟨R_Row, "addNumber", "(I)V"⟩
def w_Row_addNumber : List Cond := .code y_Row_addNumber b_Row_addNumber 2 none :: TB
abbrev b_Row_repeat : ByteArray := prog_9_method_4_code
def y_Row_repeat : MethodName := ⟨R_Row, "repeat", "(II)V"⟩
def w_Row_repeat : List Cond := .code y_Row_repeat b_Row_repeat 5 none :: TB
abbrev b_Row_addFrom : ByteArray := prog_9_method_5_code
def y_Row_addFrom : MethodName := ⟨R_Row, "addFrom", "(LPackedBytes$Row;II)V"⟩
def w_Row_addFrom : List Cond := .code y_Row_addFrom b_Row_addFrom 4 none :: TB
abbrev b_Row_become : ByteArray := prog_9_method_6_code
def y_Row_become : MethodName := ⟨R_Row, "become", "(LPackedBytes$Row;)V"⟩
def w_Row_become : List Cond := .code y_Row_become b_Row_become 2 none :: TB
abbrev b_Trees_init : ByteArray := prog_10_method_1_code
def y_Trees_init : MethodName := ⟨R_Trees, "<init>", "()V"⟩
def w_Trees_init : List Cond := .code y_Trees_init b_Trees_init 1 none :: TB
abbrev b_Trees_findLengths : ByteArray := prog_10_method_2_code
def y_Trees_findLengths : MethodName := ⟨R_Trees, "findLengths", "([I[II)V"⟩
def w_Trees_findLengths : List Cond := .code y_Trees_findLengths b_Trees_findLengths 6 none :: TB
abbrev b_Trees_sortLeaves : ByteArray := prog_10_method_3_code
def y_Trees_sortLeaves : MethodName := ⟨R_Trees, "sortLeaves", "(I)V"⟩
def w_Trees_sortLeaves : List Cond := .code y_Trees_sortLeaves b_Trees_sortLeaves 3 none :: TB
abbrev b_Trees_insertLeaf : ByteArray := prog_10_method_4_code
def y_Trees_insertLeaf : MethodName := ⟨R_Trees, "insertLeaf", "(I)V"⟩
def w_Trees_insertLeaf : List Cond := .code y_Trees_insertLeaf b_Trees_insertLeaf 3 none :: TB
abbrev b_Trees_joinAll : ByteArray := prog_10_method_5_code
def y_Trees_joinAll : MethodName := ⟨R_Trees, "joinAll", "()V"⟩
def w_Trees_joinAll : List Cond := .code y_Trees_joinAll b_Trees_joinAll 4 none :: TB
abbrev b_Trees_takeLeast : ByteArray := prog_10_method_6_code
def y_Trees_takeLeast : MethodName := ⟨R_Trees, "takeLeast", "()I"⟩
def w_Trees_takeLeast : List Cond := .code y_Trees_takeLeast b_Trees_takeLeast 3 (some .int) :: TB
abbrev b_Trees_deepest : ByteArray := prog_10_method_7_code
def y_Trees_deepest : MethodName := ⟨R_Trees, "deepest", "()I"⟩
def w_Trees_deepest : List Cond := .code y_Trees_deepest b_Trees_deepest 3 (some .int) :: TB
abbrev b_Trees_halve : ByteArray := prog_10_method_8_code
def y_Trees_halve : MethodName := ⟨R_Trees, "halve", "(I)V"⟩
def w_Trees_halve : List Cond := .code y_Trees_halve b_Trees_halve 3 none :: TB
abbrev b_Unpacker_init : ByteArray := prog_11_method_1_code
def y_Unpacker_init : MethodName := ⟨R_Unpacker, "<init>", "(LPackedBytes$Row;LPackedBytes$Row;)V"⟩
def w_Unpacker_init : List Cond := .code y_Unpacker_init b_Unpacker_init 3 none :: TB
abbrev b_Unpacker_readStream : ByteArray := prog_11_method_2_code
def y_Unpacker_readStream : MethodName := ⟨R_Unpacker, "readStream", "(I)Z"⟩
def w_Unpacker_readStream : List Cond := .code y_Unpacker_readStream b_Unpacker_readStream 4 (some .boolean) :: TB
abbrev b_Unpacker_wrong : ByteArray := prog_11_method_3_code
def y_Unpacker_wrong : MethodName := ⟨R_Unpacker, "wrong", "(II)Z"⟩
def w_Unpacker_wrong : List Cond := .code y_Unpacker_wrong b_Unpacker_wrong 3 (some .boolean) :: TB
abbrev b_Unpacker_readBlock : ByteArray := prog_11_method_4_code
def y_Unpacker_readBlock : MethodName := ⟨R_Unpacker, "readBlock", "()Z"⟩
def w_Unpacker_readBlock : List Cond := .code y_Unpacker_readBlock b_Unpacker_readBlock 3 (some .boolean) :: TB
abbrev b_Unpacker_readStored : ByteArray := prog_11_method_5_code
def y_Unpacker_readStored : MethodName := ⟨R_Unpacker, "readStored", "()Z"⟩
def w_Unpacker_readStored : List Cond := .code y_Unpacker_readStored b_Unpacker_readStored 7 (some .boolean) :: TB
abbrev b_Unpacker_readOwnCodes : ByteArray := prog_11_method_6_code
def y_Unpacker_readOwnCodes : MethodName := ⟨R_Unpacker, "readOwnCodes", "()Z"⟩
def w_Unpacker_readOwnCodes : List Cond := .code y_Unpacker_readOwnCodes b_Unpacker_readOwnCodes 5 (some .boolean) :: TB
abbrev b_Unpacker_readCodeLengths : ByteArray := prog_11_method_7_code
def y_Unpacker_readCodeLengths : MethodName := ⟨R_Unpacker, "readCodeLengths", "(I)Z"⟩
def w_Unpacker_readCodeLengths : List Cond := .code y_Unpacker_readCodeLengths b_Unpacker_readCodeLengths 4 (some .boolean) :: TB
abbrev b_Unpacker_readLengths : ByteArray := prog_11_method_8_code
def y_Unpacker_readLengths : MethodName := ⟨R_Unpacker, "readLengths", "(II)Z"⟩
def w_Unpacker_readLengths : List Cond := .code y_Unpacker_readLengths b_Unpacker_readLengths 7 (some .boolean) :: TB
abbrev b_Unpacker_readLength : ByteArray := prog_11_method_9_code
def y_Unpacker_readLength : MethodName := ⟨R_Unpacker, "readLength", "(II)I"⟩
def w_Unpacker_readLength : List Cond := .code y_Unpacker_readLength b_Unpacker_readLength 9 (some .int) :: TB
abbrev b_Unpacker_readTokens : ByteArray := prog_11_method_10_code
def y_Unpacker_readTokens : MethodName := ⟨R_Unpacker, "readTokens", "(LPackedBytes$Decoder;LPackedBytes$Decoder;)Z"⟩
def w_Unpacker_readTokens : List Cond := .code y_Unpacker_readTokens b_Unpacker_readTokens 7 (some .boolean) :: TB
abbrev b_Unpacker_readMatch : ByteArray := prog_11_method_11_code
def y_Unpacker_readMatch : MethodName := ⟨R_Unpacker, "readMatch", "(IILPackedBytes$Decoder;)Z"⟩
def w_Unpacker_readMatch : List Cond := .code y_Unpacker_readMatch b_Unpacker_readMatch 8 (some .boolean) :: TB
abbrev b_Unpacker_readDistance : ByteArray := prog_11_method_12_code
def y_Unpacker_readDistance : MethodName := ⟨R_Unpacker, "readDistance", "(ILPackedBytes$Decoder;)I"⟩
def w_Unpacker_readDistance : List Cond := .code y_Unpacker_readDistance b_Unpacker_readDistance 5 (some .int) :: TB
abbrev b_PB_init : ByteArray := prog_1_method_1_code
def y_PB_init : MethodName := ⟨R_PB, "<init>", "()V"⟩
def w_PB_init : List Cond := .code y_PB_init b_PB_init 1 none :: TB
abbrev b_PB_feed : ByteArray := prog_1_method_2_code
def y_PB_feed : MethodName := ⟨R_PB, "feed", "(IIIII)V"⟩
def w_PB_feed : List Cond := .code y_PB_feed b_PB_feed 6 none :: TB
abbrev b_PB_end : ByteArray := prog_1_method_3_code
def y_PB_end : MethodName := ⟨R_PB, "end", "(I)V"⟩
def w_PB_end : List Cond := .code y_PB_end b_PB_end 2 none :: TB
abbrev b_PB_again : ByteArray := prog_1_method_4_code
def y_PB_again : MethodName := ⟨R_PB, "again", "(II)V"⟩
def w_PB_again : List Cond := .code y_PB_again b_PB_again 3 none :: TB
abbrev b_PB_length : ByteArray := prog_1_method_5_code
def y_PB_length : MethodName := ⟨R_PB, "length", "()I"⟩
def w_PB_length : List Cond := .code y_PB_length b_PB_length 1 (some .int) :: TB
abbrev b_PB_alter : ByteArray := prog_1_method_6_code
def y_PB_alter : MethodName := ⟨R_PB, "alter", "(II)V"⟩
def w_PB_alter : List Cond := .code y_PB_alter b_PB_alter 3 none :: TB
abbrev b_PB_pack : ByteArray := prog_1_method_7_code
def y_PB_pack : MethodName := ⟨R_PB, "pack", "()I"⟩
def w_PB_pack : List Cond := .code y_PB_pack b_PB_pack 1 (some .int) :: TB
abbrev b_PB_told : ByteArray := prog_1_method_8_code
def y_PB_told : MethodName := ⟨R_PB, "told", "(I)I"⟩
def w_PB_told : List Cond := .code y_PB_told b_PB_told 2 (some .int) :: TB
abbrev b_PB_codeLength : ByteArray := prog_1_method_9_code
def y_PB_codeLength : MethodName := ⟨R_PB, "codeLength", "(II)I"⟩
def w_PB_codeLength : List Cond := .code y_PB_codeLength b_PB_codeLength 4 (some .int) :: TB
abbrev b_PB_unpack : ByteArray := prog_1_method_10_code
def y_PB_unpack : MethodName := ⟨R_PB, "unpack", "(I)I"⟩
def w_PB_unpack : List Cond := .code y_PB_unpack b_PB_unpack 2 (some .int) :: TB
abbrev b_PB_blame : ByteArray := prog_1_method_11_code
def y_PB_blame : MethodName := ⟨R_PB, "blame", "(I)I"⟩
def w_PB_blame : List Cond := .code y_PB_blame b_PB_blame 2 (some .int) :: TB
abbrev b_PB_back : ByteArray := prog_1_method_12_code
def y_PB_back : MethodName := ⟨R_PB, "back", "()V"⟩
def w_PB_back : List Cond := .code y_PB_back b_PB_back 1 none :: TB
abbrev b_PB_size : ByteArray := prog_1_method_13_code
def y_PB_size : MethodName := ⟨R_PB, "size", "()I"⟩
def w_PB_size : List Cond := .code y_PB_size b_PB_size 1 (some .int) :: TB
abbrev b_PB_byteAt : ByteArray := prog_1_method_14_code
def y_PB_byteAt : MethodName := ⟨R_PB, "byteAt", "(I)I"⟩
def w_PB_byteAt : List Cond := .code y_PB_byteAt b_PB_byteAt 2 (some .int) :: TB
abbrev b_PB_check : ByteArray := prog_1_method_15_code
def y_PB_check : MethodName := ⟨R_PB, "check", "()J"⟩
def w_PB_check : List Cond := .code y_PB_check b_PB_check 5 (some .long) :: TB
abbrev b_PB_makeCheckTable : ByteArray := prog_1_method_16_code
def y_PB_makeCheckTable : MethodName := ⟨R_PB, "makeCheckTable", "()[I"⟩
def w_PB_makeCheckTable : List Cond := .code y_PB_makeCheckTable b_PB_makeCheckTable 4 (some (.array .int)) :: TB
abbrev b_PB_fixedLength : ByteArray := prog_1_method_17_code
def y_PB_fixedLength : MethodName := ⟨R_PB, "fixedLength", "(I)I"⟩
def w_PB_fixedLength : List Cond := .code y_PB_fixedLength b_PB_fixedLength 1 (some .int) :: TB
abbrev b_PB_fixedLengths : ByteArray := prog_1_method_18_code
def y_PB_fixedLengths : MethodName := ⟨R_PB, "fixedLengths", "()[I"⟩
def w_PB_fixedLengths : List Cond := .code y_PB_fixedLengths b_PB_fixedLengths 2 (some (.array .int)) :: TB
abbrev b_PB_fixedDistanceLengths : ByteArray := prog_1_method_19_code
def y_PB_fixedDistanceLengths : MethodName := ⟨R_PB, "fixedDistanceLengths", "()[I"⟩
def w_PB_fixedDistanceLengths : List Cond := .code y_PB_fixedDistanceLengths b_PB_fixedDistanceLengths 1 (some (.array .int)) :: TB
abbrev b_PB_repeatBits : ByteArray := prog_1_method_20_code
def y_PB_repeatBits : MethodName := ⟨R_PB, "repeatBits", "(I)I"⟩
def w_PB_repeatBits : List Cond := .code y_PB_repeatBits b_PB_repeatBits 1 (some .int) :: TB
abbrev b_PB_leastRepeat : ByteArray := prog_1_method_21_code
def y_PB_leastRepeat : MethodName := ⟨R_PB, "leastRepeat", "(I)I"⟩
def w_PB_leastRepeat : List Cond := .code y_PB_leastRepeat b_PB_leastRepeat 1 (some .int) :: TB
abbrev b_PB_lastNotAbove : ByteArray := prog_1_method_22_code
def y_PB_lastNotAbove : MethodName := ⟨R_PB, "lastNotAbove", "(I[I)I"⟩
def w_PB_lastNotAbove : List Cond := .code y_PB_lastNotAbove b_PB_lastNotAbove 4 (some .int) :: TB
abbrev b_La_feed : ByteArray := method_3_code
def y_La_feed : MethodName := ⟨R_La, "feed", "(LPackedBytes;IIIII)I"⟩
abbrev hh_La_feed : List (Nat × Nat × Nat × Nat) := [((0), (11), (14), (13))]
def w_La_feed : List Cond := .codeWith y_La_feed b_La_feed 7 (some .int) hh_La_feed :: TB
abbrev b_La_end : ByteArray := method_4_code
def y_La_end : MethodName := ⟨R_La, "end", "(LPackedBytes;I)I"⟩
abbrev hh_La_end : List (Nat × Nat × Nat × Nat) := [((0), (5), (8), (19))]
def w_La_end : List Cond := .codeWith y_La_end b_La_end 3 (some .int) hh_La_end :: TB
abbrev b_La_again : ByteArray := method_5_code
def y_La_again : MethodName := ⟨R_La, "again", "(LPackedBytes;II)I"⟩
abbrev hh_La_again : List (Nat × Nat × Nat × Nat) := [((0), (6), (9), (19)), ((0), (6), (12), (13))]
def w_La_again : List Cond := .codeWith y_La_again b_La_again 4 (some .int) hh_La_again :: TB
abbrev b_La_alter : ByteArray := method_6_code
def y_La_alter : MethodName := ⟨R_La, "alter", "(LPackedBytes;II)I"⟩
abbrev hh_La_alter : List (Nat × Nat × Nat × Nat) := [((0), (6), (9), (28)), ((0), (6), (12), (19))]
def w_La_alter : List Cond := .codeWith y_La_alter b_La_alter 4 (some .int) hh_La_alter :: TB
abbrev b_La_told : ByteArray := method_7_code
def y_La_told : MethodName := ⟨R_La, "told", "(LPackedBytes;I[J)I"⟩
abbrev hh_La_told : List (Nat × Nat × Nat × Nat) := [((0), (9), (12), (19))]
def w_La_told : List Cond := .codeWith y_La_told b_La_told 4 (some .int) hh_La_told :: TB
abbrev b_La_codeLength : ByteArray := method_8_code
def y_La_codeLength : MethodName := ⟨R_La, "codeLength", "(LPackedBytes;II[J)I"⟩
abbrev hh_La_codeLength : List (Nat × Nat × Nat × Nat) := [((0), (10), (13), (19))]
def w_La_codeLength : List Cond := .codeWith y_La_codeLength b_La_codeLength 5 (some .int) hh_La_codeLength :: TB
abbrev b_La_unpack : ByteArray := method_9_code
def y_La_unpack : MethodName := ⟨R_La, "unpack", "(LPackedBytes;I[J)I"⟩
abbrev hh_La_unpack : List (Nat × Nat × Nat × Nat) := [((0), (9), (12), (19))]
def w_La_unpack : List Cond := .codeWith y_La_unpack b_La_unpack 4 (some .int) hh_La_unpack :: TB
abbrev b_La_blame : ByteArray := method_10_code
def y_La_blame : MethodName := ⟨R_La, "blame", "(LPackedBytes;I[J)I"⟩
abbrev hh_La_blame : List (Nat × Nat × Nat × Nat) := [((0), (9), (12), (19))]
def w_La_blame : List Cond := .codeWith y_La_blame b_La_blame 4 (some .int) hh_La_blame :: TB
abbrev b_La_back : ByteArray := method_11_code
def y_La_back : MethodName := ⟨R_La, "back", "(LPackedBytes;)I"⟩
abbrev hh_La_back : List (Nat × Nat × Nat × Nat) := [((0), (4), (7), (13))]
def w_La_back : List Cond := .codeWith y_La_back b_La_back 2 (some .int) hh_La_back :: TB
abbrev b_La_byteAt : ByteArray := method_12_code
def y_La_byteAt : MethodName := ⟨R_La, "byteAt", "(LPackedBytes;I[J)I"⟩
abbrev hh_La_byteAt : List (Nat × Nat × Nat × Nat) := [((0), (9), (12), (28))]
def w_La_byteAt : List Cond := .codeWith y_La_byteAt b_La_byteAt 4 (some .int) hh_La_byteAt :: TB
abbrev b_Mo_init : ByteArray := prog_13_method_1_code
def y_Mo_init : MethodName := ⟨R_Mo, "<init>", "()V"⟩
def w_Mo_init : List Cond := .code y_Mo_init b_Mo_init 1 none :: TB
abbrev b_Mo_thrown : ByteArray := prog_13_method_2_code
def y_Mo_thrown : MethodName := ⟨R_Mo, "thrown", "()I"⟩
def w_Mo_thrown : List Cond := .code y_Mo_thrown b_Mo_thrown 1 (some .int) :: TB
abbrev b_Mo_feed : ByteArray := prog_13_method_3_code
def y_Mo_feed : MethodName := ⟨R_Mo, "feed", "(IIIII)V"⟩
def w_Mo_feed : List Cond := .code y_Mo_feed b_Mo_feed 8 none :: TB
abbrev b_Mo_end : ByteArray := prog_13_method_4_code
def y_Mo_end : MethodName := ⟨R_Mo, "end", "(I)V"⟩
def w_Mo_end : List Cond := .code y_Mo_end b_Mo_end 2 none :: TB
abbrev b_Mo_again : ByteArray := prog_13_method_5_code
def y_Mo_again : MethodName := ⟨R_Mo, "again", "(II)V"⟩
def w_Mo_again : List Cond := .code y_Mo_again b_Mo_again 4 none :: TB
abbrev b_Mo_length : ByteArray := prog_13_method_6_code
def y_Mo_length : MethodName := ⟨R_Mo, "length", "()I"⟩
def w_Mo_length : List Cond := .code y_Mo_length b_Mo_length 1 (some .int) :: TB
abbrev b_Mo_alter : ByteArray := prog_13_method_7_code
def y_Mo_alter : MethodName := ⟨R_Mo, "alter", "(II)V"⟩
def w_Mo_alter : List Cond := .code y_Mo_alter b_Mo_alter 3 none :: TB
abbrev b_Mo_check : ByteArray := prog_13_method_8_code
def y_Mo_check : MethodName := ⟨R_Mo, "check", "()J"⟩
def w_Mo_check : List Cond := .code y_Mo_check b_Mo_check 4 (some .long) :: TB
abbrev b_Mo_moreOf : ByteArray := prog_13_method_9_code
def y_Mo_moreOf : MethodName := ⟨R_Mo, "moreOf", "(I)I"⟩
def w_Mo_moreOf : List Cond := .code y_Mo_moreOf b_Mo_moreOf 1 (some .int) :: TB
abbrev b_Mo_lengthOf : ByteArray := prog_13_method_10_code
def y_Mo_lengthOf : MethodName := ⟨R_Mo, "lengthOf", "(I)I"⟩
def w_Mo_lengthOf : List Cond := .code y_Mo_lengthOf b_Mo_lengthOf 1 (some .int) :: TB
abbrev b_Mo_moreOfDistance : ByteArray := prog_13_method_11_code
def y_Mo_moreOfDistance : MethodName := ⟨R_Mo, "moreOfDistance", "(I)I"⟩
def w_Mo_moreOfDistance : List Cond := .code y_Mo_moreOfDistance b_Mo_moreOfDistance 1 (some .int) :: TB
abbrev b_Mo_distanceOf : ByteArray := prog_13_method_12_code
def y_Mo_distanceOf : MethodName := ⟨R_Mo, "distanceOf", "(I)I"⟩
def w_Mo_distanceOf : List Cond := .code y_Mo_distanceOf b_Mo_distanceOf 1 (some .int) :: TB
abbrev b_Mo_symbolOf : ByteArray := prog_13_method_13_code
def y_Mo_symbolOf : MethodName := ⟨R_Mo, "symbolOf", "(I)I"⟩
def w_Mo_symbolOf : List Cond := .code y_Mo_symbolOf b_Mo_symbolOf 2 (some .int) :: TB
abbrev b_Mo_symbolOfDistance : ByteArray := prog_13_method_14_code
def y_Mo_symbolOfDistance : MethodName := ⟨R_Mo, "symbolOfDistance", "(I)I"⟩
def w_Mo_symbolOfDistance : List Cond := .code y_Mo_symbolOfDistance b_Mo_symbolOfDistance 2 (some .int) :: TB
abbrev b_Mo_pairAt : ByteArray := prog_13_method_15_code
def y_Mo_pairAt : MethodName := ⟨R_Mo, "pairAt", "(I)I"⟩
def w_Mo_pairAt : List Cond := .code y_Mo_pairAt b_Mo_pairAt 2 (some .int) :: TB
abbrev b_Mo_sameFrom : ByteArray := prog_13_method_16_code
def y_Mo_sameFrom : MethodName := ⟨R_Mo, "sameFrom", "(II)I"⟩
def w_Mo_sameFrom : List Cond := .code y_Mo_sameFrom b_Mo_sameFrom 4 (some .int) :: TB
abbrev b_Mo_enter : ByteArray := prog_13_method_17_code
def y_Mo_enter : MethodName := ⟨R_Mo, "enter", "(II)I"⟩
def w_Mo_enter : List Cond := .code y_Mo_enter b_Mo_enter 4 (some .int) :: TB
abbrev b_Mo_findTokens : ByteArray := prog_13_method_18_code
def y_Mo_findTokens : MethodName := ⟨R_Mo, "findTokens", "()V"⟩
def w_Mo_findTokens : List Cond := .code y_Mo_findTokens b_Mo_findTokens 8 none :: TB
abbrev b_Mo_isMatch : ByteArray := prog_13_method_19_code
def y_Mo_isMatch : MethodName := ⟨R_Mo, "isMatch", "(I)Z"⟩
def w_Mo_isMatch : List Cond := .code y_Mo_isMatch b_Mo_isMatch 1 (some .boolean) :: TB
abbrev b_Mo_matchLength : ByteArray := prog_13_method_20_code
def y_Mo_matchLength : MethodName := ⟨R_Mo, "matchLength", "(I)I"⟩
def w_Mo_matchLength : List Cond := .code y_Mo_matchLength b_Mo_matchLength 1 (some .int) :: TB
abbrev b_Mo_matchBack : ByteArray := prog_13_method_21_code
def y_Mo_matchBack : MethodName := ⟨R_Mo, "matchBack", "(I)I"⟩
def w_Mo_matchBack : List Cond := .code y_Mo_matchBack b_Mo_matchBack 1 (some .int) :: TB
abbrev b_Mo_join : ByteArray := prog_13_method_22_code
def y_Mo_join : MethodName := ⟨R_Mo, "join", "([I[IIII)V"⟩
def w_Mo_join : List Cond := .code y_Mo_join b_Mo_join 15 none :: TB
abbrev b_Mo_least : ByteArray := prog_13_method_23_code
def y_Mo_least : MethodName := ⟨R_Mo, "least", "(II)I"⟩
def w_Mo_least : List Cond := .code y_Mo_least b_Mo_least 5 (some .int) :: TB
abbrev b_Mo_number : ByteArray := prog_13_method_24_code
def y_Mo_number : MethodName := ⟨R_Mo, "number", "([I[III)V"⟩
def w_Mo_number : List Cond := .code y_Mo_number b_Mo_number 8 none :: TB
abbrev b_Mo_runOf : ByteArray := prog_13_method_25_code
def y_Mo_runOf : MethodName := ⟨R_Mo, "runOf", "(III)I"⟩
def w_Mo_runOf : List Cond := .code y_Mo_runOf b_Mo_runOf 5 (some .int) :: TB
abbrev b_Mo_findRuns : ByteArray := prog_13_method_26_code
def y_Mo_findRuns : MethodName := ⟨R_Mo, "findRuns", "()V"⟩
def w_Mo_findRuns : List Cond := .code y_Mo_findRuns b_Mo_findRuns 6 none :: TB
abbrev b_Mo_fewAt : ByteArray := prog_13_method_27_code
def y_Mo_fewAt : MethodName := ⟨R_Mo, "fewAt", "(I)I"⟩
def w_Mo_fewAt : List Cond := .code y_Mo_fewAt b_Mo_fewAt 1 (some .int) :: TB
abbrev b_Mo_bitsOfTokens : ByteArray := prog_13_method_28_code
def y_Mo_bitsOfTokens : MethodName := ⟨R_Mo, "bitsOfTokens", "()I"⟩
def w_Mo_bitsOfTokens : List Cond := .code y_Mo_bitsOfTokens b_Mo_bitsOfTokens 6 (some .int) :: TB
abbrev b_Mo_setFixed : ByteArray := prog_13_method_29_code
def y_Mo_setFixed : MethodName := ⟨R_Mo, "setFixed", "()V"⟩
def w_Mo_setFixed : List Cond := .code y_Mo_setFixed b_Mo_setFixed 2 none :: TB
abbrev b_Mo_count : ByteArray := prog_13_method_30_code
def y_Mo_count : MethodName := ⟨R_Mo, "count", "()V"⟩
def w_Mo_count : List Cond := .code y_Mo_count b_Mo_count 3 none :: TB
abbrev b_Mo_setOwn : ByteArray := prog_13_method_31_code
def y_Mo_setOwn : MethodName := ⟨R_Mo, "setOwn", "()V"⟩
def w_Mo_setOwn : List Cond := .code y_Mo_setOwn b_Mo_setOwn 1 none :: TB
abbrev b_Mo_bit : ByteArray := prog_13_method_32_code
def y_Mo_bit : MethodName := ⟨R_Mo, "bit", "(I)V"⟩
def w_Mo_bit : List Cond := .code y_Mo_bit b_Mo_bit 2 none :: TB
abbrev b_Mo_low : ByteArray := prog_13_method_33_code
def y_Mo_low : MethodName := ⟨R_Mo, "low", "(II)V"⟩
def w_Mo_low : List Cond := .code y_Mo_low b_Mo_low 4 none :: TB
abbrev b_Mo_high : ByteArray := prog_13_method_34_code
def y_Mo_high : MethodName := ⟨R_Mo, "high", "(II)V"⟩
def w_Mo_high : List Cond := .code y_Mo_high b_Mo_high 4 none :: TB
abbrev b_Mo_writeStored : ByteArray := prog_13_method_35_code
def y_Mo_writeStored : MethodName := ⟨R_Mo, "writeStored", "()V"⟩
def w_Mo_writeStored : List Cond := .code y_Mo_writeStored b_Mo_writeStored 5 none :: TB
abbrev b_Mo_writeTokens : ByteArray := prog_13_method_36_code
def y_Mo_writeTokens : MethodName := ⟨R_Mo, "writeTokens", "()V"⟩
def w_Mo_writeTokens : List Cond := .code y_Mo_writeTokens b_Mo_writeTokens 5 none :: TB
abbrev b_Mo_writeOwn : ByteArray := prog_13_method_37_code
def y_Mo_writeOwn : MethodName := ⟨R_Mo, "writeOwn", "()V"⟩
def w_Mo_writeOwn : List Cond := .code y_Mo_writeOwn b_Mo_writeOwn 2 none :: TB
abbrev b_Mo_pack : ByteArray := prog_13_method_38_code
def y_Mo_pack : MethodName := ⟨R_Mo, "pack", "()I"⟩
def w_Mo_pack : List Cond := .code y_Mo_pack b_Mo_pack 3 (some .int) :: TB
abbrev b_Mo_told : ByteArray := prog_13_method_39_code
def y_Mo_told : MethodName := ⟨R_Mo, "told", "(I)I"⟩
def w_Mo_told : List Cond := .code y_Mo_told b_Mo_told 2 (some .int) :: TB
abbrev b_Mo_codeLength : ByteArray := prog_13_method_40_code
def y_Mo_codeLength : MethodName := ⟨R_Mo, "codeLength", "(II)I"⟩
def w_Mo_codeLength : List Cond := .code y_Mo_codeLength b_Mo_codeLength 4 (some .int) :: TB
abbrev b_Mo_wrong : ByteArray := prog_13_method_41_code
def y_Mo_wrong : MethodName := ⟨R_Mo, "wrong", "(II)Z"⟩
def w_Mo_wrong : List Cond := .code y_Mo_wrong b_Mo_wrong 3 (some .boolean) :: TB
abbrev b_Mo_next : ByteArray := prog_13_method_42_code
def y_Mo_next : MethodName := ⟨R_Mo, "next", "()I"⟩
def w_Mo_next : List Cond := .code y_Mo_next b_Mo_next 2 (some .int) :: TB
abbrev b_Mo_take : ByteArray := prog_13_method_43_code
def y_Mo_take : MethodName := ⟨R_Mo, "take", "(I)I"⟩
def w_Mo_take : List Cond := .code y_Mo_take b_Mo_take 4 (some .int) :: TB
abbrev b_Mo_sort : ByteArray := prog_13_method_44_code
def y_Mo_sort : MethodName := ⟨R_Mo, "sort", "([IIII)V"⟩
def w_Mo_sort : List Cond := .code y_Mo_sort b_Mo_sort 8 none :: TB
abbrev b_Mo_used : ByteArray := prog_13_method_45_code
def y_Mo_used : MethodName := ⟨R_Mo, "used", "(I)I"⟩
def w_Mo_used : List Cond := .code y_Mo_used b_Mo_used 4 (some .int) :: TB
abbrev b_Mo_codesIn : ByteArray := prog_13_method_46_code
def y_Mo_codesIn : MethodName := ⟨R_Mo, "codesIn", "(I)I"⟩
def w_Mo_codesIn : List Cond := .code y_Mo_codesIn b_Mo_codesIn 4 (some .int) :: TB
abbrev b_Mo_symbol : ByteArray := prog_13_method_47_code
def y_Mo_symbol : MethodName := ⟨R_Mo, "symbol", "(I)I"⟩
def w_Mo_symbol : List Cond := .code y_Mo_symbol b_Mo_symbol 7 (some .int) :: TB
abbrev b_Mo_readStored : ByteArray := prog_13_method_48_code
def y_Mo_readStored : MethodName := ⟨R_Mo, "readStored", "()Z"⟩
def w_Mo_readStored : List Cond := .code y_Mo_readStored b_Mo_readStored 5 (some .boolean) :: TB
abbrev b_Mo_readOwn : ByteArray := prog_13_method_49_code
def y_Mo_readOwn : MethodName := ⟨R_Mo, "readOwn", "()Z"⟩
def w_Mo_readOwn : List Cond := .code y_Mo_readOwn b_Mo_readOwn 12 (some .boolean) :: TB
abbrev b_Mo_readMatch : ByteArray := prog_13_method_50_code
def y_Mo_readMatch : MethodName := ⟨R_Mo, "readMatch", "(I)Z"⟩
def w_Mo_readMatch : List Cond := .code y_Mo_readMatch b_Mo_readMatch 7 (some .boolean) :: TB
abbrev b_Mo_readTokens : ByteArray := prog_13_method_51_code
def y_Mo_readTokens : MethodName := ⟨R_Mo, "readTokens", "()Z"⟩
def w_Mo_readTokens : List Cond := .code y_Mo_readTokens b_Mo_readTokens 6 (some .boolean) :: TB
abbrev b_Mo_readBlocks : ByteArray := prog_13_method_52_code
def y_Mo_readBlocks : MethodName := ⟨R_Mo, "readBlocks", "()Z"⟩
def w_Mo_readBlocks : List Cond := .code y_Mo_readBlocks b_Mo_readBlocks 4 (some .boolean) :: TB
abbrev b_Mo_unpack : ByteArray := prog_13_method_53_code
def y_Mo_unpack : MethodName := ⟨R_Mo, "unpack", "(I)I"⟩
def w_Mo_unpack : List Cond := .code y_Mo_unpack b_Mo_unpack 3 (some .int) :: TB
abbrev b_Mo_blame : ByteArray := prog_13_method_54_code
def y_Mo_blame : MethodName := ⟨R_Mo, "blame", "(I)I"⟩
def w_Mo_blame : List Cond := .code y_Mo_blame b_Mo_blame 2 (some .int) :: TB
abbrev b_Mo_back : ByteArray := prog_13_method_55_code
def y_Mo_back : MethodName := ⟨R_Mo, "back", "()V"⟩
def w_Mo_back : List Cond := .code y_Mo_back b_Mo_back 2 none :: TB
abbrev b_Mo_size : ByteArray := prog_13_method_56_code
def y_Mo_size : MethodName := ⟨R_Mo, "size", "()I"⟩
def w_Mo_size : List Cond := .code y_Mo_size b_Mo_size 1 (some .int) :: TB
abbrev b_Mo_byteAt : ByteArray := prog_13_method_57_code
def y_Mo_byteAt : MethodName := ⟨R_Mo, "byteAt", "(I)I"⟩
def w_Mo_byteAt : List Cond := .code y_Mo_byteAt b_Mo_byteAt 2 (some .int) :: TB
abbrev b_JA_fill : ByteArray := prog_23_method_103_code
def y_JA_fill : MethodName := ⟨R_JA, "fill", "([II)V"⟩
def w_JA_fill : List Cond := .code y_JA_fill b_JA_fill 4 none :: TB
