theorem d_Matcher_hash_0 : decode b_Matcher_hash 0 = .ok (.aload_n 0, 1) := by decide +kernel
theorem d_Matcher_hash_1 : decode b_Matcher_hash 1 = .ok (.getfield 35, 3) := by decide +kernel
theorem d_Matcher_hash_4 : decode b_Matcher_hash 4 = .ok (.getfield 63, 3) := by decide +kernel
theorem d_Matcher_hash_7 : decode b_Matcher_hash 7 = .ok (.astore_n 2, 1) := by decide +kernel
theorem d_Matcher_hash_8 : decode b_Matcher_hash 8 = .ok (.aload_n 2, 1) := by decide +kernel
theorem d_Matcher_hash_9 : decode b_Matcher_hash 9 = .ok (.iload_n 1, 1) := by decide +kernel
theorem d_Matcher_hash_10 : decode b_Matcher_hash 10 = .ok (.baload, 1) := by decide +kernel
theorem d_Matcher_hash_11 : decode b_Matcher_hash 11 = .ok (.sipush 255, 3) := by decide +kernel
theorem d_Matcher_hash_14 : decode b_Matcher_hash 14 = .ok (.iand, 1) := by decide +kernel
theorem d_Matcher_hash_15 : decode b_Matcher_hash 15 = .ok (.bipush 16, 2) := by decide +kernel
theorem d_Matcher_hash_17 : decode b_Matcher_hash 17 = .ok (.ishl, 1) := by decide +kernel
theorem d_Matcher_hash_18 : decode b_Matcher_hash 18 = .ok (.aload_n 2, 1) := by decide +kernel
theorem d_Matcher_hash_19 : decode b_Matcher_hash 19 = .ok (.iload_n 1, 1) := by decide +kernel
theorem d_Matcher_hash_20 : decode b_Matcher_hash 20 = .ok (.iconst 1, 1) := by decide +kernel
theorem d_Matcher_hash_21 : decode b_Matcher_hash 21 = .ok (.iadd, 1) := by decide +kernel
theorem d_Matcher_hash_22 : decode b_Matcher_hash 22 = .ok (.baload, 1) := by decide +kernel
theorem d_Matcher_hash_23 : decode b_Matcher_hash 23 = .ok (.sipush 255, 3) := by decide +kernel
theorem d_Matcher_hash_26 : decode b_Matcher_hash 26 = .ok (.iand, 1) := by decide +kernel
theorem d_Matcher_hash_27 : decode b_Matcher_hash 27 = .ok (.bipush 8, 2) := by decide +kernel
theorem d_Matcher_hash_29 : decode b_Matcher_hash 29 = .ok (.ishl, 1) := by decide +kernel
theorem d_Matcher_hash_30 : decode b_Matcher_hash 30 = .ok (.ior, 1) := by decide +kernel
theorem d_Matcher_hash_31 : decode b_Matcher_hash 31 = .ok (.aload_n 2, 1) := by decide +kernel
theorem d_Matcher_hash_32 : decode b_Matcher_hash 32 = .ok (.iload_n 1, 1) := by decide +kernel
theorem d_Matcher_hash_33 : decode b_Matcher_hash 33 = .ok (.iconst 2, 1) := by decide +kernel
theorem d_Matcher_hash_34 : decode b_Matcher_hash 34 = .ok (.iadd, 1) := by decide +kernel
theorem d_Matcher_hash_35 : decode b_Matcher_hash 35 = .ok (.baload, 1) := by decide +kernel
theorem d_Matcher_hash_36 : decode b_Matcher_hash 36 = .ok (.sipush 255, 3) := by decide +kernel
theorem d_Matcher_hash_39 : decode b_Matcher_hash 39 = .ok (.iand, 1) := by decide +kernel
theorem d_Matcher_hash_40 : decode b_Matcher_hash 40 = .ok (.ior, 1) := by decide +kernel
theorem d_Matcher_hash_41 : decode b_Matcher_hash 41 = .ok (.istore_n 3, 1) := by decide +kernel
theorem d_Matcher_hash_42 : decode b_Matcher_hash 42 = .ok (.iload_n 3, 1) := by decide +kernel
theorem d_Matcher_hash_43 : decode b_Matcher_hash 43 = .ok (.ldc 83, 2) := by decide +kernel
theorem d_Matcher_hash_45 : decode b_Matcher_hash 45 = .ok (.imul, 1) := by decide +kernel
theorem d_Matcher_hash_46 : decode b_Matcher_hash 46 = .ok (.bipush 18, 2) := by decide +kernel
theorem d_Matcher_hash_48 : decode b_Matcher_hash 48 = .ok (.iushr, 1) := by decide +kernel
theorem d_Matcher_hash_49 : decode b_Matcher_hash 49 = .ok (.ireturn, 1) := by decide +kernel
theorem d_Matcher_sameThree_0 : decode b_Matcher_sameThree 0 = .ok (.aload_n 0, 1) := by decide +kernel
theorem d_Matcher_sameThree_1 : decode b_Matcher_sameThree 1 = .ok (.getfield 35, 3) := by decide +kernel
theorem d_Matcher_sameThree_4 : decode b_Matcher_sameThree 4 = .ok (.getfield 63, 3) := by decide +kernel
theorem d_Matcher_sameThree_7 : decode b_Matcher_sameThree 7 = .ok (.astore_n 3, 1) := by decide +kernel
theorem d_Matcher_sameThree_8 : decode b_Matcher_sameThree 8 = .ok (.aload_n 3, 1) := by decide +kernel
theorem d_Matcher_sameThree_9 : decode b_Matcher_sameThree 9 = .ok (.iload_n 1, 1) := by decide +kernel
theorem d_Matcher_sameThree_10 : decode b_Matcher_sameThree 10 = .ok (.baload, 1) := by decide +kernel
theorem d_Matcher_sameThree_11 : decode b_Matcher_sameThree 11 = .ok (.aload_n 3, 1) := by decide +kernel
theorem d_Matcher_sameThree_12 : decode b_Matcher_sameThree 12 = .ok (.iload_n 2, 1) := by decide +kernel
theorem d_Matcher_sameThree_13 : decode b_Matcher_sameThree 13 = .ok (.baload, 1) := by decide +kernel
theorem d_Matcher_sameThree_14 : decode b_Matcher_sameThree 14 = .ok (.if_icmp .ne 33, 3) := by decide +kernel
theorem d_Matcher_sameThree_17 : decode b_Matcher_sameThree 17 = .ok (.aload_n 3, 1) := by decide +kernel
theorem d_Matcher_sameThree_18 : decode b_Matcher_sameThree 18 = .ok (.iload_n 1, 1) := by decide +kernel
theorem d_Matcher_sameThree_19 : decode b_Matcher_sameThree 19 = .ok (.iconst 1, 1) := by decide +kernel
theorem d_Matcher_sameThree_20 : decode b_Matcher_sameThree 20 = .ok (.iadd, 1) := by decide +kernel
theorem d_Matcher_sameThree_21 : decode b_Matcher_sameThree 21 = .ok (.baload, 1) := by decide +kernel
theorem d_Matcher_sameThree_22 : decode b_Matcher_sameThree 22 = .ok (.aload_n 3, 1) := by decide +kernel
theorem d_Matcher_sameThree_23 : decode b_Matcher_sameThree 23 = .ok (.iload_n 2, 1) := by decide +kernel
theorem d_Matcher_sameThree_24 : decode b_Matcher_sameThree 24 = .ok (.iconst 1, 1) := by decide +kernel
theorem d_Matcher_sameThree_25 : decode b_Matcher_sameThree 25 = .ok (.iadd, 1) := by decide +kernel
theorem d_Matcher_sameThree_26 : decode b_Matcher_sameThree 26 = .ok (.baload, 1) := by decide +kernel
theorem d_Matcher_sameThree_27 : decode b_Matcher_sameThree 27 = .ok (.if_icmp .ne 20, 3) := by decide +kernel
theorem d_Matcher_sameThree_30 : decode b_Matcher_sameThree 30 = .ok (.aload_n 3, 1) := by decide +kernel
theorem d_Matcher_sameThree_31 : decode b_Matcher_sameThree 31 = .ok (.iload_n 1, 1) := by decide +kernel
theorem d_Matcher_sameThree_32 : decode b_Matcher_sameThree 32 = .ok (.iconst 2, 1) := by decide +kernel
theorem d_Matcher_sameThree_33 : decode b_Matcher_sameThree 33 = .ok (.iadd, 1) := by decide +kernel
theorem d_Matcher_sameThree_34 : decode b_Matcher_sameThree 34 = .ok (.baload, 1) := by decide +kernel
theorem d_Matcher_sameThree_35 : decode b_Matcher_sameThree 35 = .ok (.aload_n 3, 1) := by decide +kernel
theorem d_Matcher_sameThree_36 : decode b_Matcher_sameThree 36 = .ok (.iload_n 2, 1) := by decide +kernel
theorem d_Matcher_sameThree_37 : decode b_Matcher_sameThree 37 = .ok (.iconst 2, 1) := by decide +kernel
theorem d_Matcher_sameThree_38 : decode b_Matcher_sameThree 38 = .ok (.iadd, 1) := by decide +kernel
theorem d_Matcher_sameThree_39 : decode b_Matcher_sameThree 39 = .ok (.baload, 1) := by decide +kernel
theorem d_Matcher_sameThree_40 : decode b_Matcher_sameThree 40 = .ok (.if_icmp .ne 7, 3) := by decide +kernel
theorem d_Matcher_sameThree_43 : decode b_Matcher_sameThree 43 = .ok (.iconst 1, 1) := by decide +kernel
theorem d_Matcher_sameThree_44 : decode b_Matcher_sameThree 44 = .ok (.goto 4, 3) := by decide +kernel
theorem d_Matcher_sameThree_47 : decode b_Matcher_sameThree 47 = .ok (.iconst 0, 1) := by decide +kernel
theorem d_Matcher_sameThree_48 : decode b_Matcher_sameThree 48 = .ok (.ireturn, 1) := by decide +kernel
theorem d_Matcher_compare_0 : decode b_Matcher_compare 0 = .ok (.aload_n 0, 1) := by decide +kernel
theorem d_Matcher_compare_1 : decode b_Matcher_compare 1 = .ok (.getfield 35, 3) := by decide +kernel
theorem d_Matcher_compare_4 : decode b_Matcher_compare 4 = .ok (.getfield 63, 3) := by decide +kernel
theorem d_Matcher_compare_7 : decode b_Matcher_compare 7 = .ok (.astore 4, 2) := by decide +kernel
theorem d_Matcher_compare_9 : decode b_Matcher_compare 9 = .ok (.iconst 3, 1) := by decide +kernel
theorem d_Matcher_compare_10 : decode b_Matcher_compare 10 = .ok (.istore 5, 2) := by decide +kernel
theorem d_Matcher_compare_12 : decode b_Matcher_compare 12 = .ok (.iload 5, 2) := by decide +kernel
theorem d_Matcher_compare_14 : decode b_Matcher_compare 14 = .ok (.iload_n 3, 1) := by decide +kernel
theorem d_Matcher_compare_15 : decode b_Matcher_compare 15 = .ok (.if_icmp .ge 26, 3) := by decide +kernel
theorem d_Matcher_compare_18 : decode b_Matcher_compare 18 = .ok (.aload 4, 2) := by decide +kernel
theorem d_Matcher_compare_20 : decode b_Matcher_compare 20 = .ok (.iload_n 1, 1) := by decide +kernel
theorem d_Matcher_compare_21 : decode b_Matcher_compare 21 = .ok (.iload 5, 2) := by decide +kernel
theorem d_Matcher_compare_23 : decode b_Matcher_compare 23 = .ok (.iadd, 1) := by decide +kernel
theorem d_Matcher_compare_24 : decode b_Matcher_compare 24 = .ok (.baload, 1) := by decide +kernel
theorem d_Matcher_compare_25 : decode b_Matcher_compare 25 = .ok (.aload 4, 2) := by decide +kernel
theorem d_Matcher_compare_27 : decode b_Matcher_compare 27 = .ok (.iload_n 2, 1) := by decide +kernel
theorem d_Matcher_compare_28 : decode b_Matcher_compare 28 = .ok (.iload 5, 2) := by decide +kernel
theorem d_Matcher_compare_30 : decode b_Matcher_compare 30 = .ok (.iadd, 1) := by decide +kernel
theorem d_Matcher_compare_31 : decode b_Matcher_compare 31 = .ok (.baload, 1) := by decide +kernel
theorem d_Matcher_compare_32 : decode b_Matcher_compare 32 = .ok (.if_icmp .ne 9, 3) := by decide +kernel
theorem d_Matcher_compare_35 : decode b_Matcher_compare 35 = .ok (.iinc 5 1, 3) := by decide +kernel
theorem d_Matcher_compare_38 : decode b_Matcher_compare 38 = .ok (.goto (-26), 3) := by decide +kernel
theorem d_Matcher_compare_41 : decode b_Matcher_compare 41 = .ok (.iload 5, 2) := by decide +kernel
theorem d_Matcher_compare_43 : decode b_Matcher_compare 43 = .ok (.aload_n 0, 1) := by decide +kernel
theorem d_Matcher_compare_44 : decode b_Matcher_compare 44 = .ok (.getfield 29, 3) := by decide +kernel
theorem d_Matcher_compare_47 : decode b_Matcher_compare 47 = .ok (.if_icmp .le 16, 3) := by decide +kernel
theorem d_Matcher_compare_50 : decode b_Matcher_compare 50 = .ok (.aload_n 0, 1) := by decide +kernel
theorem d_Matcher_compare_51 : decode b_Matcher_compare 51 = .ok (.iload 5, 2) := by decide +kernel
theorem d_Matcher_compare_53 : decode b_Matcher_compare 53 = .ok (.putfield 29, 3) := by decide +kernel
theorem d_Matcher_compare_56 : decode b_Matcher_compare 56 = .ok (.aload_n 0, 1) := by decide +kernel
theorem d_Matcher_compare_57 : decode b_Matcher_compare 57 = .ok (.iload_n 2, 1) := by decide +kernel
theorem d_Matcher_compare_58 : decode b_Matcher_compare 58 = .ok (.iload_n 1, 1) := by decide +kernel
theorem d_Matcher_compare_59 : decode b_Matcher_compare 59 = .ok (.isub, 1) := by decide +kernel
theorem d_Matcher_compare_60 : decode b_Matcher_compare 60 = .ok (.putfield 32, 3) := by decide +kernel
theorem d_Matcher_compare_63 : decode b_Matcher_compare 63 = .ok (.return_, 1) := by decide +kernel
theorem d_Matcher_remember_0 : decode b_Matcher_remember 0 = .ok (.iload_n 1, 1) := by decide +kernel
theorem d_Matcher_remember_1 : decode b_Matcher_remember 1 = .ok (.istore_n 3, 1) := by decide +kernel
theorem d_Matcher_remember_2 : decode b_Matcher_remember 2 = .ok (.iload_n 3, 1) := by decide +kernel
theorem d_Matcher_remember_3 : decode b_Matcher_remember 3 = .ok (.iload_n 2, 1) := by decide +kernel
theorem d_Matcher_remember_4 : decode b_Matcher_remember 4 = .ok (.if_icmp .ge 37, 3) := by decide +kernel
theorem d_Matcher_remember_7 : decode b_Matcher_remember 7 = .ok (.aload_n 0, 1) := by decide +kernel
theorem d_Matcher_remember_8 : decode b_Matcher_remember 8 = .ok (.iload_n 3, 1) := by decide +kernel
theorem d_Matcher_remember_9 : decode b_Matcher_remember 9 = .ok (.invokevirtual 70, 3) := by decide +kernel
theorem d_Matcher_remember_12 : decode b_Matcher_remember 12 = .ok (.istore 4, 2) := by decide +kernel
theorem d_Matcher_remember_14 : decode b_Matcher_remember 14 = .ok (.aload_n 0, 1) := by decide +kernel
theorem d_Matcher_remember_15 : decode b_Matcher_remember 15 = .ok (.getfield 16, 3) := by decide +kernel
theorem d_Matcher_remember_18 : decode b_Matcher_remember 18 = .ok (.iload_n 3, 1) := by decide +kernel
theorem d_Matcher_remember_19 : decode b_Matcher_remember 19 = .ok (.aload_n 0, 1) := by decide +kernel
theorem d_Matcher_remember_20 : decode b_Matcher_remember 20 = .ok (.getfield 11, 3) := by decide +kernel
theorem d_Matcher_remember_23 : decode b_Matcher_remember 23 = .ok (.iload 4, 2) := by decide +kernel
theorem d_Matcher_remember_25 : decode b_Matcher_remember 25 = .ok (.iaload, 1) := by decide +kernel
theorem d_Matcher_remember_26 : decode b_Matcher_remember 26 = .ok (.iastore, 1) := by decide +kernel
theorem d_Matcher_remember_27 : decode b_Matcher_remember 27 = .ok (.aload_n 0, 1) := by decide +kernel
theorem d_Matcher_remember_28 : decode b_Matcher_remember 28 = .ok (.getfield 11, 3) := by decide +kernel
theorem d_Matcher_remember_31 : decode b_Matcher_remember 31 = .ok (.iload 4, 2) := by decide +kernel
theorem d_Matcher_remember_33 : decode b_Matcher_remember 33 = .ok (.iload_n 3, 1) := by decide +kernel
theorem d_Matcher_remember_34 : decode b_Matcher_remember 34 = .ok (.iastore, 1) := by decide +kernel
theorem d_Matcher_remember_35 : decode b_Matcher_remember 35 = .ok (.iinc 3 1, 3) := by decide +kernel
theorem d_Matcher_remember_38 : decode b_Matcher_remember 38 = .ok (.goto (-36), 3) := by decide +kernel
theorem d_Matcher_remember_41 : decode b_Matcher_remember 41 = .ok (.return_, 1) := by decide +kernel
theorem d_Matcher_findMatch_0 : decode b_Matcher_findMatch 0 = .ok (.aload_n 0, 1) := by decide +kernel
theorem d_Matcher_findMatch_1 : decode b_Matcher_findMatch 1 = .ok (.iconst 0, 1) := by decide +kernel
theorem d_Matcher_findMatch_2 : decode b_Matcher_findMatch 2 = .ok (.putfield 29, 3) := by decide +kernel
theorem d_Matcher_findMatch_5 : decode b_Matcher_findMatch 5 = .ok (.aload_n 0, 1) := by decide +kernel
theorem d_Matcher_findMatch_6 : decode b_Matcher_findMatch 6 = .ok (.iconst 0, 1) := by decide +kernel
theorem d_Matcher_findMatch_7 : decode b_Matcher_findMatch 7 = .ok (.putfield 32, 3) := by decide +kernel
theorem d_Matcher_findMatch_10 : decode b_Matcher_findMatch 10 = .ok (.sipush 258, 3) := by decide +kernel
theorem d_Matcher_findMatch_13 : decode b_Matcher_findMatch 13 = .ok (.iload_n 2, 1) := by decide +kernel
theorem d_Matcher_findMatch_14 : decode b_Matcher_findMatch 14 = .ok (.iload_n 1, 1) := by decide +kernel
theorem d_Matcher_findMatch_15 : decode b_Matcher_findMatch 15 = .ok (.isub, 1) := by decide +kernel
theorem d_Matcher_findMatch_16 : decode b_Matcher_findMatch 16 = .ok (.invokestatic 50, 3) := by decide +kernel
theorem d_Matcher_findMatch_19 : decode b_Matcher_findMatch 19 = .ok (.istore_n 3, 1) := by decide +kernel
theorem d_Matcher_findMatch_20 : decode b_Matcher_findMatch 20 = .ok (.iload_n 3, 1) := by decide +kernel
theorem d_Matcher_findMatch_21 : decode b_Matcher_findMatch 21 = .ok (.iconst 3, 1) := by decide +kernel
theorem d_Matcher_findMatch_22 : decode b_Matcher_findMatch 22 = .ok (.if_icmp .ge 4, 3) := by decide +kernel
theorem d_Matcher_findMatch_25 : decode b_Matcher_findMatch 25 = .ok (.return_, 1) := by decide +kernel
theorem d_Matcher_findMatch_26 : decode b_Matcher_findMatch 26 = .ok (.aload_n 0, 1) := by decide +kernel
theorem d_Matcher_findMatch_27 : decode b_Matcher_findMatch 27 = .ok (.getfield 35, 3) := by decide +kernel
theorem d_Matcher_findMatch_30 : decode b_Matcher_findMatch 30 = .ok (.getfield 63, 3) := by decide +kernel
theorem d_Matcher_findMatch_33 : decode b_Matcher_findMatch 33 = .ok (.astore 4, 2) := by decide +kernel
theorem d_Matcher_findMatch_35 : decode b_Matcher_findMatch 35 = .ok (.aload_n 0, 1) := by decide +kernel
theorem d_Matcher_findMatch_36 : decode b_Matcher_findMatch 36 = .ok (.getfield 11, 3) := by decide +kernel
theorem d_Matcher_findMatch_39 : decode b_Matcher_findMatch 39 = .ok (.aload_n 0, 1) := by decide +kernel
theorem d_Matcher_findMatch_40 : decode b_Matcher_findMatch 40 = .ok (.iload_n 1, 1) := by decide +kernel
theorem d_Matcher_findMatch_41 : decode b_Matcher_findMatch 41 = .ok (.invokevirtual 70, 3) := by decide +kernel
theorem d_Matcher_findMatch_44 : decode b_Matcher_findMatch 44 = .ok (.iaload, 1) := by decide +kernel
theorem d_Matcher_findMatch_45 : decode b_Matcher_findMatch 45 = .ok (.istore 5, 2) := by decide +kernel
theorem d_Matcher_findMatch_47 : decode b_Matcher_findMatch 47 = .ok (.iconst 0, 1) := by decide +kernel
theorem d_Matcher_findMatch_48 : decode b_Matcher_findMatch 48 = .ok (.istore 6, 2) := by decide +kernel
theorem d_Matcher_findMatch_50 : decode b_Matcher_findMatch 50 = .ok (.iconst 0, 1) := by decide +kernel
theorem d_Matcher_findMatch_51 : decode b_Matcher_findMatch 51 = .ok (.istore 7, 2) := by decide +kernel
theorem d_Matcher_findMatch_53 : decode b_Matcher_findMatch 53 = .ok (.iload 7, 2) := by decide +kernel
theorem d_Matcher_findMatch_55 : decode b_Matcher_findMatch 55 = .ok (.ldc 74, 2) := by decide +kernel
theorem d_Matcher_findMatch_57 : decode b_Matcher_findMatch 57 = .ok (.if_icmp .ge 91, 3) := by decide +kernel
theorem d_Matcher_findMatch_60 : decode b_Matcher_findMatch 60 = .ok (.iload 6, 2) := by decide +kernel
theorem d_Matcher_findMatch_62 : decode b_Matcher_findMatch 62 = .ok (.bipush 64, 2) := by decide +kernel
theorem d_Matcher_findMatch_64 : decode b_Matcher_findMatch 64 = .ok (.if_icmp .ge 84, 3) := by decide +kernel
theorem d_Matcher_findMatch_67 : decode b_Matcher_findMatch 67 = .ok (.aload_n 0, 1) := by decide +kernel
theorem d_Matcher_findMatch_68 : decode b_Matcher_findMatch 68 = .ok (.getfield 29, 3) := by decide +kernel
theorem d_Matcher_findMatch_71 : decode b_Matcher_findMatch 71 = .ok (.iload_n 3, 1) := by decide +kernel
theorem d_Matcher_findMatch_72 : decode b_Matcher_findMatch 72 = .ok (.if_icmp .ge 76, 3) := by decide +kernel
theorem d_Matcher_findMatch_75 : decode b_Matcher_findMatch 75 = .ok (.iload 5, 2) := by decide +kernel
theorem d_Matcher_findMatch_77 : decode b_Matcher_findMatch 77 = .ok (.ifCond .lt 12, 3) := by decide +kernel
theorem d_Matcher_findMatch_80 : decode b_Matcher_findMatch 80 = .ok (.iload_n 1, 1) := by decide +kernel
theorem d_Matcher_findMatch_81 : decode b_Matcher_findMatch 81 = .ok (.iload 5, 2) := by decide +kernel
theorem d_Matcher_findMatch_83 : decode b_Matcher_findMatch 83 = .ok (.isub, 1) := by decide +kernel
theorem d_Matcher_findMatch_84 : decode b_Matcher_findMatch 84 = .ok (.ldc 74, 2) := by decide +kernel
theorem d_Matcher_findMatch_86 : decode b_Matcher_findMatch 86 = .ok (.if_icmp .le 4, 3) := by decide +kernel
theorem d_Matcher_findMatch_89 : decode b_Matcher_findMatch 89 = .ok (.return_, 1) := by decide +kernel
theorem d_Matcher_findMatch_90 : decode b_Matcher_findMatch 90 = .ok (.aload_n 0, 1) := by decide +kernel
theorem d_Matcher_findMatch_91 : decode b_Matcher_findMatch 91 = .ok (.iload 5, 2) := by decide +kernel
theorem d_Matcher_findMatch_93 : decode b_Matcher_findMatch 93 = .ok (.iload_n 1, 1) := by decide +kernel
theorem d_Matcher_findMatch_94 : decode b_Matcher_findMatch 94 = .ok (.invokevirtual 75, 3) := by decide +kernel
theorem d_Matcher_findMatch_97 : decode b_Matcher_findMatch 97 = .ok (.ifCond .eq 36, 3) := by decide +kernel
theorem d_Matcher_findMatch_100 : decode b_Matcher_findMatch 100 = .ok (.iinc 6 1, 3) := by decide +kernel
theorem d_Matcher_findMatch_103 : decode b_Matcher_findMatch 103 = .ok (.aload 4, 2) := by decide +kernel
theorem d_Matcher_findMatch_105 : decode b_Matcher_findMatch 105 = .ok (.iload 5, 2) := by decide +kernel
theorem d_Matcher_findMatch_107 : decode b_Matcher_findMatch 107 = .ok (.aload_n 0, 1) := by decide +kernel
theorem d_Matcher_findMatch_108 : decode b_Matcher_findMatch 108 = .ok (.getfield 29, 3) := by decide +kernel
theorem d_Matcher_findMatch_111 : decode b_Matcher_findMatch 111 = .ok (.iadd, 1) := by decide +kernel
theorem d_Matcher_findMatch_112 : decode b_Matcher_findMatch 112 = .ok (.baload, 1) := by decide +kernel
theorem d_Matcher_findMatch_113 : decode b_Matcher_findMatch 113 = .ok (.aload 4, 2) := by decide +kernel
theorem d_Matcher_findMatch_115 : decode b_Matcher_findMatch 115 = .ok (.iload_n 1, 1) := by decide +kernel
theorem d_Matcher_findMatch_116 : decode b_Matcher_findMatch 116 = .ok (.aload_n 0, 1) := by decide +kernel
theorem d_Matcher_findMatch_117 : decode b_Matcher_findMatch 117 = .ok (.getfield 29, 3) := by decide +kernel
theorem d_Matcher_findMatch_120 : decode b_Matcher_findMatch 120 = .ok (.iadd, 1) := by decide +kernel
theorem d_Matcher_findMatch_121 : decode b_Matcher_findMatch 121 = .ok (.baload, 1) := by decide +kernel
theorem d_Matcher_findMatch_122 : decode b_Matcher_findMatch 122 = .ok (.if_icmp .ne 11, 3) := by decide +kernel
theorem d_Matcher_findMatch_125 : decode b_Matcher_findMatch 125 = .ok (.aload_n 0, 1) := by decide +kernel
theorem d_Matcher_findMatch_126 : decode b_Matcher_findMatch 126 = .ok (.iload 5, 2) := by decide +kernel
theorem d_Matcher_findMatch_128 : decode b_Matcher_findMatch 128 = .ok (.iload_n 1, 1) := by decide +kernel
theorem d_Matcher_findMatch_129 : decode b_Matcher_findMatch 129 = .ok (.iload_n 3, 1) := by decide +kernel
theorem d_Matcher_findMatch_130 : decode b_Matcher_findMatch 130 = .ok (.invokevirtual 79, 3) := by decide +kernel
theorem d_Matcher_findMatch_133 : decode b_Matcher_findMatch 133 = .ok (.aload_n 0, 1) := by decide +kernel
theorem d_Matcher_findMatch_134 : decode b_Matcher_findMatch 134 = .ok (.getfield 16, 3) := by decide +kernel
theorem d_Matcher_findMatch_137 : decode b_Matcher_findMatch 137 = .ok (.iload 5, 2) := by decide +kernel
theorem d_Matcher_findMatch_139 : decode b_Matcher_findMatch 139 = .ok (.iaload, 1) := by decide +kernel
theorem d_Matcher_findMatch_140 : decode b_Matcher_findMatch 140 = .ok (.istore 5, 2) := by decide +kernel
theorem d_Matcher_findMatch_142 : decode b_Matcher_findMatch 142 = .ok (.iinc 7 1, 3) := by decide +kernel
theorem d_Matcher_findMatch_145 : decode b_Matcher_findMatch 145 = .ok (.goto (-92), 3) := by decide +kernel
theorem d_Matcher_findMatch_148 : decode b_Matcher_findMatch 148 = .ok (.return_, 1) := by decide +kernel
theorem d_Matcher_findTokens_0 : decode b_Matcher_findTokens 0 = .ok (.aload_n 0, 1) := by decide +kernel
theorem d_Matcher_findTokens_1 : decode b_Matcher_findTokens 1 = .ok (.getfield 11, 3) := by decide +kernel
theorem d_Matcher_findTokens_4 : decode b_Matcher_findTokens 4 = .ok (.iconst (-1), 1) := by decide +kernel
theorem d_Matcher_findTokens_5 : decode b_Matcher_findTokens 5 = .ok (.invokestatic 39, 3) := by decide +kernel
theorem d_Matcher_findTokens_8 : decode b_Matcher_findTokens 8 = .ok (.aload_n 0, 1) := by decide +kernel
theorem d_Matcher_findTokens_9 : decode b_Matcher_findTokens 9 = .ok (.iconst 0, 1) := by decide +kernel
theorem d_Matcher_findTokens_10 : decode b_Matcher_findTokens 10 = .ok (.putfield 22, 3) := by decide +kernel
theorem d_Matcher_findTokens_13 : decode b_Matcher_findTokens 13 = .ok (.aload_n 0, 1) := by decide +kernel
theorem d_Matcher_findTokens_14 : decode b_Matcher_findTokens 14 = .ok (.iconst 0, 1) := by decide +kernel
theorem d_Matcher_findTokens_15 : decode b_Matcher_findTokens 15 = .ok (.putfield 26, 3) := by decide +kernel
theorem d_Matcher_findTokens_18 : decode b_Matcher_findTokens 18 = .ok (.aload_n 0, 1) := by decide +kernel
theorem d_Matcher_findTokens_19 : decode b_Matcher_findTokens 19 = .ok (.getfield 35, 3) := by decide +kernel
theorem d_Matcher_findTokens_22 : decode b_Matcher_findTokens 22 = .ok (.getfield 45, 3) := by decide +kernel
theorem d_Matcher_findTokens_25 : decode b_Matcher_findTokens 25 = .ok (.ldc 15, 2) := by decide +kernel
theorem d_Matcher_findTokens_27 : decode b_Matcher_findTokens 27 = .ok (.invokestatic 50, 3) := by decide +kernel
theorem d_Matcher_findTokens_30 : decode b_Matcher_findTokens 30 = .ok (.istore_n 1, 1) := by decide +kernel
theorem d_Matcher_findTokens_31 : decode b_Matcher_findTokens 31 = .ok (.iconst 0, 1) := by decide +kernel
theorem d_Matcher_findTokens_32 : decode b_Matcher_findTokens 32 = .ok (.istore_n 2, 1) := by decide +kernel
theorem d_Matcher_findTokens_33 : decode b_Matcher_findTokens 33 = .ok (.iload_n 2, 1) := by decide +kernel
theorem d_Matcher_findTokens_34 : decode b_Matcher_findTokens 34 = .ok (.iload_n 1, 1) := by decide +kernel
theorem d_Matcher_findTokens_35 : decode b_Matcher_findTokens 35 = .ok (.if_icmp .ge 114, 3) := by decide +kernel
theorem d_Matcher_findTokens_38 : decode b_Matcher_findTokens 38 = .ok (.aload_n 0, 1) := by decide +kernel
theorem d_Matcher_findTokens_39 : decode b_Matcher_findTokens 39 = .ok (.iload_n 2, 1) := by decide +kernel
theorem d_Matcher_findTokens_40 : decode b_Matcher_findTokens 40 = .ok (.iload_n 1, 1) := by decide +kernel
theorem d_Matcher_findTokens_41 : decode b_Matcher_findTokens 41 = .ok (.invokevirtual 56, 3) := by decide +kernel
theorem d_Matcher_findTokens_44 : decode b_Matcher_findTokens 44 = .ok (.iconst 1, 1) := by decide +kernel
theorem d_Matcher_findTokens_45 : decode b_Matcher_findTokens 45 = .ok (.aload_n 0, 1) := by decide +kernel
theorem d_Matcher_findTokens_46 : decode b_Matcher_findTokens 46 = .ok (.getfield 29, 3) := by decide +kernel
theorem d_Matcher_findTokens_49 : decode b_Matcher_findTokens 49 = .ok (.invokestatic 60, 3) := by decide +kernel
theorem d_Matcher_findTokens_52 : decode b_Matcher_findTokens 52 = .ok (.istore_n 3, 1) := by decide +kernel
theorem d_Matcher_findTokens_53 : decode b_Matcher_findTokens 53 = .ok (.aload_n 0, 1) := by decide +kernel
theorem d_Matcher_findTokens_54 : decode b_Matcher_findTokens 54 = .ok (.getfield 29, 3) := by decide +kernel
theorem d_Matcher_findTokens_57 : decode b_Matcher_findTokens 57 = .ok (.ifCond .le 37, 3) := by decide +kernel
theorem d_Matcher_findTokens_60 : decode b_Matcher_findTokens 60 = .ok (.aload_n 0, 1) := by decide +kernel
theorem d_Matcher_findTokens_61 : decode b_Matcher_findTokens 61 = .ok (.getfield 19, 3) := by decide +kernel
theorem d_Matcher_findTokens_64 : decode b_Matcher_findTokens 64 = .ok (.aload_n 0, 1) := by decide +kernel
theorem d_Matcher_findTokens_65 : decode b_Matcher_findTokens 65 = .ok (.getfield 22, 3) := by decide +kernel
theorem d_Matcher_findTokens_68 : decode b_Matcher_findTokens 68 = .ok (.aload_n 0, 1) := by decide +kernel
theorem d_Matcher_findTokens_69 : decode b_Matcher_findTokens 69 = .ok (.getfield 32, 3) := by decide +kernel
theorem d_Matcher_findTokens_72 : decode b_Matcher_findTokens 72 = .ok (.bipush 9, 2) := by decide +kernel
theorem d_Matcher_findTokens_74 : decode b_Matcher_findTokens 74 = .ok (.ishl, 1) := by decide +kernel
theorem d_Matcher_findTokens_75 : decode b_Matcher_findTokens 75 = .ok (.aload_n 0, 1) := by decide +kernel
theorem d_Matcher_findTokens_76 : decode b_Matcher_findTokens 76 = .ok (.getfield 29, 3) := by decide +kernel
theorem d_Matcher_findTokens_79 : decode b_Matcher_findTokens 79 = .ok (.ior, 1) := by decide +kernel
theorem d_Matcher_findTokens_80 : decode b_Matcher_findTokens 80 = .ok (.iastore, 1) := by decide +kernel
theorem d_Matcher_findTokens_81 : decode b_Matcher_findTokens 81 = .ok (.aload_n 0, 1) := by decide +kernel
theorem d_Matcher_findTokens_82 : decode b_Matcher_findTokens 82 = .ok (.dup, 1) := by decide +kernel
theorem d_Matcher_findTokens_83 : decode b_Matcher_findTokens 83 = .ok (.getfield 26, 3) := by decide +kernel
theorem d_Matcher_findTokens_86 : decode b_Matcher_findTokens 86 = .ok (.iconst 1, 1) := by decide +kernel
theorem d_Matcher_findTokens_87 : decode b_Matcher_findTokens 87 = .ok (.iadd, 1) := by decide +kernel
theorem d_Matcher_findTokens_88 : decode b_Matcher_findTokens 88 = .ok (.putfield 26, 3) := by decide +kernel
theorem d_Matcher_findTokens_91 : decode b_Matcher_findTokens 91 = .ok (.goto 25, 3) := by decide +kernel
theorem d_Matcher_findTokens_94 : decode b_Matcher_findTokens 94 = .ok (.aload_n 0, 1) := by decide +kernel
theorem d_Matcher_findTokens_95 : decode b_Matcher_findTokens 95 = .ok (.getfield 19, 3) := by decide +kernel
theorem d_Matcher_findTokens_98 : decode b_Matcher_findTokens 98 = .ok (.aload_n 0, 1) := by decide +kernel
theorem d_Matcher_findTokens_99 : decode b_Matcher_findTokens 99 = .ok (.getfield 22, 3) := by decide +kernel
theorem d_Matcher_findTokens_102 : decode b_Matcher_findTokens 102 = .ok (.aload_n 0, 1) := by decide +kernel
theorem d_Matcher_findTokens_103 : decode b_Matcher_findTokens 103 = .ok (.getfield 35, 3) := by decide +kernel
theorem d_Matcher_findTokens_106 : decode b_Matcher_findTokens 106 = .ok (.getfield 63, 3) := by decide +kernel
theorem d_Matcher_findTokens_109 : decode b_Matcher_findTokens 109 = .ok (.iload_n 2, 1) := by decide +kernel
theorem d_Matcher_findTokens_110 : decode b_Matcher_findTokens 110 = .ok (.baload, 1) := by decide +kernel
theorem d_Matcher_findTokens_111 : decode b_Matcher_findTokens 111 = .ok (.sipush 255, 3) := by decide +kernel
theorem d_Matcher_findTokens_114 : decode b_Matcher_findTokens 114 = .ok (.iand, 1) := by decide +kernel
theorem d_Matcher_findTokens_115 : decode b_Matcher_findTokens 115 = .ok (.iastore, 1) := by decide +kernel
theorem d_Matcher_findTokens_116 : decode b_Matcher_findTokens 116 = .ok (.aload_n 0, 1) := by decide +kernel
theorem d_Matcher_findTokens_117 : decode b_Matcher_findTokens 117 = .ok (.dup, 1) := by decide +kernel
theorem d_Matcher_findTokens_118 : decode b_Matcher_findTokens 118 = .ok (.getfield 22, 3) := by decide +kernel
theorem d_Matcher_findTokens_121 : decode b_Matcher_findTokens 121 = .ok (.iconst 1, 1) := by decide +kernel
theorem d_Matcher_findTokens_122 : decode b_Matcher_findTokens 122 = .ok (.iadd, 1) := by decide +kernel
theorem d_Matcher_findTokens_123 : decode b_Matcher_findTokens 123 = .ok (.putfield 22, 3) := by decide +kernel
theorem d_Matcher_findTokens_126 : decode b_Matcher_findTokens 126 = .ok (.aload_n 0, 1) := by decide +kernel
theorem d_Matcher_findTokens_127 : decode b_Matcher_findTokens 127 = .ok (.iload_n 2, 1) := by decide +kernel
theorem d_Matcher_findTokens_128 : decode b_Matcher_findTokens 128 = .ok (.iload_n 2, 1) := by decide +kernel
theorem d_Matcher_findTokens_129 : decode b_Matcher_findTokens 129 = .ok (.iload_n 3, 1) := by decide +kernel
theorem d_Matcher_findTokens_130 : decode b_Matcher_findTokens 130 = .ok (.iadd, 1) := by decide +kernel
theorem d_Matcher_findTokens_131 : decode b_Matcher_findTokens 131 = .ok (.iload_n 1, 1) := by decide +kernel
theorem d_Matcher_findTokens_132 : decode b_Matcher_findTokens 132 = .ok (.iconst 3, 1) := by decide +kernel
theorem d_Matcher_findTokens_133 : decode b_Matcher_findTokens 133 = .ok (.isub, 1) := by decide +kernel
theorem d_Matcher_findTokens_134 : decode b_Matcher_findTokens 134 = .ok (.iconst 1, 1) := by decide +kernel
theorem d_Matcher_findTokens_135 : decode b_Matcher_findTokens 135 = .ok (.iadd, 1) := by decide +kernel
theorem d_Matcher_findTokens_136 : decode b_Matcher_findTokens 136 = .ok (.invokestatic 50, 3) := by decide +kernel
theorem d_Matcher_findTokens_139 : decode b_Matcher_findTokens 139 = .ok (.invokevirtual 67, 3) := by decide +kernel
theorem d_Matcher_findTokens_142 : decode b_Matcher_findTokens 142 = .ok (.iload_n 2, 1) := by decide +kernel
theorem d_Matcher_findTokens_143 : decode b_Matcher_findTokens 143 = .ok (.iload_n 3, 1) := by decide +kernel
theorem d_Matcher_findTokens_144 : decode b_Matcher_findTokens 144 = .ok (.iadd, 1) := by decide +kernel
theorem d_Matcher_findTokens_145 : decode b_Matcher_findTokens 145 = .ok (.istore_n 2, 1) := by decide +kernel
theorem d_Matcher_findTokens_146 : decode b_Matcher_findTokens 146 = .ok (.goto (-113), 3) := by decide +kernel
theorem d_Matcher_findTokens_149 : decode b_Matcher_findTokens 149 = .ok (.return_, 1) := by decide +kernel
/-! PackedBytes$Matcher.hash(I)I -/
def fMatcher_hash (N : Nat) (p1 : Int32) (f_t_row_cells : Nat → Int32) : Option (Int32) :=
    if ¬ (p1 < 0 ∨ 65546 ≤ p1.toNatClampNeg) then
      if ¬ ((p1 + (1 : Int32)) < 0 ∨ 65546 ≤ (p1 + (1 : Int32)).toNatClampNeg) then
        if ¬ ((p1 + (2 : Int32)) < 0 ∨ 65546 ≤ (p1 + (2 : Int32)).toNatClampNeg) then
          some (jus (((((((f_t_row_cells p1.toNatClampNeg).toInt8.toInt32) &&& (255 : Int32)) <<< ((16 : Int32) &&& 31)) ||| ((((f_t_row_cells (p1 + (1 : Int32)).toNatClampNeg).toInt8.toInt32) &&& (255 : Int32)) <<< ((8 : Int32) &&& 31))) ||| (((f_t_row_cells (p1 + (2 : Int32)).toNatClampNeg).toInt8.toInt32) &&& (255 : Int32))) * (-1640531535 : Int32)) (18 : Int32))
        else none
      else none
    else none
set_option maxHeartbeats 4000000 in
set_option maxRecDepth 100000 in
theorem cMatcher_hash (l : Launch) (dC : Nat → ClassId) (dI : Nat → Nat → Nat) (h_t h_t_row h_t_heads h_t_before h_t_tokens h_t_row_cells : Nat) (cB cI cJ : ClassId) (sz : Nat) (N : Nat) (p1 : Int32) (v_t_tokenCount : Int32) (v_t_matchCount : Int32) (v_t_bestLength : Int32) (v_t_bestDistance : Int32) (v_t_row_count : Int32) (f_t_row_cells : Nat → Int32) (o : Int32) (h : fMatcher_hash N p1 f_t_row_cells = some o) : Met l y_Matcher_hash w_Matcher_hash ({ frames := 0, cells := 0, slots := 0, locals := 0 } : Room) (va_Pc [.ref h_t, .int p1] (fun U => U.heap.size = sz ∧ va_P (dC, dI) vwCl [(h_t, .inr (5, [.ref h_t_row, .ref h_t_heads, .ref h_t_before, .ref h_t_tokens, .int v_t_tokenCount, .int v_t_matchCount, .int v_t_bestLength, .int v_t_bestDistance])), (h_t_row, .inr (7, [.ref h_t_row_cells, .int v_t_row_count])), (h_t_row_cells, .inl (cB, 65546, .inl (bf f_t_row_cells)))] U.heap ∧ va_K (dC, dI) vwCl [(cB, .byte), (cI, .int), (cJ, .long)] U ∧ va_D (fun _ => True) [(h_t, .inr (5, [.ref h_t_row, .ref h_t_heads, .ref h_t_before, .ref h_t_tokens, .int v_t_tokenCount, .int v_t_matchCount, .int v_t_bestLength, .int v_t_bestDistance])), (h_t_row, .inr (7, [.ref h_t_row_cells, .int v_t_row_count])), (h_t_row_cells, .inl (cB, 65546, .inl (bf f_t_row_cells)))] ∧ NW U)) (va_Qi (fun r (_ : Unit) => r = o) (fun _ t => va_P (dC, dI) vwCl [(h_t, .inr (5, [.ref h_t_row, .ref h_t_heads, .ref h_t_before, .ref h_t_tokens, .int v_t_tokenCount, .int v_t_matchCount, .int v_t_bestLength, .int v_t_bestDistance])), (h_t_row, .inr (7, [.ref h_t_row_cells, .int v_t_row_count])), (h_t_row_cells, .inl (cB, 65546, .inl (bf f_t_row_cells)))] t.heap ∧ va_K (dC, dI) vwCl [(cB, .byte), (cI, .int), (cJ, .long)] t ∧ va_D (va_A [(h_t, .inr (5, [.ref h_t_row, .ref h_t_heads, .ref h_t_before, .ref h_t_tokens, .int v_t_tokenCount, .int v_t_matchCount, .int v_t_bestLength, .int v_t_bestDistance])), (h_t_row, .inr (7, [.ref h_t_row_cells, .int v_t_row_count])), (h_t_row_cells, .inl (cB, 65546, .inl (bf f_t_row_cells)))] sz) [(h_t, .inr (5, [.ref h_t_row, .ref h_t_heads, .ref h_t_before, .ref h_t_tokens, .int v_t_tokenCount, .int v_t_matchCount, .int v_t_bestLength, .int v_t_bestDistance])), (h_t_row, .inr (7, [.ref h_t_row_cells, .int v_t_row_count])), (h_t_row_cells, .inl (cB, 65546, .inl (bf f_t_row_cells)))]) (va_A [(h_t, .inr (5, [.ref h_t_row, .ref h_t_heads, .ref h_t_before, .ref h_t_tokens, .int v_t_tokenCount, .int v_t_matchCount, .int v_t_bestLength, .int v_t_bestDistance])), (h_t_row, .inr (7, [.ref h_t_row_cells, .int v_t_row_count])), (h_t_row_cells, .inl (cB, 65546, .inl (bf f_t_row_cells)))] sz)) 0 0 (va_A [(h_t, .inr (5, [.ref h_t_row, .ref h_t_heads, .ref h_t_before, .ref h_t_tokens, .int v_t_tokenCount, .int v_t_matchCount, .int v_t_bestLength, .int v_t_bestDistance])), (h_t_row, .inr (7, [.ref h_t_row_cells, .int v_t_row_count])), (h_t_row_cells, .inl (cB, 65546, .inl (bf f_t_row_cells)))] sz) := by
  refine Met.ofW (cc := b_Matcher_hash) (maxL := 4) (ret := (some .int)) (by decide) rfl ?_
  intro p e s m args below meth c s₁ B hml hv
  obtain ⟨rfl, hsz, hP, hK, hD0, hN⟩ := hv
  have hx := B.exec
  have hb := B.bytes
  have hr := B.returns
  have hts := atoms_spec (ws := w_Matcher_hash) B.pre
  have ht : ∀ w ∈ TB, w.before ([.ref h_t, .int p1]).toArray s = true := fun w h => hts w (List.mem_cons_of_mem _ h)
  have hown : s.vm.findClass R_Matcher = some m.cls := findClass_of_methodNamed B.named
  have hlocks := B.notSynchronized
  subst hsz
  have hD := hD0.self (sz := s.heap.size)
  generalize hAe : va_A [(h_t, .inr (5, [.ref h_t_row, .ref h_t_heads, .ref h_t_before, .ref h_t_tokens, .int v_t_tokenCount, .int v_t_matchCount, .int v_t_bestLength, .int v_t_bestDistance])), (h_t_row, .inr (7, [.ref h_t_row_cells, .int v_t_row_count])), (h_t_row_cells, .inl (cB, 65546, .inl (bf f_t_row_cells)))] s.heap.size = A at hD ⊢
  have hA : ∀ q : Nat, s.heap.size ≤ q → A q := fun q h => by rw [← hAe]; exact Or.inr h
  have hS : va_S A s.heap s.heap [] := va_S.rf
  have hP : va_P (dC, dI) vwCl [(h_t, .inr (5, [.ref h_t_row, .ref h_t_heads, .ref h_t_before, .ref h_t_tokens, .int v_t_tokenCount, .int v_t_matchCount, .int v_t_bestLength, .int v_t_bestDistance])), (h_t_row, .inr (7, [.ref h_t_row_cells, .int v_t_row_count])), (h_t_row_cells, .inl (cB, 65546, .inl (bf f_t_row_cells)))] s.heap := hP
  skip
  have hl := lv_entry ([.ref h_t, .int p1]) (n := 4) (Nat.le_of_ble_eq_true rfl)
  rw [lg_entry_eq]
  generalize (lg_sl ([.ref h_t, .int p1]) ++ List.replicate (4 - (lg_sl ([.ref h_t, .int p1])).length) Slot.unset).toArray = ls at hl ⊢
  have hl : lv_has ls 4 [(0, .ref h_t), (1, .int p1)] := hl
  refine lv_aload_n hx hb d_Matcher_hash_0 rfl (lv_at hl 0 rfl) ?_
  refine va_get (D := (dC, dI)) (ci := 5) (v := .ref h_t_row) (C := R_Matcher) (T := F_Matcher) (N := 8) hx hb ht in_Matcher hown hK hP 0 rfl rfl 0 (by decide) (ht _ k_250) (fun _ h9 => h9) rfl d_Matcher_hash_1 ?_
  refine va_get (D := (dC, dI)) (ci := 7) (v := .ref h_t_row_cells) (C := R_Row) (T := F_Row) (N := 2) hx hb ht in_Row hown hK hP 1 rfl rfl 0 (by decide) (ht _ k_102) (fun _ h9 => h9) rfl d_Matcher_hash_4 ?_
  refine lv_astore_n (lv' := [(2, .ref h_t_row_cells), (0, .ref h_t), (1, .int p1)]) hx hb d_Matcher_hash_7 rfl hl (by decide) rfl (fun ls hl => ?_)
  refine lv_aload_n hx hb d_Matcher_hash_8 rfl (lv_at hl 0 rfl) ?_
  refine lv_iload_n hx hb d_Matcher_hash_9 rfl (lv_at hl 2 rfl) ?_
  obtain ⟨g1, h⟩ := gd h
  refine va_bald (f := bf f_t_row_cells) hx hb hK hP 2 0 rfl rfl g1 d_Matcher_hash_10 ?_
  refine lv_sipush (v := (255 : Int32)) hx hb d_Matcher_hash_11 (by decide) ?_
  refine lv_iand hx hb d_Matcher_hash_14 ?_
  refine lv_bipush (v := (16 : Int32)) hx hb d_Matcher_hash_15 (by decide) ?_
  refine lv_ishl hx hb d_Matcher_hash_17 ?_
  refine lv_aload_n hx hb d_Matcher_hash_18 rfl (lv_at hl 0 rfl) ?_
  refine lv_iload_n hx hb d_Matcher_hash_19 rfl (lv_at hl 2 rfl) ?_
  refine lv_iconst (v := (1 : Int32)) hx hb d_Matcher_hash_20 (by decide) ?_
  refine lv_iadd hx hb d_Matcher_hash_21 ?_
  obtain ⟨g2, h⟩ := gd h
  refine va_bald (f := bf f_t_row_cells) hx hb hK hP 2 0 rfl rfl g2 d_Matcher_hash_22 ?_
  refine lv_sipush (v := (255 : Int32)) hx hb d_Matcher_hash_23 (by decide) ?_
  refine lv_iand hx hb d_Matcher_hash_26 ?_
  refine lv_bipush (v := (8 : Int32)) hx hb d_Matcher_hash_27 (by decide) ?_
  refine lv_ishl hx hb d_Matcher_hash_29 ?_
  refine lv_ior hx hb d_Matcher_hash_30 ?_
  refine lv_aload_n hx hb d_Matcher_hash_31 rfl (lv_at hl 0 rfl) ?_
  refine lv_iload_n hx hb d_Matcher_hash_32 rfl (lv_at hl 2 rfl) ?_
  refine lv_iconst (v := (2 : Int32)) hx hb d_Matcher_hash_33 (by decide) ?_
  refine lv_iadd hx hb d_Matcher_hash_34 ?_
  obtain ⟨g3, h⟩ := gd h
  refine va_bald (f := bf f_t_row_cells) hx hb hK hP 2 0 rfl rfl g3 d_Matcher_hash_35 ?_
  refine lv_sipush (v := (255 : Int32)) hx hb d_Matcher_hash_36 (by decide) ?_
  refine lv_iand hx hb d_Matcher_hash_39 ?_
  refine lv_ior hx hb d_Matcher_hash_40 ?_
  refine lv_istore_n (lv' := [(3, .int ((((((f_t_row_cells p1.toNatClampNeg).toInt8.toInt32) &&& (255 : Int32)) <<< ((16 : Int32) &&& 31)) ||| ((((f_t_row_cells (p1 + (1 : Int32)).toNatClampNeg).toInt8.toInt32) &&& (255 : Int32)) <<< ((8 : Int32) &&& 31))) ||| (((f_t_row_cells (p1 + (2 : Int32)).toNatClampNeg).toInt8.toInt32) &&& (255 : Int32)))), (2, .ref h_t_row_cells), (0, .ref h_t), (1, .int p1)]) hx hb d_Matcher_hash_41 rfl hl (by decide) rfl (fun ls hl => ?_)
  refine lv_iload_n hx hb d_Matcher_hash_42 rfl (lv_at hl 0 rfl) ?_
  refine lv_ldc (v := (-1640531535 : Int32)) hx hb hown (ht _ k_471) d_Matcher_hash_43 ?_
  refine lv_imul hx hb d_Matcher_hash_45 ?_
  refine lv_bipush (v := (18 : Int32)) hx hb d_Matcher_hash_46 (by decide) ?_
  refine lv_iushr (v := jus (((((((f_t_row_cells p1.toNatClampNeg).toInt8.toInt32) &&& (255 : Int32)) <<< ((16 : Int32) &&& 31)) ||| ((((f_t_row_cells (p1 + (1 : Int32)).toNatClampNeg).toInt8.toInt32) &&& (255 : Int32)) <<< ((8 : Int32) &&& 31))) ||| (((f_t_row_cells (p1 + (2 : Int32)).toNatClampNeg).toInt8.toInt32) &&& (255 : Int32))) * (-1640531535 : Int32)) (18 : Int32)) hx hb d_Matcher_hash_48 rfl ?_
  obtain rfl := Option.some.inj h
  exact W.iret (v := jus (((((((f_t_row_cells p1.toNatClampNeg).toInt8.toInt32) &&& (255 : Int32)) <<< ((16 : Int32) &&& 31)) ||| ((((f_t_row_cells (p1 + (1 : Int32)).toNatClampNeg).toInt8.toInt32) &&& (255 : Int32)) <<< ((8 : Int32) &&& 31))) ||| (((f_t_row_cells (p1 + (2 : Int32)).toNatClampNeg).toInt8.toInt32) &&& (255 : Int32))) * (-1640531535 : Int32)) (18 : Int32)) hx hb hr (fun t ht hW => ⟨⟨_, (), rfl, rfl, by rw [ht]; exact hP, va_K.moved hW.alike hK, hD⟩, hS.F ht⟩) hS.2.2 d_Matcher_hash_49
/-! PackedBytes$Matcher.sameThree(II)Z -/
def fMatcher_sameThree (N : Nat) (p1 : Int32) (p2 : Int32) (f_t_row_cells : Nat → Int32) : Option (Bool) :=
    if ¬ (p1 < 0 ∨ 65546 ≤ p1.toNatClampNeg) then
      if ¬ (p2 < 0 ∨ 65546 ≤ p2.toNatClampNeg) then
        if ((f_t_row_cells p1.toNatClampNeg).toInt8.toInt32) = ((f_t_row_cells p2.toNatClampNeg).toInt8.toInt32) then
          if ¬ ((p1 + (1 : Int32)) < 0 ∨ 65546 ≤ (p1 + (1 : Int32)).toNatClampNeg) then
            if ¬ ((p2 + (1 : Int32)) < 0 ∨ 65546 ≤ (p2 + (1 : Int32)).toNatClampNeg) then
              if ((f_t_row_cells (p1 + (1 : Int32)).toNatClampNeg).toInt8.toInt32) = ((f_t_row_cells (p2 + (1 : Int32)).toNatClampNeg).toInt8.toInt32) then
                if ¬ ((p1 + (2 : Int32)) < 0 ∨ 65546 ≤ (p1 + (2 : Int32)).toNatClampNeg) then
                  if ¬ ((p2 + (2 : Int32)) < 0 ∨ 65546 ≤ (p2 + (2 : Int32)).toNatClampNeg) then
                    some (if ((f_t_row_cells (p1 + (2 : Int32)).toNatClampNeg).toInt8.toInt32) = ((f_t_row_cells (p2 + (2 : Int32)).toNatClampNeg).toInt8.toInt32) then true else false)
                  else none
                else none
              else
                some false
            else none
          else none
        else
          some false
      else none
    else none
set_option maxHeartbeats 4000000 in
set_option maxRecDepth 100000 in
theorem cMatcher_sameThree (l : Launch) (dC : Nat → ClassId) (dI : Nat → Nat → Nat) (h_t h_t_row h_t_heads h_t_before h_t_tokens h_t_row_cells : Nat) (cB cI cJ : ClassId) (sz : Nat) (N : Nat) (p1 : Int32) (p2 : Int32) (v_t_tokenCount : Int32) (v_t_matchCount : Int32) (v_t_bestLength : Int32) (v_t_bestDistance : Int32) (v_t_row_count : Int32) (f_t_row_cells : Nat → Int32) (o : Bool) (h : fMatcher_sameThree N p1 p2 f_t_row_cells = some o) : Met l y_Matcher_sameThree w_Matcher_sameThree ({ frames := 0, cells := 0, slots := 0, locals := 0 } : Room) (va_Pc [.ref h_t, .int p1, .int p2] (fun U => U.heap.size = sz ∧ va_P (dC, dI) vwCl [(h_t, .inr (5, [.ref h_t_row, .ref h_t_heads, .ref h_t_before, .ref h_t_tokens, .int v_t_tokenCount, .int v_t_matchCount, .int v_t_bestLength, .int v_t_bestDistance])), (h_t_row, .inr (7, [.ref h_t_row_cells, .int v_t_row_count])), (h_t_row_cells, .inl (cB, 65546, .inl (bf f_t_row_cells)))] U.heap ∧ va_K (dC, dI) vwCl [(cB, .byte), (cI, .int), (cJ, .long)] U ∧ va_D (fun _ => True) [(h_t, .inr (5, [.ref h_t_row, .ref h_t_heads, .ref h_t_before, .ref h_t_tokens, .int v_t_tokenCount, .int v_t_matchCount, .int v_t_bestLength, .int v_t_bestDistance])), (h_t_row, .inr (7, [.ref h_t_row_cells, .int v_t_row_count])), (h_t_row_cells, .inl (cB, 65546, .inl (bf f_t_row_cells)))] ∧ NW U)) (va_Qi (fun r (_ : Unit) => r = bI o) (fun _ t => va_P (dC, dI) vwCl [(h_t, .inr (5, [.ref h_t_row, .ref h_t_heads, .ref h_t_before, .ref h_t_tokens, .int v_t_tokenCount, .int v_t_matchCount, .int v_t_bestLength, .int v_t_bestDistance])), (h_t_row, .inr (7, [.ref h_t_row_cells, .int v_t_row_count])), (h_t_row_cells, .inl (cB, 65546, .inl (bf f_t_row_cells)))] t.heap ∧ va_K (dC, dI) vwCl [(cB, .byte), (cI, .int), (cJ, .long)] t ∧ va_D (va_A [(h_t, .inr (5, [.ref h_t_row, .ref h_t_heads, .ref h_t_before, .ref h_t_tokens, .int v_t_tokenCount, .int v_t_matchCount, .int v_t_bestLength, .int v_t_bestDistance])), (h_t_row, .inr (7, [.ref h_t_row_cells, .int v_t_row_count])), (h_t_row_cells, .inl (cB, 65546, .inl (bf f_t_row_cells)))] sz) [(h_t, .inr (5, [.ref h_t_row, .ref h_t_heads, .ref h_t_before, .ref h_t_tokens, .int v_t_tokenCount, .int v_t_matchCount, .int v_t_bestLength, .int v_t_bestDistance])), (h_t_row, .inr (7, [.ref h_t_row_cells, .int v_t_row_count])), (h_t_row_cells, .inl (cB, 65546, .inl (bf f_t_row_cells)))]) (va_A [(h_t, .inr (5, [.ref h_t_row, .ref h_t_heads, .ref h_t_before, .ref h_t_tokens, .int v_t_tokenCount, .int v_t_matchCount, .int v_t_bestLength, .int v_t_bestDistance])), (h_t_row, .inr (7, [.ref h_t_row_cells, .int v_t_row_count])), (h_t_row_cells, .inl (cB, 65546, .inl (bf f_t_row_cells)))] sz)) 0 0 (va_A [(h_t, .inr (5, [.ref h_t_row, .ref h_t_heads, .ref h_t_before, .ref h_t_tokens, .int v_t_tokenCount, .int v_t_matchCount, .int v_t_bestLength, .int v_t_bestDistance])), (h_t_row, .inr (7, [.ref h_t_row_cells, .int v_t_row_count])), (h_t_row_cells, .inl (cB, 65546, .inl (bf f_t_row_cells)))] sz) := by
  refine Met.ofW (cc := b_Matcher_sameThree) (maxL := 4) (ret := (some .boolean)) (by decide) rfl ?_
  intro p e s m args below meth c s₁ B hml hv
  obtain ⟨rfl, hsz, hP, hK, hD0, hN⟩ := hv
  have hx := B.exec
  have hb := B.bytes
  have hr := B.returns
  have hts := atoms_spec (ws := w_Matcher_sameThree) B.pre
  have ht : ∀ w ∈ TB, w.before ([.ref h_t, .int p1, .int p2]).toArray s = true := fun w h => hts w (List.mem_cons_of_mem _ h)
  have hown : s.vm.findClass R_Matcher = some m.cls := findClass_of_methodNamed B.named
  have hlocks := B.notSynchronized
  subst hsz
  have hD := hD0.self (sz := s.heap.size)
  generalize hAe : va_A [(h_t, .inr (5, [.ref h_t_row, .ref h_t_heads, .ref h_t_before, .ref h_t_tokens, .int v_t_tokenCount, .int v_t_matchCount, .int v_t_bestLength, .int v_t_bestDistance])), (h_t_row, .inr (7, [.ref h_t_row_cells, .int v_t_row_count])), (h_t_row_cells, .inl (cB, 65546, .inl (bf f_t_row_cells)))] s.heap.size = A at hD ⊢
  have hA : ∀ q : Nat, s.heap.size ≤ q → A q := fun q h => by rw [← hAe]; exact Or.inr h
  have hS : va_S A s.heap s.heap [] := va_S.rf
  have hP : va_P (dC, dI) vwCl [(h_t, .inr (5, [.ref h_t_row, .ref h_t_heads, .ref h_t_before, .ref h_t_tokens, .int v_t_tokenCount, .int v_t_matchCount, .int v_t_bestLength, .int v_t_bestDistance])), (h_t_row, .inr (7, [.ref h_t_row_cells, .int v_t_row_count])), (h_t_row_cells, .inl (cB, 65546, .inl (bf f_t_row_cells)))] s.heap := hP
  skip
  have hl := lv_entry ([.ref h_t, .int p1, .int p2]) (n := 4) (Nat.le_of_ble_eq_true rfl)
  rw [lg_entry_eq]
  generalize (lg_sl ([.ref h_t, .int p1, .int p2]) ++ List.replicate (4 - (lg_sl ([.ref h_t, .int p1, .int p2])).length) Slot.unset).toArray = ls at hl ⊢
  have hl : lv_has ls 4 [(0, .ref h_t), (1, .int p1), (2, .int p2)] := hl
  refine lv_aload_n hx hb d_Matcher_sameThree_0 rfl (lv_at hl 0 rfl) ?_
  refine va_get (D := (dC, dI)) (ci := 5) (v := .ref h_t_row) (C := R_Matcher) (T := F_Matcher) (N := 8) hx hb ht in_Matcher hown hK hP 0 rfl rfl 0 (by decide) (ht _ k_250) (fun _ h9 => h9) rfl d_Matcher_sameThree_1 ?_
  refine va_get (D := (dC, dI)) (ci := 7) (v := .ref h_t_row_cells) (C := R_Row) (T := F_Row) (N := 2) hx hb ht in_Row hown hK hP 1 rfl rfl 0 (by decide) (ht _ k_102) (fun _ h9 => h9) rfl d_Matcher_sameThree_4 ?_
  refine lv_astore_n (lv' := [(3, .ref h_t_row_cells), (0, .ref h_t), (1, .int p1), (2, .int p2)]) hx hb d_Matcher_sameThree_7 rfl hl (by decide) rfl (fun ls hl => ?_)
  refine lv_aload_n hx hb d_Matcher_sameThree_8 rfl (lv_at hl 0 rfl) ?_
  refine lv_iload_n hx hb d_Matcher_sameThree_9 rfl (lv_at hl 2 rfl) ?_
  obtain ⟨g1, h⟩ := gd h
  refine va_bald (f := bf f_t_row_cells) hx hb hK hP 2 0 rfl rfl g1 d_Matcher_sameThree_10 ?_
  refine lv_aload_n hx hb d_Matcher_sameThree_11 rfl (lv_at hl 0 rfl) ?_
  refine lv_iload_n hx hb d_Matcher_sameThree_12 rfl (lv_at hl 3 rfl) ?_
  obtain ⟨g2, h⟩ := gd h
  refine va_bald (f := bf f_t_row_cells) hx hb hK hP 2 0 rfl rfl g2 d_Matcher_sameThree_13 ?_
  refine lv_icmp_ne (tgt := 47) hx hb d_Matcher_sameThree_14 (by decide) (fun c3 => ?_) (fun c3 => ?_)
  · replace h := ip_n c3 h
    refine lv_iconst (v := (0 : Int32)) hx hb d_Matcher_sameThree_47 (by decide) ?_
    obtain rfl := Option.some.inj h
    exact W.zret (v := (0 : Int32)) hx hb hr (rfl) (fun t ht hW => ⟨⟨_, (), rfl, rfl, by rw [ht]; exact hP, va_K.moved hW.alike hK, hD⟩, hS.F ht⟩) hS.2.2 d_Matcher_sameThree_48
  · replace h := ip_p c3 h
    refine lv_aload_n hx hb d_Matcher_sameThree_17 rfl (lv_at hl 0 rfl) ?_
    refine lv_iload_n hx hb d_Matcher_sameThree_18 rfl (lv_at hl 2 rfl) ?_
    refine lv_iconst (v := (1 : Int32)) hx hb d_Matcher_sameThree_19 (by decide) ?_
    refine lv_iadd hx hb d_Matcher_sameThree_20 ?_
    obtain ⟨g4, h⟩ := gd h
    refine va_bald (f := bf f_t_row_cells) hx hb hK hP 2 0 rfl rfl g4 d_Matcher_sameThree_21 ?_
    refine lv_aload_n hx hb d_Matcher_sameThree_22 rfl (lv_at hl 0 rfl) ?_
    refine lv_iload_n hx hb d_Matcher_sameThree_23 rfl (lv_at hl 3 rfl) ?_
    refine lv_iconst (v := (1 : Int32)) hx hb d_Matcher_sameThree_24 (by decide) ?_
    refine lv_iadd hx hb d_Matcher_sameThree_25 ?_
    obtain ⟨g5, h⟩ := gd h
    refine va_bald (f := bf f_t_row_cells) hx hb hK hP 2 0 rfl rfl g5 d_Matcher_sameThree_26 ?_
    refine lv_icmp_ne (tgt := 47) hx hb d_Matcher_sameThree_27 (by decide) (fun c6 => ?_) (fun c6 => ?_)
    · replace h := ip_n c6 h
      refine lv_iconst (v := (0 : Int32)) hx hb d_Matcher_sameThree_47 (by decide) ?_
      obtain rfl := Option.some.inj h
      exact W.zret (v := (0 : Int32)) hx hb hr (rfl) (fun t ht hW => ⟨⟨_, (), rfl, rfl, by rw [ht]; exact hP, va_K.moved hW.alike hK, hD⟩, hS.F ht⟩) hS.2.2 d_Matcher_sameThree_48
    · replace h := ip_p c6 h
      refine lv_aload_n hx hb d_Matcher_sameThree_30 rfl (lv_at hl 0 rfl) ?_
      refine lv_iload_n hx hb d_Matcher_sameThree_31 rfl (lv_at hl 2 rfl) ?_
      refine lv_iconst (v := (2 : Int32)) hx hb d_Matcher_sameThree_32 (by decide) ?_
      refine lv_iadd hx hb d_Matcher_sameThree_33 ?_
      obtain ⟨g7, h⟩ := gd h
      refine va_bald (f := bf f_t_row_cells) hx hb hK hP 2 0 rfl rfl g7 d_Matcher_sameThree_34 ?_
      refine lv_aload_n hx hb d_Matcher_sameThree_35 rfl (lv_at hl 0 rfl) ?_
      refine lv_iload_n hx hb d_Matcher_sameThree_36 rfl (lv_at hl 3 rfl) ?_
      refine lv_iconst (v := (2 : Int32)) hx hb d_Matcher_sameThree_37 (by decide) ?_
      refine lv_iadd hx hb d_Matcher_sameThree_38 ?_
      obtain ⟨g8, h⟩ := gd h
      refine va_bald (f := bf f_t_row_cells) hx hb hK hP 2 0 rfl rfl g8 d_Matcher_sameThree_39 ?_
      refine lv_ternB (J := 48) (cd := ((f_t_row_cells (p1 + (2 : Int32)).toNatClampNeg).toInt8.toInt32) = ((f_t_row_cells (p2 + (2 : Int32)).toNatClampNeg).toInt8.toInt32)) (a := true) (b := false) (rest := []) (fun k10 k11 => ?_) ?_
      · refine lv_icmp_ne (tgt := 47) hx hb d_Matcher_sameThree_40 (by decide) (fun c9 => ?_) (fun c9 => ?_)
        · refine lv_iconst (v := (0 : Int32)) hx hb d_Matcher_sameThree_47 (by decide) ?_
          exact k11 c9
        · refine lv_iconst (v := (1 : Int32)) hx hb d_Matcher_sameThree_43 (by decide) ?_
          refine lv_goto (tgt := 48) hx hb d_Matcher_sameThree_44 (by decide) ?_
          exact k10 c9
      obtain rfl := Option.some.inj h
      exact W.zret (v := bI (if ((f_t_row_cells (p1 + (2 : Int32)).toNatClampNeg).toInt8.toInt32) = ((f_t_row_cells (p2 + (2 : Int32)).toNatClampNeg).toInt8.toInt32) then true else false)) hx hb hr (bI_nar _) (fun t ht hW => ⟨⟨_, (), rfl, rfl, by rw [ht]; exact hP, va_K.moved hW.alike hK, hD⟩, hS.F ht⟩) hS.2.2 d_Matcher_sameThree_48
/-! PackedBytes$Matcher.compare(III)V -/
def fMatcher_compare_12 (N : Nat) (x1 : Int32) (x2 : Int32) (x3 : Int32) (f_t_row_cells : Nat → Int32) : Nat → (Int32) → Option (Int32)
  | 0, _ => none
  | k + 1, x5 =>
    if x3 ≤ x5 then
      some x5
    else
      if ¬ ((x1 + x5) < 0 ∨ 65546 ≤ (x1 + x5).toNatClampNeg) then
        if ¬ ((x2 + x5) < 0 ∨ 65546 ≤ (x2 + x5).toNatClampNeg) then
          if ((f_t_row_cells (x1 + x5).toNatClampNeg).toInt8.toInt32) = ((f_t_row_cells (x2 + x5).toNatClampNeg).toInt8.toInt32) then
            fMatcher_compare_12 N x1 x2 x3 f_t_row_cells k (x5 + (1 : Int32))
          else
            some x5
        else none
      else none
def fMatcher_compare (N : Nat) (p1 : Int32) (p2 : Int32) (p3 : Int32) (v_t_bestLength : Int32) (v_t_bestDistance : Int32) (f_t_row_cells : Nat → Int32) : Option (Int32 × Int32) :=
    (fMatcher_compare_12 N p1 p2 p3 f_t_row_cells N (3 : Int32)).bind (fun y5 =>
      if y5 ≤ v_t_bestLength then
        some (v_t_bestLength, v_t_bestDistance)
      else
        some (y5, p2 - p1))
set_option maxHeartbeats 4000000 in
set_option maxRecDepth 100000 in
theorem wMatcher_compare_12 {p : Program} {l : Launch} {e : Env} {s : State} {m : MethodId} {args : Array Value} {below : List Frame} {meth : Method} {c : Code} {Q : State → Prop} {A : Nat → Prop} {dC : Nat → ClassId} {dI : Nat → Nat → Nat} (h_t h_t_row h_t_heads h_t_before h_t_tokens h_t_row_cells : Nat) (cB cI cJ : ClassId) (N : Nat) (v_t_tokenCount : Int32) (v_t_matchCount : Int32) (v_t_bestLength : Int32) (v_t_bestDistance : Int32) (v_t_row_count : Int32) (f_t_row_cells : Nat → Int32) (x1 : Int32) (x2 : Int32) (x3 : Int32) (C : CX p s m args c b_Matcher_compare 6 R_Matcher A (dC, dI) [(cB, .byte), (cI, .int), (cJ, .long)]) :
    ∀ (n : Nat) (x5 : Int32) (H : Heap) (locs : List Loc) (ls : Array Slot) (o : Int32), va_P (dC, dI) vwCl [(h_t, .inr (5, [.ref h_t_row, .ref h_t_heads, .ref h_t_before, .ref h_t_tokens, .int v_t_tokenCount, .int v_t_matchCount, .int v_t_bestLength, .int v_t_bestDistance])), (h_t_row, .inr (7, [.ref h_t_row_cells, .int v_t_row_count])), (h_t_row_cells, .inl (cB, 65546, .inl (bf f_t_row_cells)))] H → va_D A [(h_t, .inr (5, [.ref h_t_row, .ref h_t_heads, .ref h_t_before, .ref h_t_tokens, .int v_t_tokenCount, .int v_t_matchCount, .int v_t_bestLength, .int v_t_bestDistance])), (h_t_row, .inr (7, [.ref h_t_row_cells, .int v_t_row_count])), (h_t_row_cells, .inl (cB, 65546, .inl (bf f_t_row_cells)))] → va_S A s.heap H locs → lv_has ls 6 [(0, .ref h_t), (1, .int x1), (2, .int x2), (3, .int x3), (4, .ref h_t_row_cells), (5, .int x5)] → fMatcher_compare_12 N x1 x2 x3 f_t_row_cells n x5 = some o → (∀ (H : Heap) (locs : List Loc) (ls : Array Slot), va_P (dC, dI) vwCl [(h_t, .inr (5, [.ref h_t_row, .ref h_t_heads, .ref h_t_before, .ref h_t_tokens, .int v_t_tokenCount, .int v_t_matchCount, .int v_t_bestLength, .int v_t_bestDistance])), (h_t_row, .inr (7, [.ref h_t_row_cells, .int v_t_row_count])), (h_t_row_cells, .inl (cB, 65546, .inl (bf f_t_row_cells)))] H → va_D A [(h_t, .inr (5, [.ref h_t_row, .ref h_t_heads, .ref h_t_before, .ref h_t_tokens, .int v_t_tokenCount, .int v_t_matchCount, .int v_t_bestLength, .int v_t_bestDistance])), (h_t_row, .inr (7, [.ref h_t_row_cells, .int v_t_row_count])), (h_t_row_cells, .inl (cB, 65546, .inl (bf f_t_row_cells)))] → va_S A s.heap H locs → lv_has ls 6 [(0, .ref h_t), (1, .int x1), (2, .int x2), (5, .int o)] → W p l e ({ frames := 0, cells := 0, slots := 0, locals := 0 } : Room) s m args below meth c H locs 0 0 Q (F0 m 41 ls [])) → W p l e ({ frames := 0, cells := 0, slots := 0, locals := 0 } : Room) s m args below meth c H locs 0 0 Q (F0 m 12 ls []) := by
  obtain ⟨hx, hb, hml, hown, ht, hA, hK, hN⟩ := id C
  intro n
  induction n with
  | zero => intro x5 H locs ls o _ _ _ _ h; exact nomatch h
  | succ k ih =>
    intro x5 H locs ls o hP hD hS hl h kx
    refine lv_iload hx hb d_Matcher_compare_12 (lv_at hl 5 rfl) ?_
    refine lv_iload_n hx hb d_Matcher_compare_14 rfl (lv_at hl 3 rfl) ?_
    refine lv_icmp_ge (tgt := 41) hx hb d_Matcher_compare_15 (by decide) (fun c1 => ?_) (fun c1 => ?_)
    · replace h := ip_p c1 h
      obtain rfl := Option.some.inj h
      exact kx _ _ _ hP hD hS (lv_sub hl [0, 1, 2, 5] rfl)
    · replace h := ip_n c1 h
      refine lv_aload hx hb d_Matcher_compare_18 (lv_at hl 4 rfl) ?_
      refine lv_iload_n hx hb d_Matcher_compare_20 rfl (lv_at hl 1 rfl) ?_
      refine lv_iload hx hb d_Matcher_compare_21 (lv_at hl 5 rfl) ?_
      refine lv_iadd hx hb d_Matcher_compare_23 ?_
      obtain ⟨g2, h⟩ := gd h
      refine va_bald (f := bf f_t_row_cells) hx hb hK hP 2 0 rfl rfl g2 d_Matcher_compare_24 ?_
      refine lv_aload hx hb d_Matcher_compare_25 (lv_at hl 4 rfl) ?_
      refine lv_iload_n hx hb d_Matcher_compare_27 rfl (lv_at hl 2 rfl) ?_
      refine lv_iload hx hb d_Matcher_compare_28 (lv_at hl 5 rfl) ?_
      refine lv_iadd hx hb d_Matcher_compare_30 ?_
      obtain ⟨g3, h⟩ := gd h
      refine va_bald (f := bf f_t_row_cells) hx hb hK hP 2 0 rfl rfl g3 d_Matcher_compare_31 ?_
      refine lv_icmp_ne (tgt := 41) hx hb d_Matcher_compare_32 (by decide) (fun c4 => ?_) (fun c4 => ?_)
      · replace h := ip_n c4 h
        obtain rfl := Option.some.inj h
        exact kx _ _ _ hP hD hS (lv_sub hl [0, 1, 2, 5] rfl)
      · replace h := ip_p c4 h
        refine lv_iinc (v := x5 + (1 : Int32)) (lv' := [(5, .int (x5 + (1 : Int32))), (0, .ref h_t), (1, .int x1), (2, .int x2), (3, .int x3), (4, .ref h_t_row_cells)]) hx hb d_Matcher_compare_35 hl (k := 5) rfl rfl (by decide) rfl (fun ls hl => ?_)
        refine lv_goto (tgt := 12) hx hb d_Matcher_compare_38 (by decide) ?_
        exact ih (x5 + (1 : Int32)) _ _ _ _ hP hD hS (lv_sub hl [1, 2, 3, 4, 5, 0] rfl) h kx
set_option maxHeartbeats 4000000 in
set_option maxRecDepth 100000 in
theorem cMatcher_compare (l : Launch) (dC : Nat → ClassId) (dI : Nat → Nat → Nat) (h_t h_t_row h_t_heads h_t_before h_t_tokens h_t_row_cells : Nat) (cB cI cJ : ClassId) (sz : Nat) (N : Nat) (p1 : Int32) (p2 : Int32) (p3 : Int32) (v_t_tokenCount : Int32) (v_t_matchCount : Int32) (v_t_bestLength : Int32) (v_t_bestDistance : Int32) (v_t_row_count : Int32) (f_t_row_cells : Nat → Int32) (o : Int32 × Int32) (h : fMatcher_compare N p1 p2 p3 v_t_bestLength v_t_bestDistance f_t_row_cells = some o) : Met l y_Matcher_compare w_Matcher_compare ({ frames := 0, cells := 0, slots := 0, locals := 0 } : Room) (va_Pc [.ref h_t, .int p1, .int p2, .int p3] (fun U => U.heap.size = sz ∧ va_P (dC, dI) vwCl [(h_t, .inr (5, [.ref h_t_row, .ref h_t_heads, .ref h_t_before, .ref h_t_tokens, .int v_t_tokenCount, .int v_t_matchCount, .int v_t_bestLength, .int v_t_bestDistance])), (h_t_row, .inr (7, [.ref h_t_row_cells, .int v_t_row_count])), (h_t_row_cells, .inl (cB, 65546, .inl (bf f_t_row_cells)))] U.heap ∧ va_K (dC, dI) vwCl [(cB, .byte), (cI, .int), (cJ, .long)] U ∧ va_D (fun _ => True) [(h_t, .inr (5, [.ref h_t_row, .ref h_t_heads, .ref h_t_before, .ref h_t_tokens, .int v_t_tokenCount, .int v_t_matchCount, .int v_t_bestLength, .int v_t_bestDistance])), (h_t_row, .inr (7, [.ref h_t_row_cells, .int v_t_row_count])), (h_t_row_cells, .inl (cB, 65546, .inl (bf f_t_row_cells)))] ∧ NW U)) (va_Qv (fun _ : Unit => True) (fun _ t => va_P (dC, dI) vwCl [(h_t, .inr (5, [.ref h_t_row, .ref h_t_heads, .ref h_t_before, .ref h_t_tokens, .int v_t_tokenCount, .int v_t_matchCount, .int o.1, .int o.2])), (h_t_row, .inr (7, [.ref h_t_row_cells, .int v_t_row_count])), (h_t_row_cells, .inl (cB, 65546, .inl (bf f_t_row_cells)))] t.heap ∧ va_K (dC, dI) vwCl [(cB, .byte), (cI, .int), (cJ, .long)] t ∧ va_D (va_A [(h_t, .inr (5, [.ref h_t_row, .ref h_t_heads, .ref h_t_before, .ref h_t_tokens, .int v_t_tokenCount, .int v_t_matchCount, .int v_t_bestLength, .int v_t_bestDistance])), (h_t_row, .inr (7, [.ref h_t_row_cells, .int v_t_row_count])), (h_t_row_cells, .inl (cB, 65546, .inl (bf f_t_row_cells)))] sz) [(h_t, .inr (5, [.ref h_t_row, .ref h_t_heads, .ref h_t_before, .ref h_t_tokens, .int v_t_tokenCount, .int v_t_matchCount, .int o.1, .int o.2])), (h_t_row, .inr (7, [.ref h_t_row_cells, .int v_t_row_count])), (h_t_row_cells, .inl (cB, 65546, .inl (bf f_t_row_cells)))]) (va_A [(h_t, .inr (5, [.ref h_t_row, .ref h_t_heads, .ref h_t_before, .ref h_t_tokens, .int v_t_tokenCount, .int v_t_matchCount, .int v_t_bestLength, .int v_t_bestDistance])), (h_t_row, .inr (7, [.ref h_t_row_cells, .int v_t_row_count])), (h_t_row_cells, .inl (cB, 65546, .inl (bf f_t_row_cells)))] sz)) 0 0 (va_A [(h_t, .inr (5, [.ref h_t_row, .ref h_t_heads, .ref h_t_before, .ref h_t_tokens, .int v_t_tokenCount, .int v_t_matchCount, .int v_t_bestLength, .int v_t_bestDistance])), (h_t_row, .inr (7, [.ref h_t_row_cells, .int v_t_row_count])), (h_t_row_cells, .inl (cB, 65546, .inl (bf f_t_row_cells)))] sz) := by
  refine Met.ofW (cc := b_Matcher_compare) (maxL := 6) (ret := none) (by decide) rfl ?_
  intro p e s m args below meth c s₁ B hml hv
  obtain ⟨rfl, hsz, hP, hK, hD0, hN⟩ := hv
  have hx := B.exec
  have hb := B.bytes
  have hr := B.returns
  have hts := atoms_spec (ws := w_Matcher_compare) B.pre
  have ht : ∀ w ∈ TB, w.before ([.ref h_t, .int p1, .int p2, .int p3]).toArray s = true := fun w h => hts w (List.mem_cons_of_mem _ h)
  have hown : s.vm.findClass R_Matcher = some m.cls := findClass_of_methodNamed B.named
  have hlocks := B.notSynchronized
  subst hsz
  have hD := hD0.self (sz := s.heap.size)
  generalize hAe : va_A [(h_t, .inr (5, [.ref h_t_row, .ref h_t_heads, .ref h_t_before, .ref h_t_tokens, .int v_t_tokenCount, .int v_t_matchCount, .int v_t_bestLength, .int v_t_bestDistance])), (h_t_row, .inr (7, [.ref h_t_row_cells, .int v_t_row_count])), (h_t_row_cells, .inl (cB, 65546, .inl (bf f_t_row_cells)))] s.heap.size = A at hD ⊢
  have hA : ∀ q : Nat, s.heap.size ≤ q → A q := fun q h => by rw [← hAe]; exact Or.inr h
  have hS : va_S A s.heap s.heap [] := va_S.rf
  have hP : va_P (dC, dI) vwCl [(h_t, .inr (5, [.ref h_t_row, .ref h_t_heads, .ref h_t_before, .ref h_t_tokens, .int v_t_tokenCount, .int v_t_matchCount, .int v_t_bestLength, .int v_t_bestDistance])), (h_t_row, .inr (7, [.ref h_t_row_cells, .int v_t_row_count])), (h_t_row_cells, .inl (cB, 65546, .inl (bf f_t_row_cells)))] s.heap := hP
  have C : CX p s m ([.ref h_t, .int p1, .int p2, .int p3]).toArray c b_Matcher_compare 6 R_Matcher A (dC, dI) [(cB, .byte), (cI, .int), (cJ, .long)] := ⟨hx, hb, hml, hown, ht, hA, hK, hN⟩
  have hl := lv_entry ([.ref h_t, .int p1, .int p2, .int p3]) (n := 6) (Nat.le_of_ble_eq_true rfl)
  rw [lg_entry_eq]
  generalize (lg_sl ([.ref h_t, .int p1, .int p2, .int p3]) ++ List.replicate (6 - (lg_sl ([.ref h_t, .int p1, .int p2, .int p3])).length) Slot.unset).toArray = ls at hl ⊢
  have hl : lv_has ls 6 [(0, .ref h_t), (1, .int p1), (2, .int p2), (3, .int p3)] := hl
  refine lv_aload_n hx hb d_Matcher_compare_0 rfl (lv_at hl 0 rfl) ?_
  refine va_get (D := (dC, dI)) (ci := 5) (v := .ref h_t_row) (C := R_Matcher) (T := F_Matcher) (N := 8) hx hb ht in_Matcher hown hK hP 0 rfl rfl 0 (by decide) (ht _ k_250) (fun _ h9 => h9) rfl d_Matcher_compare_1 ?_
  refine va_get (D := (dC, dI)) (ci := 7) (v := .ref h_t_row_cells) (C := R_Row) (T := F_Row) (N := 2) hx hb ht in_Row hown hK hP 1 rfl rfl 0 (by decide) (ht _ k_102) (fun _ h9 => h9) rfl d_Matcher_compare_4 ?_
  refine lv_astore (lv' := [(4, .ref h_t_row_cells), (0, .ref h_t), (1, .int p1), (2, .int p2), (3, .int p3)]) hx hb d_Matcher_compare_7 hl (by decide) rfl (fun ls hl => ?_)
  refine lv_iconst (v := (3 : Int32)) hx hb d_Matcher_compare_9 (by decide) ?_
  refine lv_istore (lv' := [(5, .int (3 : Int32)), (4, .ref h_t_row_cells), (0, .ref h_t), (1, .int p1), (2, .int p2), (3, .int p3)]) hx hb d_Matcher_compare_10 hl (by decide) rfl (fun ls hl => ?_)
  obtain ⟨y5, hy5, h⟩ := bd h
  refine wMatcher_compare_12 h_t h_t_row h_t_heads h_t_before h_t_tokens h_t_row_cells cB cI cJ N v_t_tokenCount v_t_matchCount v_t_bestLength v_t_bestDistance v_t_row_count f_t_row_cells p1 p2 p3 C N (3 : Int32) _ _ _ _ hP hD hS (lv_sub hl [2, 3, 4, 5, 1, 0] rfl) hy5 (fun H locs ls hP hD hS hl => ?_)
  refine lv_iload hx hb d_Matcher_compare_41 (lv_at hl 3 rfl) ?_
  refine lv_aload_n hx hb d_Matcher_compare_43 rfl (lv_at hl 0 rfl) ?_
  refine va_get (D := (dC, dI)) (ci := 5) (v := .int v_t_bestLength) (C := R_Matcher) (T := F_Matcher) (N := 8) hx hb ht in_Matcher hown hK hP 0 rfl rfl 6 (by decide) (ht _ k_259) (fun _ h9 => h9) rfl d_Matcher_compare_44 ?_
  refine lv_icmp_le (tgt := 63) hx hb d_Matcher_compare_47 (by decide) (fun c6 => ?_) (fun c6 => ?_)
  · replace h := ip_p c6 h
    obtain rfl := Option.some.inj h
    exact W.vret hx hb hr (fun t ht hW => ⟨⟨(), rfl, trivial, by rw [ht]; exact hP, va_K.moved hW.alike hK, hD⟩, hS.F ht⟩) hS.2.2 d_Matcher_compare_63
  · replace h := ip_n c6 h
    refine lv_aload_n hx hb d_Matcher_compare_50 rfl (lv_at hl 0 rfl) ?_
    refine lv_iload hx hb d_Matcher_compare_51 (lv_at hl 3 rfl) ?_
    refine va_put (D := (dC, dI)) (ci := 5) (v := .int y5) (ty := .int) (C := R_Matcher) (T := F_Matcher) (N := 8) hx hb ht in_Matcher t_Matcher t_Matcher_ok n_Matcher hown hK hP hD hS 0 rfl rfl 6 (by decide) (ht _ k_259) (fun _ h9 => h9) rfl (by decide +kernel) rfl rfl (Nat.le_of_ble_eq_true rfl) d_Matcher_compare_53 (fun H locs hP hD hS => ?_)
    have hP : va_P (dC, dI) vwCl [(h_t, .inr (5, [.ref h_t_row, .ref h_t_heads, .ref h_t_before, .ref h_t_tokens, .int v_t_tokenCount, .int v_t_matchCount, .int y5, .int v_t_bestDistance])), (h_t_row, .inr (7, [.ref h_t_row_cells, .int v_t_row_count])), (h_t_row_cells, .inl (cB, 65546, .inl (bf f_t_row_cells)))] H := hP
    have hD : va_D A [(h_t, .inr (5, [.ref h_t_row, .ref h_t_heads, .ref h_t_before, .ref h_t_tokens, .int v_t_tokenCount, .int v_t_matchCount, .int y5, .int v_t_bestDistance])), (h_t_row, .inr (7, [.ref h_t_row_cells, .int v_t_row_count])), (h_t_row_cells, .inl (cB, 65546, .inl (bf f_t_row_cells)))] := hD
    refine lv_aload_n hx hb d_Matcher_compare_56 rfl (lv_at hl 0 rfl) ?_
    refine lv_iload_n hx hb d_Matcher_compare_57 rfl (lv_at hl 2 rfl) ?_
    refine lv_iload_n hx hb d_Matcher_compare_58 rfl (lv_at hl 1 rfl) ?_
    refine lv_isub hx hb d_Matcher_compare_59 ?_
    refine va_put (D := (dC, dI)) (ci := 5) (v := .int (p2 - p1)) (ty := .int) (C := R_Matcher) (T := F_Matcher) (N := 8) hx hb ht in_Matcher t_Matcher t_Matcher_ok n_Matcher hown hK hP hD hS 0 rfl rfl 7 (by decide) (ht _ k_260) (fun _ h9 => h9) rfl (by decide +kernel) rfl rfl (Nat.le_of_ble_eq_true rfl) d_Matcher_compare_60 (fun H locs hP hD hS => ?_)
    have hP : va_P (dC, dI) vwCl [(h_t, .inr (5, [.ref h_t_row, .ref h_t_heads, .ref h_t_before, .ref h_t_tokens, .int v_t_tokenCount, .int v_t_matchCount, .int y5, .int (p2 - p1)])), (h_t_row, .inr (7, [.ref h_t_row_cells, .int v_t_row_count])), (h_t_row_cells, .inl (cB, 65546, .inl (bf f_t_row_cells)))] H := hP
    have hD : va_D A [(h_t, .inr (5, [.ref h_t_row, .ref h_t_heads, .ref h_t_before, .ref h_t_tokens, .int v_t_tokenCount, .int v_t_matchCount, .int y5, .int (p2 - p1)])), (h_t_row, .inr (7, [.ref h_t_row_cells, .int v_t_row_count])), (h_t_row_cells, .inl (cB, 65546, .inl (bf f_t_row_cells)))] := hD
    obtain rfl := Option.some.inj h
    exact W.vret hx hb hr (fun t ht hW => ⟨⟨(), rfl, trivial, by rw [ht]; exact hP, va_K.moved hW.alike hK, hD⟩, hS.F ht⟩) hS.2.2 d_Matcher_compare_63
/-! PackedBytes$Matcher.remember(II)V -/
def fMatcher_remember_2 (N : Nat) (x2 : Int32) (f_t_row_cells : Nat → Int32) : Nat → (Int32) → (Nat → Int32) → (Nat → Int32) → Option ((Nat → Int32) × (Nat → Int32))
  | 0, _, _, _ => none
  | k + 1, x3, f_t_heads, f_t_before =>
    if x2 ≤ x3 then
      some (f_t_heads, f_t_before)
    else
      (fMatcher_hash N x3 f_t_row_cells).bind (fun y2 =>
        if ¬ (y2 < 0 ∨ 16384 ≤ y2.toNatClampNeg) then
          if ¬ (x3 < 0 ∨ 65536 ≤ x3.toNatClampNeg) then
            if ¬ (y2 < 0 ∨ 16384 ≤ y2.toNatClampNeg) then
              fMatcher_remember_2 N x2 f_t_row_cells k (x3 + (1 : Int32)) (upd f_t_heads y2.toNatClampNeg x3) (upd f_t_before x3.toNatClampNeg (f_t_heads y2.toNatClampNeg))
            else none
          else none
        else none)
def fMatcher_remember (N : Nat) (p1 : Int32) (p2 : Int32) (f_t_row_cells : Nat → Int32) (f_t_heads : Nat → Int32) (f_t_before : Nat → Int32) : Option ((Nat → Int32) × (Nat → Int32)) :=
    (fMatcher_remember_2 N p2 f_t_row_cells N p1 f_t_heads f_t_before).bind (fun y6 =>
      some (y6.1, y6.2))
set_option maxHeartbeats 4000000 in
set_option maxRecDepth 100000 in
theorem wMatcher_remember_2 {p : Program} {l : Launch} {e : Env} {s : State} {m : MethodId} {args : Array Value} {below : List Frame} {meth : Method} {c : Code} {Q : State → Prop} {A : Nat → Prop} {dC : Nat → ClassId} {dI : Nat → Nat → Nat} (h_t h_t_row h_t_heads h_t_before h_t_tokens h_t_row_cells : Nat) (cB cI cJ : ClassId) (N : Nat) (v_t_tokenCount : Int32) (v_t_matchCount : Int32) (v_t_bestLength : Int32) (v_t_bestDistance : Int32) (v_t_row_count : Int32) (f_t_row_cells : Nat → Int32) (x2 : Int32) (C : CX p s m args c b_Matcher_remember 5 R_Matcher A (dC, dI) [(cB, .byte), (cI, .int), (cJ, .long)]) :
    ∀ (n : Nat) (x3 : Int32) (f_t_heads : Nat → Int32) (f_t_before : Nat → Int32) (H : Heap) (locs : List Loc) (ls : Array Slot) (o : (Nat → Int32) × (Nat → Int32)), va_P (dC, dI) vwCl [(h_t, .inr (5, [.ref h_t_row, .ref h_t_heads, .ref h_t_before, .ref h_t_tokens, .int v_t_tokenCount, .int v_t_matchCount, .int v_t_bestLength, .int v_t_bestDistance])), (h_t_row, .inr (7, [.ref h_t_row_cells, .int v_t_row_count])), (h_t_row_cells, .inl (cB, 65546, .inl (bf f_t_row_cells))), (h_t_heads, .inl (cI, 16384, .inl f_t_heads)), (h_t_before, .inl (cI, 65536, .inl f_t_before))] H → va_D A [(h_t, .inr (5, [.ref h_t_row, .ref h_t_heads, .ref h_t_before, .ref h_t_tokens, .int v_t_tokenCount, .int v_t_matchCount, .int v_t_bestLength, .int v_t_bestDistance])), (h_t_row, .inr (7, [.ref h_t_row_cells, .int v_t_row_count])), (h_t_row_cells, .inl (cB, 65546, .inl (bf f_t_row_cells))), (h_t_heads, .inl (cI, 16384, .inl f_t_heads)), (h_t_before, .inl (cI, 65536, .inl f_t_before))] → va_S A s.heap H locs → lv_has ls 5 [(0, .ref h_t), (2, .int x2), (3, .int x3)] → fMatcher_remember_2 N x2 f_t_row_cells n x3 f_t_heads f_t_before = some o → (∀ (H : Heap) (locs : List Loc) (ls : Array Slot), va_P (dC, dI) vwCl [(h_t, .inr (5, [.ref h_t_row, .ref h_t_heads, .ref h_t_before, .ref h_t_tokens, .int v_t_tokenCount, .int v_t_matchCount, .int v_t_bestLength, .int v_t_bestDistance])), (h_t_row, .inr (7, [.ref h_t_row_cells, .int v_t_row_count])), (h_t_row_cells, .inl (cB, 65546, .inl (bf f_t_row_cells))), (h_t_heads, .inl (cI, 16384, .inl o.1)), (h_t_before, .inl (cI, 65536, .inl o.2))] H → va_D A [(h_t, .inr (5, [.ref h_t_row, .ref h_t_heads, .ref h_t_before, .ref h_t_tokens, .int v_t_tokenCount, .int v_t_matchCount, .int v_t_bestLength, .int v_t_bestDistance])), (h_t_row, .inr (7, [.ref h_t_row_cells, .int v_t_row_count])), (h_t_row_cells, .inl (cB, 65546, .inl (bf f_t_row_cells))), (h_t_heads, .inl (cI, 16384, .inl o.1)), (h_t_before, .inl (cI, 65536, .inl o.2))] → va_S A s.heap H locs → lv_has ls 5 [] → W p l e ({ frames := 1, cells := 0, slots := 0, locals := 23 } : Room) s m args below meth c H locs 0 0 Q (F0 m 41 ls [])) → W p l e ({ frames := 1, cells := 0, slots := 0, locals := 23 } : Room) s m args below meth c H locs 0 0 Q (F0 m 2 ls []) := by
  obtain ⟨hx, hb, hml, hown, ht, hA, hK, hN⟩ := id C
  intro n
  induction n with
  | zero => intro x3 f_t_heads f_t_before H locs ls o _ _ _ _ h; exact nomatch h
  | succ k ih =>
    intro x3 f_t_heads f_t_before H locs ls o hP hD hS hl h kx
    refine lv_iload_n hx hb d_Matcher_remember_2 rfl (lv_at hl 2 rfl) ?_
    refine lv_iload_n hx hb d_Matcher_remember_3 rfl (lv_at hl 1 rfl) ?_
    refine lv_icmp_ge (tgt := 41) hx hb d_Matcher_remember_4 (by decide) (fun c1 => ?_) (fun c1 => ?_)
    · replace h := ip_p c1 h
      obtain rfl := Option.some.inj h
      exact kx _ _ _ hP hD hS (lv_sub hl [] rfl)
    · replace h := ip_n c1 h
      refine lv_aload_n hx hb d_Matcher_remember_7 rfl (lv_at hl 0 rfl) ?_
      refine lv_iload_n hx hb d_Matcher_remember_8 rfl (lv_at hl 2 rfl) ?_
      obtain ⟨y2, hy2, h⟩ := bd h
      have hPc := hP.sub (ws' := [(h_t, .inr (5, [.ref h_t_row, .ref h_t_heads, .ref h_t_before, .ref h_t_tokens, .int v_t_tokenCount, .int v_t_matchCount, .int v_t_bestLength, .int v_t_bestDistance])), (h_t_row, .inr (7, [.ref h_t_row_cells, .int v_t_row_count])), (h_t_row_cells, .inl (cB, 65546, .inl (bf f_t_row_cells)))]) [0, 1, 2] rfl
      have hDc := hD.sub (ws' := [(h_t, .inr (5, [.ref h_t_row, .ref h_t_heads, .ref h_t_before, .ref h_t_tokens, .int v_t_tokenCount, .int v_t_matchCount, .int v_t_bestLength, .int v_t_bestDistance])), (h_t_row, .inr (7, [.ref h_t_row_cells, .int v_t_row_count])), (h_t_row_cells, .inl (cB, 65546, .inl (bf f_t_row_cells)))]) [0, 1, 2] (by decide) rfl
      have hFc := va_free (wc := [(h_t, .inr (5, [.ref h_t_row, .ref h_t_heads, .ref h_t_before, .ref h_t_tokens, .int v_t_tokenCount, .int v_t_matchCount, .int v_t_bestLength, .int v_t_bestDistance])), (h_t_row, .inr (7, [.ref h_t_row_cells, .int v_t_row_count])), (h_t_row_cells, .inl (cB, 65546, .inl (bf f_t_row_cells)))]) hD hS hA [0, 1, 2] rfl
      refine va_calli (va_runV (As := [.int x3]) (rest := []) ⟨hx, hb, hml, hown, ht⟩ (cMatcher_hash l dC dI h_t h_t_row h_t_heads h_t_before h_t_tokens h_t_row_cells cB cI cJ _ N x3 v_t_tokenCount v_t_matchCount v_t_bestLength v_t_bestDistance v_t_row_count f_t_row_cells y2 hy2) (⟨callB_of 1 ht (gTB (k_470)) rfl rfl rfl (ht _ k_73) (ht _ k_467) (by decide +kernel) ⟨Nat.le_of_ble_eq_true rfl, Nat.le_of_ble_eq_true rfl⟩, ht _ k_469, ht _ k_1⟩) ⟨fun a U g mk q => by obtain ⟨q0, q1, qP, qK, qD, qN⟩ := q; exact ⟨q0, q1, qP, va_K.moved (u := U) (U := U.calling g mk a) (Vm.Alike.refl U.vm) qK, qD, NW_same (u := U) rfl qN⟩, va_recv hK hPc (ci := 5) (q0 := 0) rfl rfl, fun U hU hW => ⟨rfl, by rw [hU], by rw [hU]; exact hPc, va_K.moved hW.alike hK, hDc.weaken (fun _ _ _ _ => trivial), NW_warm hW hN⟩⟩ rfl rfl hl.1 rfl (lv_room (Nat.le_of_ble_eq_true rfl)) d_Matcher_remember_9 ⟨Nat.le_of_ble_eq_true rfl, Nat.le_of_ble_eq_true rfl⟩) hS (fun q _ h => hFc q h) hFc (fun ry2 u t H1 locs htH hvm hw hB hz1 hk1 hS => ?_)
      obtain ⟨hP1, hK1, hD1⟩ := hB
      rw [htH] at hP1
      obtain ⟨hP, hD⟩ := va_join (wr := [(h_t_heads, .inl (cI, 16384, .inl f_t_heads)), (h_t_before, .inl (cI, 65536, .inl f_t_before))]) (w1 := [(h_t, .inr (5, [.ref h_t_row, .ref h_t_heads, .ref h_t_before, .ref h_t_tokens, .int v_t_tokenCount, .int v_t_matchCount, .int v_t_bestLength, .int v_t_bestDistance])), (h_t_row, .inr (7, [.ref h_t_row_cells, .int v_t_row_count])), (h_t_row_cells, .inl (cB, 65546, .inl (bf f_t_row_cells)))]) hP hD [0, 1, 2] [3, 4] rfl rfl (by decide) (by decide) hk1 hFc hP1 hD1
      generalize H1 = H at hP hS ⊢
      have hP : va_P (dC, dI) vwCl [(h_t, .inr (5, [.ref h_t_row, .ref h_t_heads, .ref h_t_before, .ref h_t_tokens, .int v_t_tokenCount, .int v_t_matchCount, .int v_t_bestLength, .int v_t_bestDistance])), (h_t_row, .inr (7, [.ref h_t_row_cells, .int v_t_row_count])), (h_t_row_cells, .inl (cB, 65546, .inl (bf f_t_row_cells))), (h_t_heads, .inl (cI, 16384, .inl f_t_heads)), (h_t_before, .inl (cI, 65536, .inl f_t_before))] H := hP.sub [2, 3, 4, 0, 1] rfl
      have hD : va_D A [(h_t, .inr (5, [.ref h_t_row, .ref h_t_heads, .ref h_t_before, .ref h_t_tokens, .int v_t_tokenCount, .int v_t_matchCount, .int v_t_bestLength, .int v_t_bestDistance])), (h_t_row, .inr (7, [.ref h_t_row_cells, .int v_t_row_count])), (h_t_row_cells, .inl (cB, 65546, .inl (bf f_t_row_cells))), (h_t_heads, .inl (cI, 16384, .inl f_t_heads)), (h_t_before, .inl (cI, 65536, .inl f_t_before))] := hD.sub [2, 3, 4, 0, 1] (by decide) rfl
      replace hw := hw.symm
      subst hw
      refine lv_istore (lv' := [(4, .int y2), (0, .ref h_t), (2, .int x2), (3, .int x3)]) hx hb d_Matcher_remember_12 hl (by decide) rfl (fun ls hl => ?_)
      refine lv_aload_n hx hb d_Matcher_remember_14 rfl (lv_at hl 1 rfl) ?_
      refine va_get (D := (dC, dI)) (ci := 5) (v := .ref h_t_before) (C := R_Matcher) (T := F_Matcher) (N := 8) hx hb ht in_Matcher hown hK hP 0 rfl rfl 2 (by decide) (ht _ k_252) (fun _ h9 => h9) rfl d_Matcher_remember_15 ?_
      refine lv_iload_n hx hb d_Matcher_remember_18 rfl (lv_at hl 3 rfl) ?_
      refine lv_aload_n hx hb d_Matcher_remember_19 rfl (lv_at hl 1 rfl) ?_
      refine va_get (D := (dC, dI)) (ci := 5) (v := .ref h_t_heads) (C := R_Matcher) (T := F_Matcher) (N := 8) hx hb ht in_Matcher hown hK hP 0 rfl rfl 1 (by decide) (ht _ k_251) (fun _ h9 => h9) rfl d_Matcher_remember_20 ?_
      refine lv_iload hx hb d_Matcher_remember_23 (lv_at hl 0 rfl) ?_
      obtain ⟨g3, h⟩ := gd h
      refine va_iald hx hb hK hP 3 1 rfl rfl g3 d_Matcher_remember_25 ?_
      obtain ⟨g4, h⟩ := gd h
      refine va_iast hx hb hK hP hD hS 4 1 rfl rfl g4 d_Matcher_remember_26 (fun H locs hP hD hS => ?_)
      have hP : va_P (dC, dI) vwCl [(h_t, .inr (5, [.ref h_t_row, .ref h_t_heads, .ref h_t_before, .ref h_t_tokens, .int v_t_tokenCount, .int v_t_matchCount, .int v_t_bestLength, .int v_t_bestDistance])), (h_t_row, .inr (7, [.ref h_t_row_cells, .int v_t_row_count])), (h_t_row_cells, .inl (cB, 65546, .inl (bf f_t_row_cells))), (h_t_heads, .inl (cI, 16384, .inl f_t_heads)), (h_t_before, .inl (cI, 65536, .inl (upd f_t_before x3.toNatClampNeg (f_t_heads y2.toNatClampNeg))))] H := hP
      have hD : va_D A [(h_t, .inr (5, [.ref h_t_row, .ref h_t_heads, .ref h_t_before, .ref h_t_tokens, .int v_t_tokenCount, .int v_t_matchCount, .int v_t_bestLength, .int v_t_bestDistance])), (h_t_row, .inr (7, [.ref h_t_row_cells, .int v_t_row_count])), (h_t_row_cells, .inl (cB, 65546, .inl (bf f_t_row_cells))), (h_t_heads, .inl (cI, 16384, .inl f_t_heads)), (h_t_before, .inl (cI, 65536, .inl (upd f_t_before x3.toNatClampNeg (f_t_heads y2.toNatClampNeg))))] := hD
      refine lv_aload_n hx hb d_Matcher_remember_27 rfl (lv_at hl 1 rfl) ?_
      refine va_get (D := (dC, dI)) (ci := 5) (v := .ref h_t_heads) (C := R_Matcher) (T := F_Matcher) (N := 8) hx hb ht in_Matcher hown hK hP 0 rfl rfl 1 (by decide) (ht _ k_251) (fun _ h9 => h9) rfl d_Matcher_remember_28 ?_
      refine lv_iload hx hb d_Matcher_remember_31 (lv_at hl 0 rfl) ?_
      refine lv_iload_n hx hb d_Matcher_remember_33 rfl (lv_at hl 3 rfl) ?_
      obtain ⟨g5, h⟩ := gd h
      refine va_iast hx hb hK hP hD hS 3 1 rfl rfl g5 d_Matcher_remember_34 (fun H locs hP hD hS => ?_)
      have hP : va_P (dC, dI) vwCl [(h_t, .inr (5, [.ref h_t_row, .ref h_t_heads, .ref h_t_before, .ref h_t_tokens, .int v_t_tokenCount, .int v_t_matchCount, .int v_t_bestLength, .int v_t_bestDistance])), (h_t_row, .inr (7, [.ref h_t_row_cells, .int v_t_row_count])), (h_t_row_cells, .inl (cB, 65546, .inl (bf f_t_row_cells))), (h_t_heads, .inl (cI, 16384, .inl (upd f_t_heads y2.toNatClampNeg x3))), (h_t_before, .inl (cI, 65536, .inl (upd f_t_before x3.toNatClampNeg (f_t_heads y2.toNatClampNeg))))] H := hP
      have hD : va_D A [(h_t, .inr (5, [.ref h_t_row, .ref h_t_heads, .ref h_t_before, .ref h_t_tokens, .int v_t_tokenCount, .int v_t_matchCount, .int v_t_bestLength, .int v_t_bestDistance])), (h_t_row, .inr (7, [.ref h_t_row_cells, .int v_t_row_count])), (h_t_row_cells, .inl (cB, 65546, .inl (bf f_t_row_cells))), (h_t_heads, .inl (cI, 16384, .inl (upd f_t_heads y2.toNatClampNeg x3))), (h_t_before, .inl (cI, 65536, .inl (upd f_t_before x3.toNatClampNeg (f_t_heads y2.toNatClampNeg))))] := hD
      refine lv_iinc (v := x3 + (1 : Int32)) (lv' := [(3, .int (x3 + (1 : Int32))), (4, .int y2), (0, .ref h_t), (2, .int x2)]) hx hb d_Matcher_remember_35 hl (k := 3) rfl rfl (by decide) rfl (fun ls hl => ?_)
      refine lv_goto (tgt := 2) hx hb d_Matcher_remember_38 (by decide) ?_
      exact ih (x3 + (1 : Int32)) (upd f_t_heads y2.toNatClampNeg x3) (upd f_t_before x3.toNatClampNeg (f_t_heads y2.toNatClampNeg)) _ _ _ _ hP hD hS (lv_sub hl [2, 3, 0] rfl) h kx
set_option maxHeartbeats 4000000 in
set_option maxRecDepth 100000 in
theorem cMatcher_remember (l : Launch) (dC : Nat → ClassId) (dI : Nat → Nat → Nat) (h_t h_t_row h_t_heads h_t_before h_t_tokens h_t_row_cells : Nat) (cB cI cJ : ClassId) (sz : Nat) (N : Nat) (p1 : Int32) (p2 : Int32) (v_t_tokenCount : Int32) (v_t_matchCount : Int32) (v_t_bestLength : Int32) (v_t_bestDistance : Int32) (v_t_row_count : Int32) (f_t_row_cells : Nat → Int32) (f_t_heads : Nat → Int32) (f_t_before : Nat → Int32) (o : (Nat → Int32) × (Nat → Int32)) (h : fMatcher_remember N p1 p2 f_t_row_cells f_t_heads f_t_before = some o) : Met l y_Matcher_remember w_Matcher_remember ({ frames := 1, cells := 0, slots := 0, locals := 23 } : Room) (va_Pc [.ref h_t, .int p1, .int p2] (fun U => U.heap.size = sz ∧ va_P (dC, dI) vwCl [(h_t, .inr (5, [.ref h_t_row, .ref h_t_heads, .ref h_t_before, .ref h_t_tokens, .int v_t_tokenCount, .int v_t_matchCount, .int v_t_bestLength, .int v_t_bestDistance])), (h_t_row, .inr (7, [.ref h_t_row_cells, .int v_t_row_count])), (h_t_row_cells, .inl (cB, 65546, .inl (bf f_t_row_cells))), (h_t_heads, .inl (cI, 16384, .inl f_t_heads)), (h_t_before, .inl (cI, 65536, .inl f_t_before))] U.heap ∧ va_K (dC, dI) vwCl [(cB, .byte), (cI, .int), (cJ, .long)] U ∧ va_D (fun _ => True) [(h_t, .inr (5, [.ref h_t_row, .ref h_t_heads, .ref h_t_before, .ref h_t_tokens, .int v_t_tokenCount, .int v_t_matchCount, .int v_t_bestLength, .int v_t_bestDistance])), (h_t_row, .inr (7, [.ref h_t_row_cells, .int v_t_row_count])), (h_t_row_cells, .inl (cB, 65546, .inl (bf f_t_row_cells))), (h_t_heads, .inl (cI, 16384, .inl f_t_heads)), (h_t_before, .inl (cI, 65536, .inl f_t_before))] ∧ NW U)) (va_Qv (fun _ : Unit => True) (fun _ t => va_P (dC, dI) vwCl [(h_t, .inr (5, [.ref h_t_row, .ref h_t_heads, .ref h_t_before, .ref h_t_tokens, .int v_t_tokenCount, .int v_t_matchCount, .int v_t_bestLength, .int v_t_bestDistance])), (h_t_row, .inr (7, [.ref h_t_row_cells, .int v_t_row_count])), (h_t_row_cells, .inl (cB, 65546, .inl (bf f_t_row_cells))), (h_t_heads, .inl (cI, 16384, .inl o.1)), (h_t_before, .inl (cI, 65536, .inl o.2))] t.heap ∧ va_K (dC, dI) vwCl [(cB, .byte), (cI, .int), (cJ, .long)] t ∧ va_D (va_A [(h_t, .inr (5, [.ref h_t_row, .ref h_t_heads, .ref h_t_before, .ref h_t_tokens, .int v_t_tokenCount, .int v_t_matchCount, .int v_t_bestLength, .int v_t_bestDistance])), (h_t_row, .inr (7, [.ref h_t_row_cells, .int v_t_row_count])), (h_t_row_cells, .inl (cB, 65546, .inl (bf f_t_row_cells))), (h_t_heads, .inl (cI, 16384, .inl f_t_heads)), (h_t_before, .inl (cI, 65536, .inl f_t_before))] sz) [(h_t, .inr (5, [.ref h_t_row, .ref h_t_heads, .ref h_t_before, .ref h_t_tokens, .int v_t_tokenCount, .int v_t_matchCount, .int v_t_bestLength, .int v_t_bestDistance])), (h_t_row, .inr (7, [.ref h_t_row_cells, .int v_t_row_count])), (h_t_row_cells, .inl (cB, 65546, .inl (bf f_t_row_cells))), (h_t_heads, .inl (cI, 16384, .inl o.1)), (h_t_before, .inl (cI, 65536, .inl o.2))]) (va_A [(h_t, .inr (5, [.ref h_t_row, .ref h_t_heads, .ref h_t_before, .ref h_t_tokens, .int v_t_tokenCount, .int v_t_matchCount, .int v_t_bestLength, .int v_t_bestDistance])), (h_t_row, .inr (7, [.ref h_t_row_cells, .int v_t_row_count])), (h_t_row_cells, .inl (cB, 65546, .inl (bf f_t_row_cells))), (h_t_heads, .inl (cI, 16384, .inl f_t_heads)), (h_t_before, .inl (cI, 65536, .inl f_t_before))] sz)) 0 0 (va_A [(h_t, .inr (5, [.ref h_t_row, .ref h_t_heads, .ref h_t_before, .ref h_t_tokens, .int v_t_tokenCount, .int v_t_matchCount, .int v_t_bestLength, .int v_t_bestDistance])), (h_t_row, .inr (7, [.ref h_t_row_cells, .int v_t_row_count])), (h_t_row_cells, .inl (cB, 65546, .inl (bf f_t_row_cells))), (h_t_heads, .inl (cI, 16384, .inl f_t_heads)), (h_t_before, .inl (cI, 65536, .inl f_t_before))] sz) := by
  refine Met.ofW (cc := b_Matcher_remember) (maxL := 5) (ret := none) (by decide) rfl ?_
  intro p e s m args below meth c s₁ B hml hv
  obtain ⟨rfl, hsz, hP, hK, hD0, hN⟩ := hv
  have hx := B.exec
  have hb := B.bytes
  have hr := B.returns
  have hts := atoms_spec (ws := w_Matcher_remember) B.pre
  have ht : ∀ w ∈ TB, w.before ([.ref h_t, .int p1, .int p2]).toArray s = true := fun w h => hts w (List.mem_cons_of_mem _ h)
  have hown : s.vm.findClass R_Matcher = some m.cls := findClass_of_methodNamed B.named
  have hlocks := B.notSynchronized
  subst hsz
  have hD := hD0.self (sz := s.heap.size)
  generalize hAe : va_A [(h_t, .inr (5, [.ref h_t_row, .ref h_t_heads, .ref h_t_before, .ref h_t_tokens, .int v_t_tokenCount, .int v_t_matchCount, .int v_t_bestLength, .int v_t_bestDistance])), (h_t_row, .inr (7, [.ref h_t_row_cells, .int v_t_row_count])), (h_t_row_cells, .inl (cB, 65546, .inl (bf f_t_row_cells))), (h_t_heads, .inl (cI, 16384, .inl f_t_heads)), (h_t_before, .inl (cI, 65536, .inl f_t_before))] s.heap.size = A at hD ⊢
  have hA : ∀ q : Nat, s.heap.size ≤ q → A q := fun q h => by rw [← hAe]; exact Or.inr h
  have hS : va_S A s.heap s.heap [] := va_S.rf
  have hP : va_P (dC, dI) vwCl [(h_t, .inr (5, [.ref h_t_row, .ref h_t_heads, .ref h_t_before, .ref h_t_tokens, .int v_t_tokenCount, .int v_t_matchCount, .int v_t_bestLength, .int v_t_bestDistance])), (h_t_row, .inr (7, [.ref h_t_row_cells, .int v_t_row_count])), (h_t_row_cells, .inl (cB, 65546, .inl (bf f_t_row_cells))), (h_t_heads, .inl (cI, 16384, .inl f_t_heads)), (h_t_before, .inl (cI, 65536, .inl f_t_before))] s.heap := hP
  have C : CX p s m ([.ref h_t, .int p1, .int p2]).toArray c b_Matcher_remember 5 R_Matcher A (dC, dI) [(cB, .byte), (cI, .int), (cJ, .long)] := ⟨hx, hb, hml, hown, ht, hA, hK, hN⟩
  have hl := lv_entry ([.ref h_t, .int p1, .int p2]) (n := 5) (Nat.le_of_ble_eq_true rfl)
  rw [lg_entry_eq]
  generalize (lg_sl ([.ref h_t, .int p1, .int p2]) ++ List.replicate (5 - (lg_sl ([.ref h_t, .int p1, .int p2])).length) Slot.unset).toArray = ls at hl ⊢
  have hl : lv_has ls 5 [(0, .ref h_t), (1, .int p1), (2, .int p2)] := hl
  refine lv_iload_n hx hb d_Matcher_remember_0 rfl (lv_at hl 1 rfl) ?_
  refine lv_istore_n (lv' := [(3, .int p1), (0, .ref h_t), (1, .int p1), (2, .int p2)]) hx hb d_Matcher_remember_1 rfl hl (by decide) rfl (fun ls hl => ?_)
  obtain ⟨y6, hy6, h⟩ := bd h
  refine wMatcher_remember_2 h_t h_t_row h_t_heads h_t_before h_t_tokens h_t_row_cells cB cI cJ N v_t_tokenCount v_t_matchCount v_t_bestLength v_t_bestDistance v_t_row_count f_t_row_cells p2 C N p1 f_t_heads f_t_before _ _ _ _ hP hD hS (lv_sub hl [1, 3, 0] rfl) hy6 (fun H locs ls hP hD hS hl => ?_)
  obtain rfl := Option.some.inj h
  exact W.vret hx hb hr (fun t ht hW => ⟨⟨(), rfl, trivial, by rw [ht]; exact hP, va_K.moved hW.alike hK, hD⟩, hS.F ht⟩) hS.2.2 d_Matcher_remember_41
/-! PackedBytes$Matcher.findMatch(II)V -/
def fMatcher_findMatch_53 (N : Nat) (f_t_row_cells : Nat → Int32) (x1 : Int32) (x3 : Int32) (f_t_before : Nat → Int32) : Nat → (Int32) → (Int32) → (Int32) → (Int32) → (Int32) → Option ((Int32 × Int32) ⊕ (Int32 × Int32))
  | 0, _, _, _, _, _ => none
  | k + 1, x5, x6, x7, v_t_bestLength, v_t_bestDistance =>
    if (32768 : Int32) ≤ x7 then
      some (.inl (v_t_bestLength, v_t_bestDistance))
    else
      if (64 : Int32) ≤ x6 then
        some (.inl (v_t_bestLength, v_t_bestDistance))
      else
        if x3 ≤ v_t_bestLength then
          some (.inl (v_t_bestLength, v_t_bestDistance))
        else
          if x5 < 0 then
            some (.inr (v_t_bestLength, v_t_bestDistance))
          else
            if (x1 - x5) ≤ (32768 : Int32) then
              (fMatcher_sameThree N x5 x1 f_t_row_cells).bind (fun y9 =>
                if (bI y9) = 0 then
                  if ¬ (x5 < 0 ∨ 65536 ≤ x5.toNatClampNeg) then
                    fMatcher_findMatch_53 N f_t_row_cells x1 x3 f_t_before k (f_t_before x5.toNatClampNeg) x6 (x7 + (1 : Int32)) v_t_bestLength v_t_bestDistance
                  else none
                else
                  if ¬ ((x5 + v_t_bestLength) < 0 ∨ 65546 ≤ (x5 + v_t_bestLength).toNatClampNeg) then
                    if ¬ ((x1 + v_t_bestLength) < 0 ∨ 65546 ≤ (x1 + v_t_bestLength).toNatClampNeg) then
                      if ((f_t_row_cells (x5 + v_t_bestLength).toNatClampNeg).toInt8.toInt32) = ((f_t_row_cells (x1 + v_t_bestLength).toNatClampNeg).toInt8.toInt32) then
                        (fMatcher_compare N x5 x1 x3 v_t_bestLength v_t_bestDistance f_t_row_cells).bind (fun y16 =>
                          if ¬ (x5 < 0 ∨ 65536 ≤ x5.toNatClampNeg) then
                            fMatcher_findMatch_53 N f_t_row_cells x1 x3 f_t_before k (f_t_before x5.toNatClampNeg) (x6 + (1 : Int32)) (x7 + (1 : Int32)) y16.1 y16.2
                          else none)
                      else
                        if ¬ (x5 < 0 ∨ 65536 ≤ x5.toNatClampNeg) then
                          fMatcher_findMatch_53 N f_t_row_cells x1 x3 f_t_before k (f_t_before x5.toNatClampNeg) (x6 + (1 : Int32)) (x7 + (1 : Int32)) v_t_bestLength v_t_bestDistance
                        else none
                    else none
                  else none)
            else
              some (.inr (v_t_bestLength, v_t_bestDistance))
def fMatcher_findMatch (N : Nat) (p1 : Int32) (p2 : Int32) (f_t_row_cells : Nat → Int32) (f_t_heads : Nat → Int32) (f_t_before : Nat → Int32) : Option (Int32 × Int32) :=
    if (3 : Int32) ≤ (if (p2 - p1) < (258 : Int32) then (p2 - p1) else (258 : Int32)) then
      (fMatcher_hash N p1 f_t_row_cells).bind (fun y2 =>
        if ¬ (y2 < 0 ∨ 16384 ≤ y2.toNatClampNeg) then
          (fMatcher_findMatch_53 N f_t_row_cells p1 (if (p2 - p1) < (258 : Int32) then (p2 - p1) else (258 : Int32)) f_t_before N (f_t_heads y2.toNatClampNeg) (0 : Int32) (0 : Int32) (0 : Int32) (0 : Int32)).bind (fun y18 =>
            Sum.elim (fun y18 =>
              some (y18.1, y18.2)) (fun y18 =>
              some (y18.1, y18.2)) y18)
        else none)
    else
      some ((0 : Int32), (0 : Int32))
set_option maxHeartbeats 4000000 in
set_option maxRecDepth 100000 in
theorem wMatcher_findMatch_53 {p : Program} {l : Launch} {e : Env} {s : State} {m : MethodId} {args : Array Value} {below : List Frame} {meth : Method} {c : Code} {Q : State → Prop} {A : Nat → Prop} {dC : Nat → ClassId} {dI : Nat → Nat → Nat} (h_t h_t_row h_t_heads h_t_before h_t_tokens h_t_row_cells : Nat) (cB cI cJ : ClassId) (N : Nat) (v_t_tokenCount : Int32) (v_t_matchCount : Int32) (v_t_row_count : Int32) (f_t_row_cells : Nat → Int32) (f_t_heads : Nat → Int32) (f_t_before : Nat → Int32) (x1 : Int32) (x3 : Int32) (C : CX p s m args c b_Matcher_findMatch 8 R_Matcher A (dC, dI) [(cB, .byte), (cI, .int), (cJ, .long)]) :
    ∀ (n : Nat) (x5 : Int32) (x6 : Int32) (x7 : Int32) (v_t_bestLength : Int32) (v_t_bestDistance : Int32) (H : Heap) (locs : List Loc) (ls : Array Slot) (o : (Int32 × Int32) ⊕ (Int32 × Int32)), va_P (dC, dI) vwCl [(h_t, .inr (5, [.ref h_t_row, .ref h_t_heads, .ref h_t_before, .ref h_t_tokens, .int v_t_tokenCount, .int v_t_matchCount, .int v_t_bestLength, .int v_t_bestDistance])), (h_t_row, .inr (7, [.ref h_t_row_cells, .int v_t_row_count])), (h_t_row_cells, .inl (cB, 65546, .inl (bf f_t_row_cells))), (h_t_heads, .inl (cI, 16384, .inl f_t_heads)), (h_t_before, .inl (cI, 65536, .inl f_t_before))] H → va_D A [(h_t, .inr (5, [.ref h_t_row, .ref h_t_heads, .ref h_t_before, .ref h_t_tokens, .int v_t_tokenCount, .int v_t_matchCount, .int v_t_bestLength, .int v_t_bestDistance])), (h_t_row, .inr (7, [.ref h_t_row_cells, .int v_t_row_count])), (h_t_row_cells, .inl (cB, 65546, .inl (bf f_t_row_cells))), (h_t_heads, .inl (cI, 16384, .inl f_t_heads)), (h_t_before, .inl (cI, 65536, .inl f_t_before))] → va_S A s.heap H locs → lv_has ls 8 [(0, .ref h_t), (1, .int x1), (3, .int x3), (4, .ref h_t_row_cells), (5, .int x5), (6, .int x6), (7, .int x7)] → fMatcher_findMatch_53 N f_t_row_cells x1 x3 f_t_before n x5 x6 x7 v_t_bestLength v_t_bestDistance = some o → (∀ (H : Heap) (locs : List Loc) (ls : Array Slot), ∀ y9, o = .inl y9 → va_P (dC, dI) vwCl [(h_t, .inr (5, [.ref h_t_row, .ref h_t_heads, .ref h_t_before, .ref h_t_tokens, .int v_t_tokenCount, .int v_t_matchCount, .int y9.1, .int y9.2])), (h_t_row, .inr (7, [.ref h_t_row_cells, .int v_t_row_count])), (h_t_row_cells, .inl (cB, 65546, .inl (bf f_t_row_cells))), (h_t_heads, .inl (cI, 16384, .inl f_t_heads)), (h_t_before, .inl (cI, 65536, .inl f_t_before))] H → va_D A [(h_t, .inr (5, [.ref h_t_row, .ref h_t_heads, .ref h_t_before, .ref h_t_tokens, .int v_t_tokenCount, .int v_t_matchCount, .int y9.1, .int y9.2])), (h_t_row, .inr (7, [.ref h_t_row_cells, .int v_t_row_count])), (h_t_row_cells, .inl (cB, 65546, .inl (bf f_t_row_cells))), (h_t_heads, .inl (cI, 16384, .inl f_t_heads)), (h_t_before, .inl (cI, 65536, .inl f_t_before))] → va_S A s.heap H locs → lv_has ls 8 [] → W p l e ({ frames := 1, cells := 0, slots := 0, locals := 25 } : Room) s m args below meth c H locs 0 0 Q (F0 m 148 ls [])) → (∀ (H : Heap) (locs : List Loc) (ls : Array Slot) (pc9 : Nat), ∀ y9, o = .inr y9 → decode b_Matcher_findMatch pc9 = .ok (.return_, 1) → va_P (dC, dI) vwCl [(h_t, .inr (5, [.ref h_t_row, .ref h_t_heads, .ref h_t_before, .ref h_t_tokens, .int v_t_tokenCount, .int v_t_matchCount, .int y9.1, .int y9.2])), (h_t_row, .inr (7, [.ref h_t_row_cells, .int v_t_row_count])), (h_t_row_cells, .inl (cB, 65546, .inl (bf f_t_row_cells))), (h_t_heads, .inl (cI, 16384, .inl f_t_heads)), (h_t_before, .inl (cI, 65536, .inl f_t_before))] H → va_D A [(h_t, .inr (5, [.ref h_t_row, .ref h_t_heads, .ref h_t_before, .ref h_t_tokens, .int v_t_tokenCount, .int v_t_matchCount, .int y9.1, .int y9.2])), (h_t_row, .inr (7, [.ref h_t_row_cells, .int v_t_row_count])), (h_t_row_cells, .inl (cB, 65546, .inl (bf f_t_row_cells))), (h_t_heads, .inl (cI, 16384, .inl f_t_heads)), (h_t_before, .inl (cI, 65536, .inl f_t_before))] → va_S A s.heap H locs → W p l e ({ frames := 1, cells := 0, slots := 0, locals := 25 } : Room) s m args below meth c H locs 0 0 Q (F0 m pc9 ls [])) → W p l e ({ frames := 1, cells := 0, slots := 0, locals := 25 } : Room) s m args below meth c H locs 0 0 Q (F0 m 53 ls []) := by
  obtain ⟨hx, hb, hml, hown, ht, hA, hK, hN⟩ := id C
  intro n
  induction n with
  | zero => intro x5 x6 x7 v_t_bestLength v_t_bestDistance H locs ls o _ _ _ _ h; exact nomatch h
  | succ k ih =>
    intro x5 x6 x7 v_t_bestLength v_t_bestDistance H locs ls o hP hD hS hl h kx kr
    refine lv_iload hx hb d_Matcher_findMatch_53 (lv_at hl 6 rfl) ?_
    refine lv_ldc (v := (32768 : Int32)) hx hb hown (ht _ k_472) d_Matcher_findMatch_55 ?_
    refine lv_icmp_ge (tgt := 148) hx hb d_Matcher_findMatch_57 (by decide) (fun c4 => ?_) (fun c4 => ?_)
    · replace h := ip_p c4 h
      obtain rfl := Option.some.inj h
      exact kx _ _ _ _ rfl hP hD hS (lv_sub hl [] rfl)
    · replace h := ip_n c4 h
      refine lv_iload hx hb d_Matcher_findMatch_60 (lv_at hl 5 rfl) ?_
      refine lv_bipush (v := (64 : Int32)) hx hb d_Matcher_findMatch_62 (by decide) ?_
      refine lv_icmp_ge (tgt := 148) hx hb d_Matcher_findMatch_64 (by decide) (fun c5 => ?_) (fun c5 => ?_)
      · replace h := ip_p c5 h
        obtain rfl := Option.some.inj h
        exact kx _ _ _ _ rfl hP hD hS (lv_sub hl [] rfl)
      · replace h := ip_n c5 h
        refine lv_aload_n hx hb d_Matcher_findMatch_67 rfl (lv_at hl 0 rfl) ?_
        refine va_get (D := (dC, dI)) (ci := 5) (v := .int v_t_bestLength) (C := R_Matcher) (T := F_Matcher) (N := 8) hx hb ht in_Matcher hown hK hP 0 rfl rfl 6 (by decide) (ht _ k_259) (fun _ h9 => h9) rfl d_Matcher_findMatch_68 ?_
        refine lv_iload_n hx hb d_Matcher_findMatch_71 rfl (lv_at hl 2 rfl) ?_
        refine lv_icmp_ge (tgt := 148) hx hb d_Matcher_findMatch_72 (by decide) (fun c6 => ?_) (fun c6 => ?_)
        · replace h := ip_p c6 h
          obtain rfl := Option.some.inj h
          exact kx _ _ _ _ rfl hP hD hS (lv_sub hl [] rfl)
        · replace h := ip_n c6 h
          refine lv_iload hx hb d_Matcher_findMatch_75 (lv_at hl 4 rfl) ?_
          refine lv_if_lt (tgt := 89) hx hb d_Matcher_findMatch_77 (by decide) (fun c7 => ?_) (fun c7 => ?_)
          · replace h := ip_p c7 h
            obtain rfl := Option.some.inj h
            exact kr _ _ _ _ _ rfl d_Matcher_findMatch_89 hP hD hS
          · replace h := ip_n c7 h
            refine lv_iload_n hx hb d_Matcher_findMatch_80 rfl (lv_at hl 1 rfl) ?_
            refine lv_iload hx hb d_Matcher_findMatch_81 (lv_at hl 4 rfl) ?_
            refine lv_isub hx hb d_Matcher_findMatch_83 ?_
            refine lv_ldc (v := (32768 : Int32)) hx hb hown (ht _ k_472) d_Matcher_findMatch_84 ?_
            refine lv_icmp_le (tgt := 90) hx hb d_Matcher_findMatch_86 (by decide) (fun c8 => ?_) (fun c8 => ?_)
            · replace h := ip_p c8 h
              refine lv_aload_n hx hb d_Matcher_findMatch_90 rfl (lv_at hl 0 rfl) ?_
              refine lv_iload hx hb d_Matcher_findMatch_91 (lv_at hl 4 rfl) ?_
              refine lv_iload_n hx hb d_Matcher_findMatch_93 rfl (lv_at hl 1 rfl) ?_
              obtain ⟨y9, hy9, h⟩ := bd h
              have hPc := hP.sub (ws' := [(h_t, .inr (5, [.ref h_t_row, .ref h_t_heads, .ref h_t_before, .ref h_t_tokens, .int v_t_tokenCount, .int v_t_matchCount, .int v_t_bestLength, .int v_t_bestDistance])), (h_t_row, .inr (7, [.ref h_t_row_cells, .int v_t_row_count])), (h_t_row_cells, .inl (cB, 65546, .inl (bf f_t_row_cells)))]) [0, 1, 2] rfl
              have hDc := hD.sub (ws' := [(h_t, .inr (5, [.ref h_t_row, .ref h_t_heads, .ref h_t_before, .ref h_t_tokens, .int v_t_tokenCount, .int v_t_matchCount, .int v_t_bestLength, .int v_t_bestDistance])), (h_t_row, .inr (7, [.ref h_t_row_cells, .int v_t_row_count])), (h_t_row_cells, .inl (cB, 65546, .inl (bf f_t_row_cells)))]) [0, 1, 2] (by decide) rfl
              have hFc := va_free (wc := [(h_t, .inr (5, [.ref h_t_row, .ref h_t_heads, .ref h_t_before, .ref h_t_tokens, .int v_t_tokenCount, .int v_t_matchCount, .int v_t_bestLength, .int v_t_bestDistance])), (h_t_row, .inr (7, [.ref h_t_row_cells, .int v_t_row_count])), (h_t_row_cells, .inl (cB, 65546, .inl (bf f_t_row_cells)))]) hD hS hA [0, 1, 2] rfl
              refine va_calli (va_runV (As := [.int x5, .int x1]) (rest := []) ⟨hx, hb, hml, hown, ht⟩ (cMatcher_sameThree l dC dI h_t h_t_row h_t_heads h_t_before h_t_tokens h_t_row_cells cB cI cJ _ N x5 x1 v_t_tokenCount v_t_matchCount v_t_bestLength v_t_bestDistance v_t_row_count f_t_row_cells y9 hy9) (⟨callB_of 2 ht (gTB (k_476)) rfl rfl rfl (ht _ k_73) (ht _ k_473) (by decide +kernel) ⟨Nat.le_of_ble_eq_true rfl, Nat.le_of_ble_eq_true rfl⟩, ht _ k_475, ht _ k_2⟩) ⟨fun a U g mk q => by obtain ⟨q0, q1, qP, qK, qD, qN⟩ := q; exact ⟨q0, q1, qP, va_K.moved (u := U) (U := U.calling g mk a) (Vm.Alike.refl U.vm) qK, qD, NW_same (u := U) rfl qN⟩, va_recv hK hPc (ci := 5) (q0 := 0) rfl rfl, fun U hU hW => ⟨rfl, by rw [hU], by rw [hU]; exact hPc, va_K.moved hW.alike hK, hDc.weaken (fun _ _ _ _ => trivial), NW_warm hW hN⟩⟩ rfl rfl hl.1 rfl (lv_room (Nat.le_of_ble_eq_true rfl)) d_Matcher_findMatch_94 ⟨Nat.le_of_ble_eq_true rfl, Nat.le_of_ble_eq_true rfl⟩) hS (fun q _ h => hFc q h) hFc (fun ry9 u t H1 locs htH hvm hw hB hz1 hk1 hS => ?_)
              obtain ⟨hP1, hK1, hD1⟩ := hB
              rw [htH] at hP1
              obtain ⟨hP, hD⟩ := va_join (wr := [(h_t_heads, .inl (cI, 16384, .inl f_t_heads)), (h_t_before, .inl (cI, 65536, .inl f_t_before))]) (w1 := [(h_t, .inr (5, [.ref h_t_row, .ref h_t_heads, .ref h_t_before, .ref h_t_tokens, .int v_t_tokenCount, .int v_t_matchCount, .int v_t_bestLength, .int v_t_bestDistance])), (h_t_row, .inr (7, [.ref h_t_row_cells, .int v_t_row_count])), (h_t_row_cells, .inl (cB, 65546, .inl (bf f_t_row_cells)))]) hP hD [0, 1, 2] [3, 4] rfl rfl (by decide) (by decide) hk1 hFc hP1 hD1
              generalize H1 = H at hP hS ⊢
              have hP : va_P (dC, dI) vwCl [(h_t, .inr (5, [.ref h_t_row, .ref h_t_heads, .ref h_t_before, .ref h_t_tokens, .int v_t_tokenCount, .int v_t_matchCount, .int v_t_bestLength, .int v_t_bestDistance])), (h_t_row, .inr (7, [.ref h_t_row_cells, .int v_t_row_count])), (h_t_row_cells, .inl (cB, 65546, .inl (bf f_t_row_cells))), (h_t_heads, .inl (cI, 16384, .inl f_t_heads)), (h_t_before, .inl (cI, 65536, .inl f_t_before))] H := hP.sub [2, 3, 4, 0, 1] rfl
              have hD : va_D A [(h_t, .inr (5, [.ref h_t_row, .ref h_t_heads, .ref h_t_before, .ref h_t_tokens, .int v_t_tokenCount, .int v_t_matchCount, .int v_t_bestLength, .int v_t_bestDistance])), (h_t_row, .inr (7, [.ref h_t_row_cells, .int v_t_row_count])), (h_t_row_cells, .inl (cB, 65546, .inl (bf f_t_row_cells))), (h_t_heads, .inl (cI, 16384, .inl f_t_heads)), (h_t_before, .inl (cI, 65536, .inl f_t_before))] := hD.sub [2, 3, 4, 0, 1] (by decide) rfl
              replace hw := hw.symm
              subst hw
              refine lv_if_eq (tgt := 133) hx hb d_Matcher_findMatch_97 (by decide) (fun c10 => ?_) (fun c10 => ?_)
              · replace h := ip_p c10 h
                refine lv_aload_n hx hb d_Matcher_findMatch_133 rfl (lv_at hl 0 rfl) ?_
                refine va_get (D := (dC, dI)) (ci := 5) (v := .ref h_t_before) (C := R_Matcher) (T := F_Matcher) (N := 8) hx hb ht in_Matcher hown hK hP 0 rfl rfl 2 (by decide) (ht _ k_252) (fun _ h9 => h9) rfl d_Matcher_findMatch_134 ?_
                refine lv_iload hx hb d_Matcher_findMatch_137 (lv_at hl 4 rfl) ?_
                obtain ⟨g11, h⟩ := gd h
                refine va_iald hx hb hK hP 4 1 rfl rfl g11 d_Matcher_findMatch_139 ?_
                refine lv_istore (lv' := [(5, .int (f_t_before x5.toNatClampNeg)), (0, .ref h_t), (1, .int x1), (3, .int x3), (4, .ref h_t_row_cells), (6, .int x6), (7, .int x7)]) hx hb d_Matcher_findMatch_140 hl (by decide) rfl (fun ls hl => ?_)
                refine lv_iinc (v := x7 + (1 : Int32)) (lv' := [(7, .int (x7 + (1 : Int32))), (5, .int (f_t_before x5.toNatClampNeg)), (0, .ref h_t), (1, .int x1), (3, .int x3), (4, .ref h_t_row_cells), (6, .int x6)]) hx hb d_Matcher_findMatch_142 hl (k := 6) rfl rfl (by decide) rfl (fun ls hl => ?_)
                refine lv_goto (tgt := 53) hx hb d_Matcher_findMatch_145 (by decide) ?_
                exact ih (f_t_before x5.toNatClampNeg) x6 (x7 + (1 : Int32)) v_t_bestLength v_t_bestDistance _ _ _ _ hP hD hS (lv_sub hl [2, 3, 4, 5, 1, 6, 0] rfl) h kx kr
              · replace h := ip_n c10 h
                refine lv_iinc (v := x6 + (1 : Int32)) (lv' := [(6, .int (x6 + (1 : Int32))), (0, .ref h_t), (1, .int x1), (3, .int x3), (4, .ref h_t_row_cells), (5, .int x5), (7, .int x7)]) hx hb d_Matcher_findMatch_100 hl (k := 5) rfl rfl (by decide) rfl (fun ls hl => ?_)
                refine lv_aload hx hb d_Matcher_findMatch_103 (lv_at hl 4 rfl) ?_
                refine lv_iload hx hb d_Matcher_findMatch_105 (lv_at hl 5 rfl) ?_
                refine lv_aload_n hx hb d_Matcher_findMatch_107 rfl (lv_at hl 1 rfl) ?_
                refine va_get (D := (dC, dI)) (ci := 5) (v := .int v_t_bestLength) (C := R_Matcher) (T := F_Matcher) (N := 8) hx hb ht in_Matcher hown hK hP 0 rfl rfl 6 (by decide) (ht _ k_259) (fun _ h9 => h9) rfl d_Matcher_findMatch_108 ?_
                refine lv_iadd hx hb d_Matcher_findMatch_111 ?_
                obtain ⟨g12, h⟩ := gd h
                refine va_bald (f := bf f_t_row_cells) hx hb hK hP 2 0 rfl rfl g12 d_Matcher_findMatch_112 ?_
                refine lv_aload hx hb d_Matcher_findMatch_113 (lv_at hl 4 rfl) ?_
                refine lv_iload_n hx hb d_Matcher_findMatch_115 rfl (lv_at hl 2 rfl) ?_
                refine lv_aload_n hx hb d_Matcher_findMatch_116 rfl (lv_at hl 1 rfl) ?_
                refine va_get (D := (dC, dI)) (ci := 5) (v := .int v_t_bestLength) (C := R_Matcher) (T := F_Matcher) (N := 8) hx hb ht in_Matcher hown hK hP 0 rfl rfl 6 (by decide) (ht _ k_259) (fun _ h9 => h9) rfl d_Matcher_findMatch_117 ?_
                refine lv_iadd hx hb d_Matcher_findMatch_120 ?_
                obtain ⟨g13, h⟩ := gd h
                refine va_bald (f := bf f_t_row_cells) hx hb hK hP 2 0 rfl rfl g13 d_Matcher_findMatch_121 ?_
                refine lv_icmp_ne (tgt := 133) hx hb d_Matcher_findMatch_122 (by decide) (fun c14 => ?_) (fun c14 => ?_)
                · replace h := ip_n c14 h
                  refine lv_aload_n hx hb d_Matcher_findMatch_133 rfl (lv_at hl 1 rfl) ?_
                  refine va_get (D := (dC, dI)) (ci := 5) (v := .ref h_t_before) (C := R_Matcher) (T := F_Matcher) (N := 8) hx hb ht in_Matcher hown hK hP 0 rfl rfl 2 (by decide) (ht _ k_252) (fun _ h9 => h9) rfl d_Matcher_findMatch_134 ?_
                  refine lv_iload hx hb d_Matcher_findMatch_137 (lv_at hl 5 rfl) ?_
                  obtain ⟨g15, h⟩ := gd h
                  refine va_iald hx hb hK hP 4 1 rfl rfl g15 d_Matcher_findMatch_139 ?_
                  refine lv_istore (lv' := [(5, .int (f_t_before x5.toNatClampNeg)), (6, .int (x6 + (1 : Int32))), (0, .ref h_t), (1, .int x1), (3, .int x3), (4, .ref h_t_row_cells), (7, .int x7)]) hx hb d_Matcher_findMatch_140 hl (by decide) rfl (fun ls hl => ?_)
                  refine lv_iinc (v := x7 + (1 : Int32)) (lv' := [(7, .int (x7 + (1 : Int32))), (5, .int (f_t_before x5.toNatClampNeg)), (6, .int (x6 + (1 : Int32))), (0, .ref h_t), (1, .int x1), (3, .int x3), (4, .ref h_t_row_cells)]) hx hb d_Matcher_findMatch_142 hl (k := 6) rfl rfl (by decide) rfl (fun ls hl => ?_)
                  refine lv_goto (tgt := 53) hx hb d_Matcher_findMatch_145 (by decide) ?_
                  exact ih (f_t_before x5.toNatClampNeg) (x6 + (1 : Int32)) (x7 + (1 : Int32)) v_t_bestLength v_t_bestDistance _ _ _ _ hP hD hS (lv_sub hl [3, 4, 5, 6, 1, 2, 0] rfl) h kx kr
                · replace h := ip_p c14 h
                  refine lv_aload_n hx hb d_Matcher_findMatch_125 rfl (lv_at hl 1 rfl) ?_
                  refine lv_iload hx hb d_Matcher_findMatch_126 (lv_at hl 5 rfl) ?_
                  refine lv_iload_n hx hb d_Matcher_findMatch_128 rfl (lv_at hl 2 rfl) ?_
                  refine lv_iload_n hx hb d_Matcher_findMatch_129 rfl (lv_at hl 3 rfl) ?_
                  obtain ⟨y16, hy16, h⟩ := bd h
                  have hPc := hP.sub (ws' := [(h_t, .inr (5, [.ref h_t_row, .ref h_t_heads, .ref h_t_before, .ref h_t_tokens, .int v_t_tokenCount, .int v_t_matchCount, .int v_t_bestLength, .int v_t_bestDistance])), (h_t_row, .inr (7, [.ref h_t_row_cells, .int v_t_row_count])), (h_t_row_cells, .inl (cB, 65546, .inl (bf f_t_row_cells)))]) [0, 1, 2] rfl
                  have hDc := hD.sub (ws' := [(h_t, .inr (5, [.ref h_t_row, .ref h_t_heads, .ref h_t_before, .ref h_t_tokens, .int v_t_tokenCount, .int v_t_matchCount, .int v_t_bestLength, .int v_t_bestDistance])), (h_t_row, .inr (7, [.ref h_t_row_cells, .int v_t_row_count])), (h_t_row_cells, .inl (cB, 65546, .inl (bf f_t_row_cells)))]) [0, 1, 2] (by decide) rfl
                  have hFc := va_free (wc := [(h_t, .inr (5, [.ref h_t_row, .ref h_t_heads, .ref h_t_before, .ref h_t_tokens, .int v_t_tokenCount, .int v_t_matchCount, .int v_t_bestLength, .int v_t_bestDistance])), (h_t_row, .inr (7, [.ref h_t_row_cells, .int v_t_row_count])), (h_t_row_cells, .inl (cB, 65546, .inl (bf f_t_row_cells)))]) hD hS hA [0, 1, 2] rfl
                  refine va_callv (va_runV (As := [.int x5, .int x1, .int x3]) (rest := []) ⟨hx, hb, hml, hown, ht⟩ (cMatcher_compare l dC dI h_t h_t_row h_t_heads h_t_before h_t_tokens h_t_row_cells cB cI cJ _ N x5 x1 x3 v_t_tokenCount v_t_matchCount v_t_bestLength v_t_bestDistance v_t_row_count f_t_row_cells y16 hy16) (⟨callB_of 3 ht (gTB (k_480)) rfl rfl rfl (ht _ k_73) (ht _ k_477) (by decide +kernel) ⟨Nat.le_of_ble_eq_true rfl, Nat.le_of_ble_eq_true rfl⟩, ht _ k_479, ht _ k_3⟩) ⟨fun a U g mk q => by obtain ⟨q0, q1, qP, qK, qD, qN⟩ := q; exact ⟨q0, q1, qP, va_K.moved (u := U) (U := U.calling g mk a) (Vm.Alike.refl U.vm) qK, qD, NW_same (u := U) rfl qN⟩, va_recv hK hPc (ci := 5) (q0 := 0) rfl rfl, fun U hU hW => ⟨rfl, by rw [hU], by rw [hU]; exact hPc, va_K.moved hW.alike hK, hDc.weaken (fun _ _ _ _ => trivial), NW_warm hW hN⟩⟩ rfl rfl hl.1 rfl (lv_room (Nat.le_of_ble_eq_true rfl)) d_Matcher_findMatch_130 ⟨Nat.le_of_ble_eq_true rfl, Nat.le_of_ble_eq_true rfl⟩) hS (fun q _ h => hFc q h) hFc (fun u t H1 locs htH hvm hw hB hz1 hk1 hS => ?_)
                  obtain ⟨hP1, hK1, hD1⟩ := hB
                  rw [htH] at hP1
                  obtain ⟨hP, hD⟩ := va_join (wr := [(h_t_heads, .inl (cI, 16384, .inl f_t_heads)), (h_t_before, .inl (cI, 65536, .inl f_t_before))]) (w1 := [(h_t, .inr (5, [.ref h_t_row, .ref h_t_heads, .ref h_t_before, .ref h_t_tokens, .int v_t_tokenCount, .int v_t_matchCount, .int y16.1, .int y16.2])), (h_t_row, .inr (7, [.ref h_t_row_cells, .int v_t_row_count])), (h_t_row_cells, .inl (cB, 65546, .inl (bf f_t_row_cells)))]) hP hD [0, 1, 2] [3, 4] rfl rfl (by decide) (by decide) hk1 hFc hP1 hD1
                  generalize H1 = H at hP hS ⊢
                  have hP : va_P (dC, dI) vwCl [(h_t, .inr (5, [.ref h_t_row, .ref h_t_heads, .ref h_t_before, .ref h_t_tokens, .int v_t_tokenCount, .int v_t_matchCount, .int y16.1, .int y16.2])), (h_t_row, .inr (7, [.ref h_t_row_cells, .int v_t_row_count])), (h_t_row_cells, .inl (cB, 65546, .inl (bf f_t_row_cells))), (h_t_heads, .inl (cI, 16384, .inl f_t_heads)), (h_t_before, .inl (cI, 65536, .inl f_t_before))] H := hP.sub [2, 3, 4, 0, 1] rfl
                  have hD : va_D A [(h_t, .inr (5, [.ref h_t_row, .ref h_t_heads, .ref h_t_before, .ref h_t_tokens, .int v_t_tokenCount, .int v_t_matchCount, .int y16.1, .int y16.2])), (h_t_row, .inr (7, [.ref h_t_row_cells, .int v_t_row_count])), (h_t_row_cells, .inl (cB, 65546, .inl (bf f_t_row_cells))), (h_t_heads, .inl (cI, 16384, .inl f_t_heads)), (h_t_before, .inl (cI, 65536, .inl f_t_before))] := hD.sub [2, 3, 4, 0, 1] (by decide) rfl
                  refine lv_aload_n hx hb d_Matcher_findMatch_133 rfl (lv_at hl 1 rfl) ?_
                  refine va_get (D := (dC, dI)) (ci := 5) (v := .ref h_t_before) (C := R_Matcher) (T := F_Matcher) (N := 8) hx hb ht in_Matcher hown hK hP 0 rfl rfl 2 (by decide) (ht _ k_252) (fun _ h9 => h9) rfl d_Matcher_findMatch_134 ?_
                  refine lv_iload hx hb d_Matcher_findMatch_137 (lv_at hl 5 rfl) ?_
                  obtain ⟨g17, h⟩ := gd h
                  refine va_iald hx hb hK hP 4 1 rfl rfl g17 d_Matcher_findMatch_139 ?_
                  refine lv_istore (lv' := [(5, .int (f_t_before x5.toNatClampNeg)), (6, .int (x6 + (1 : Int32))), (0, .ref h_t), (1, .int x1), (3, .int x3), (4, .ref h_t_row_cells), (7, .int x7)]) hx hb d_Matcher_findMatch_140 hl (by decide) rfl (fun ls hl => ?_)
                  refine lv_iinc (v := x7 + (1 : Int32)) (lv' := [(7, .int (x7 + (1 : Int32))), (5, .int (f_t_before x5.toNatClampNeg)), (6, .int (x6 + (1 : Int32))), (0, .ref h_t), (1, .int x1), (3, .int x3), (4, .ref h_t_row_cells)]) hx hb d_Matcher_findMatch_142 hl (k := 6) rfl rfl (by decide) rfl (fun ls hl => ?_)
                  refine lv_goto (tgt := 53) hx hb d_Matcher_findMatch_145 (by decide) ?_
                  exact ih (f_t_before x5.toNatClampNeg) (x6 + (1 : Int32)) (x7 + (1 : Int32)) y16.1 y16.2 _ _ _ _ hP hD hS (lv_sub hl [3, 4, 5, 6, 1, 2, 0] rfl) h kx kr
            · replace h := ip_n c8 h
              obtain rfl := Option.some.inj h
              exact kr _ _ _ _ _ rfl d_Matcher_findMatch_89 hP hD hS
set_option maxHeartbeats 4000000 in
set_option maxRecDepth 100000 in
theorem cMatcher_findMatch (l : Launch) (dC : Nat → ClassId) (dI : Nat → Nat → Nat) (h_t h_t_row h_t_heads h_t_before h_t_tokens h_t_row_cells : Nat) (cB cI cJ : ClassId) (sz : Nat) (N : Nat) (p1 : Int32) (p2 : Int32) (v_t_tokenCount : Int32) (v_t_matchCount : Int32) (v_t_bestLength : Int32) (v_t_bestDistance : Int32) (v_t_row_count : Int32) (f_t_row_cells : Nat → Int32) (f_t_heads : Nat → Int32) (f_t_before : Nat → Int32) (o : Int32 × Int32) (h : fMatcher_findMatch N p1 p2 f_t_row_cells f_t_heads f_t_before = some o) : Met l y_Matcher_findMatch w_Matcher_findMatch ({ frames := 1, cells := 0, slots := 0, locals := 25 } : Room) (va_Pc [.ref h_t, .int p1, .int p2] (fun U => U.heap.size = sz ∧ va_P (dC, dI) vwCl [(h_t, .inr (5, [.ref h_t_row, .ref h_t_heads, .ref h_t_before, .ref h_t_tokens, .int v_t_tokenCount, .int v_t_matchCount, .int v_t_bestLength, .int v_t_bestDistance])), (h_t_row, .inr (7, [.ref h_t_row_cells, .int v_t_row_count])), (h_t_row_cells, .inl (cB, 65546, .inl (bf f_t_row_cells))), (h_t_heads, .inl (cI, 16384, .inl f_t_heads)), (h_t_before, .inl (cI, 65536, .inl f_t_before))] U.heap ∧ va_K (dC, dI) vwCl [(cB, .byte), (cI, .int), (cJ, .long)] U ∧ va_D (fun _ => True) [(h_t, .inr (5, [.ref h_t_row, .ref h_t_heads, .ref h_t_before, .ref h_t_tokens, .int v_t_tokenCount, .int v_t_matchCount, .int v_t_bestLength, .int v_t_bestDistance])), (h_t_row, .inr (7, [.ref h_t_row_cells, .int v_t_row_count])), (h_t_row_cells, .inl (cB, 65546, .inl (bf f_t_row_cells))), (h_t_heads, .inl (cI, 16384, .inl f_t_heads)), (h_t_before, .inl (cI, 65536, .inl f_t_before))] ∧ NW U)) (va_Qv (fun _ : Unit => True) (fun _ t => va_P (dC, dI) vwCl [(h_t, .inr (5, [.ref h_t_row, .ref h_t_heads, .ref h_t_before, .ref h_t_tokens, .int v_t_tokenCount, .int v_t_matchCount, .int o.1, .int o.2])), (h_t_row, .inr (7, [.ref h_t_row_cells, .int v_t_row_count])), (h_t_row_cells, .inl (cB, 65546, .inl (bf f_t_row_cells))), (h_t_heads, .inl (cI, 16384, .inl f_t_heads)), (h_t_before, .inl (cI, 65536, .inl f_t_before))] t.heap ∧ va_K (dC, dI) vwCl [(cB, .byte), (cI, .int), (cJ, .long)] t ∧ va_D (va_A [(h_t, .inr (5, [.ref h_t_row, .ref h_t_heads, .ref h_t_before, .ref h_t_tokens, .int v_t_tokenCount, .int v_t_matchCount, .int v_t_bestLength, .int v_t_bestDistance])), (h_t_row, .inr (7, [.ref h_t_row_cells, .int v_t_row_count])), (h_t_row_cells, .inl (cB, 65546, .inl (bf f_t_row_cells))), (h_t_heads, .inl (cI, 16384, .inl f_t_heads)), (h_t_before, .inl (cI, 65536, .inl f_t_before))] sz) [(h_t, .inr (5, [.ref h_t_row, .ref h_t_heads, .ref h_t_before, .ref h_t_tokens, .int v_t_tokenCount, .int v_t_matchCount, .int o.1, .int o.2])), (h_t_row, .inr (7, [.ref h_t_row_cells, .int v_t_row_count])), (h_t_row_cells, .inl (cB, 65546, .inl (bf f_t_row_cells))), (h_t_heads, .inl (cI, 16384, .inl f_t_heads)), (h_t_before, .inl (cI, 65536, .inl f_t_before))]) (va_A [(h_t, .inr (5, [.ref h_t_row, .ref h_t_heads, .ref h_t_before, .ref h_t_tokens, .int v_t_tokenCount, .int v_t_matchCount, .int v_t_bestLength, .int v_t_bestDistance])), (h_t_row, .inr (7, [.ref h_t_row_cells, .int v_t_row_count])), (h_t_row_cells, .inl (cB, 65546, .inl (bf f_t_row_cells))), (h_t_heads, .inl (cI, 16384, .inl f_t_heads)), (h_t_before, .inl (cI, 65536, .inl f_t_before))] sz)) 0 0 (va_A [(h_t, .inr (5, [.ref h_t_row, .ref h_t_heads, .ref h_t_before, .ref h_t_tokens, .int v_t_tokenCount, .int v_t_matchCount, .int v_t_bestLength, .int v_t_bestDistance])), (h_t_row, .inr (7, [.ref h_t_row_cells, .int v_t_row_count])), (h_t_row_cells, .inl (cB, 65546, .inl (bf f_t_row_cells))), (h_t_heads, .inl (cI, 16384, .inl f_t_heads)), (h_t_before, .inl (cI, 65536, .inl f_t_before))] sz) := by
  refine Met.ofW (cc := b_Matcher_findMatch) (maxL := 8) (ret := none) (by decide) rfl ?_
  intro p e s m args below meth c s₁ B hml hv
  obtain ⟨rfl, hsz, hP, hK, hD0, hN⟩ := hv
  have hx := B.exec
  have hb := B.bytes
  have hr := B.returns
  have hts := atoms_spec (ws := w_Matcher_findMatch) B.pre
  have ht : ∀ w ∈ TB, w.before ([.ref h_t, .int p1, .int p2]).toArray s = true := fun w h => hts w (List.mem_cons_of_mem _ h)
  have hown : s.vm.findClass R_Matcher = some m.cls := findClass_of_methodNamed B.named
  have hlocks := B.notSynchronized
  subst hsz
  have hD := hD0.self (sz := s.heap.size)
  generalize hAe : va_A [(h_t, .inr (5, [.ref h_t_row, .ref h_t_heads, .ref h_t_before, .ref h_t_tokens, .int v_t_tokenCount, .int v_t_matchCount, .int v_t_bestLength, .int v_t_bestDistance])), (h_t_row, .inr (7, [.ref h_t_row_cells, .int v_t_row_count])), (h_t_row_cells, .inl (cB, 65546, .inl (bf f_t_row_cells))), (h_t_heads, .inl (cI, 16384, .inl f_t_heads)), (h_t_before, .inl (cI, 65536, .inl f_t_before))] s.heap.size = A at hD ⊢
  have hA : ∀ q : Nat, s.heap.size ≤ q → A q := fun q h => by rw [← hAe]; exact Or.inr h
  have hS : va_S A s.heap s.heap [] := va_S.rf
  have hP : va_P (dC, dI) vwCl [(h_t, .inr (5, [.ref h_t_row, .ref h_t_heads, .ref h_t_before, .ref h_t_tokens, .int v_t_tokenCount, .int v_t_matchCount, .int v_t_bestLength, .int v_t_bestDistance])), (h_t_row, .inr (7, [.ref h_t_row_cells, .int v_t_row_count])), (h_t_row_cells, .inl (cB, 65546, .inl (bf f_t_row_cells))), (h_t_heads, .inl (cI, 16384, .inl f_t_heads)), (h_t_before, .inl (cI, 65536, .inl f_t_before))] s.heap := hP
  have C : CX p s m ([.ref h_t, .int p1, .int p2]).toArray c b_Matcher_findMatch 8 R_Matcher A (dC, dI) [(cB, .byte), (cI, .int), (cJ, .long)] := ⟨hx, hb, hml, hown, ht, hA, hK, hN⟩
  have hl := lv_entry ([.ref h_t, .int p1, .int p2]) (n := 8) (Nat.le_of_ble_eq_true rfl)
  rw [lg_entry_eq]
  generalize (lg_sl ([.ref h_t, .int p1, .int p2]) ++ List.replicate (8 - (lg_sl ([.ref h_t, .int p1, .int p2])).length) Slot.unset).toArray = ls at hl ⊢
  have hl : lv_has ls 8 [(0, .ref h_t), (1, .int p1), (2, .int p2)] := hl
  refine lv_aload_n hx hb d_Matcher_findMatch_0 rfl (lv_at hl 0 rfl) ?_
  refine lv_iconst (v := (0 : Int32)) hx hb d_Matcher_findMatch_1 (by decide) ?_
  refine va_put (D := (dC, dI)) (ci := 5) (v := .int (0 : Int32)) (ty := .int) (C := R_Matcher) (T := F_Matcher) (N := 8) hx hb ht in_Matcher t_Matcher t_Matcher_ok n_Matcher hown hK hP hD hS 0 rfl rfl 6 (by decide) (ht _ k_259) (fun _ h9 => h9) rfl (by decide +kernel) rfl rfl (Nat.le_of_ble_eq_true rfl) d_Matcher_findMatch_2 (fun H locs hP hD hS => ?_)
  have hP : va_P (dC, dI) vwCl [(h_t, .inr (5, [.ref h_t_row, .ref h_t_heads, .ref h_t_before, .ref h_t_tokens, .int v_t_tokenCount, .int v_t_matchCount, .int (0 : Int32), .int v_t_bestDistance])), (h_t_row, .inr (7, [.ref h_t_row_cells, .int v_t_row_count])), (h_t_row_cells, .inl (cB, 65546, .inl (bf f_t_row_cells))), (h_t_heads, .inl (cI, 16384, .inl f_t_heads)), (h_t_before, .inl (cI, 65536, .inl f_t_before))] H := hP
  have hD : va_D A [(h_t, .inr (5, [.ref h_t_row, .ref h_t_heads, .ref h_t_before, .ref h_t_tokens, .int v_t_tokenCount, .int v_t_matchCount, .int (0 : Int32), .int v_t_bestDistance])), (h_t_row, .inr (7, [.ref h_t_row_cells, .int v_t_row_count])), (h_t_row_cells, .inl (cB, 65546, .inl (bf f_t_row_cells))), (h_t_heads, .inl (cI, 16384, .inl f_t_heads)), (h_t_before, .inl (cI, 65536, .inl f_t_before))] := hD
  refine lv_aload_n hx hb d_Matcher_findMatch_5 rfl (lv_at hl 0 rfl) ?_
  refine lv_iconst (v := (0 : Int32)) hx hb d_Matcher_findMatch_6 (by decide) ?_
  refine va_put (D := (dC, dI)) (ci := 5) (v := .int (0 : Int32)) (ty := .int) (C := R_Matcher) (T := F_Matcher) (N := 8) hx hb ht in_Matcher t_Matcher t_Matcher_ok n_Matcher hown hK hP hD hS 0 rfl rfl 7 (by decide) (ht _ k_260) (fun _ h9 => h9) rfl (by decide +kernel) rfl rfl (Nat.le_of_ble_eq_true rfl) d_Matcher_findMatch_7 (fun H locs hP hD hS => ?_)
  have hP : va_P (dC, dI) vwCl [(h_t, .inr (5, [.ref h_t_row, .ref h_t_heads, .ref h_t_before, .ref h_t_tokens, .int v_t_tokenCount, .int v_t_matchCount, .int (0 : Int32), .int (0 : Int32)])), (h_t_row, .inr (7, [.ref h_t_row_cells, .int v_t_row_count])), (h_t_row_cells, .inl (cB, 65546, .inl (bf f_t_row_cells))), (h_t_heads, .inl (cI, 16384, .inl f_t_heads)), (h_t_before, .inl (cI, 65536, .inl f_t_before))] H := hP
  have hD : va_D A [(h_t, .inr (5, [.ref h_t_row, .ref h_t_heads, .ref h_t_before, .ref h_t_tokens, .int v_t_tokenCount, .int v_t_matchCount, .int (0 : Int32), .int (0 : Int32)])), (h_t_row, .inr (7, [.ref h_t_row_cells, .int v_t_row_count])), (h_t_row_cells, .inl (cB, 65546, .inl (bf f_t_row_cells))), (h_t_heads, .inl (cI, 16384, .inl f_t_heads)), (h_t_before, .inl (cI, 65536, .inl f_t_before))] := hD
  refine lv_sipush (v := (258 : Int32)) hx hb d_Matcher_findMatch_10 (by decide) ?_
  refine lv_iload_n hx hb d_Matcher_findMatch_13 rfl (lv_at hl 2 rfl) ?_
  refine lv_iload_n hx hb d_Matcher_findMatch_14 rfl (lv_at hl 1 rfl) ?_
  refine lv_isub hx hb d_Matcher_findMatch_15 ?_
  refine va_mmin hx hb (hml.trans hl.1.symm) hown (ht _ k_460) (ht _ k_461) (ht _ k_83) (ht _ k_462) (Nat.le_of_ble_eq_true rfl) (Nat.le_of_ble_eq_true rfl) (Nat.le_of_ble_eq_true rfl) (Nat.le_of_ble_eq_true rfl) d_Matcher_findMatch_16 ?_
  refine lv_istore_n (lv' := [(3, .int (if (p2 - p1) < (258 : Int32) then (p2 - p1) else (258 : Int32))), (0, .ref h_t), (1, .int p1), (2, .int p2)]) hx hb d_Matcher_findMatch_19 rfl hl (by decide) rfl (fun ls hl => ?_)
  refine lv_iload_n hx hb d_Matcher_findMatch_20 rfl (lv_at hl 0 rfl) ?_
  refine lv_iconst (v := (3 : Int32)) hx hb d_Matcher_findMatch_21 (by decide) ?_
  refine lv_icmp_ge (tgt := 26) hx hb d_Matcher_findMatch_22 (by decide) (fun c1 => ?_) (fun c1 => ?_)
  · replace h := ip_p c1 h
    refine lv_aload_n hx hb d_Matcher_findMatch_26 rfl (lv_at hl 1 rfl) ?_
    refine va_get (D := (dC, dI)) (ci := 5) (v := .ref h_t_row) (C := R_Matcher) (T := F_Matcher) (N := 8) hx hb ht in_Matcher hown hK hP 0 rfl rfl 0 (by decide) (ht _ k_250) (fun _ h9 => h9) rfl d_Matcher_findMatch_27 ?_
    refine va_get (D := (dC, dI)) (ci := 7) (v := .ref h_t_row_cells) (C := R_Row) (T := F_Row) (N := 2) hx hb ht in_Row hown hK hP 1 rfl rfl 0 (by decide) (ht _ k_102) (fun _ h9 => h9) rfl d_Matcher_findMatch_30 ?_
    refine lv_astore (lv' := [(4, .ref h_t_row_cells), (3, .int (if (p2 - p1) < (258 : Int32) then (p2 - p1) else (258 : Int32))), (0, .ref h_t), (1, .int p1), (2, .int p2)]) hx hb d_Matcher_findMatch_33 hl (by decide) rfl (fun ls hl => ?_)
    refine lv_aload_n hx hb d_Matcher_findMatch_35 rfl (lv_at hl 2 rfl) ?_
    refine va_get (D := (dC, dI)) (ci := 5) (v := .ref h_t_heads) (C := R_Matcher) (T := F_Matcher) (N := 8) hx hb ht in_Matcher hown hK hP 0 rfl rfl 1 (by decide) (ht _ k_251) (fun _ h9 => h9) rfl d_Matcher_findMatch_36 ?_
    refine lv_aload_n hx hb d_Matcher_findMatch_39 rfl (lv_at hl 2 rfl) ?_
    refine lv_iload_n hx hb d_Matcher_findMatch_40 rfl (lv_at hl 3 rfl) ?_
    obtain ⟨y2, hy2, h⟩ := bd h
    have hPc := hP.sub (ws' := [(h_t, .inr (5, [.ref h_t_row, .ref h_t_heads, .ref h_t_before, .ref h_t_tokens, .int v_t_tokenCount, .int v_t_matchCount, .int (0 : Int32), .int (0 : Int32)])), (h_t_row, .inr (7, [.ref h_t_row_cells, .int v_t_row_count])), (h_t_row_cells, .inl (cB, 65546, .inl (bf f_t_row_cells)))]) [0, 1, 2] rfl
    have hDc := hD.sub (ws' := [(h_t, .inr (5, [.ref h_t_row, .ref h_t_heads, .ref h_t_before, .ref h_t_tokens, .int v_t_tokenCount, .int v_t_matchCount, .int (0 : Int32), .int (0 : Int32)])), (h_t_row, .inr (7, [.ref h_t_row_cells, .int v_t_row_count])), (h_t_row_cells, .inl (cB, 65546, .inl (bf f_t_row_cells)))]) [0, 1, 2] (by decide) rfl
    have hFc := va_free (wc := [(h_t, .inr (5, [.ref h_t_row, .ref h_t_heads, .ref h_t_before, .ref h_t_tokens, .int v_t_tokenCount, .int v_t_matchCount, .int (0 : Int32), .int (0 : Int32)])), (h_t_row, .inr (7, [.ref h_t_row_cells, .int v_t_row_count])), (h_t_row_cells, .inl (cB, 65546, .inl (bf f_t_row_cells)))]) hD hS hA [0, 1, 2] rfl
    refine va_calli (va_runV (As := [.int p1]) (rest := [.ref h_t_heads]) ⟨hx, hb, hml, hown, ht⟩ (cMatcher_hash l dC dI h_t h_t_row h_t_heads h_t_before h_t_tokens h_t_row_cells cB cI cJ _ N p1 v_t_tokenCount v_t_matchCount (0 : Int32) (0 : Int32) v_t_row_count f_t_row_cells y2 hy2) (⟨callB_of 1 ht (gTB (k_470)) rfl rfl rfl (ht _ k_73) (ht _ k_467) (by decide +kernel) ⟨Nat.le_of_ble_eq_true rfl, Nat.le_of_ble_eq_true rfl⟩, ht _ k_469, ht _ k_1⟩) ⟨fun a U g mk q => by obtain ⟨q0, q1, qP, qK, qD, qN⟩ := q; exact ⟨q0, q1, qP, va_K.moved (u := U) (U := U.calling g mk a) (Vm.Alike.refl U.vm) qK, qD, NW_same (u := U) rfl qN⟩, va_recv hK hPc (ci := 5) (q0 := 0) rfl rfl, fun U hU hW => ⟨rfl, by rw [hU], by rw [hU]; exact hPc, va_K.moved hW.alike hK, hDc.weaken (fun _ _ _ _ => trivial), NW_warm hW hN⟩⟩ rfl rfl hl.1 rfl (lv_room (Nat.le_of_ble_eq_true rfl)) d_Matcher_findMatch_41 ⟨Nat.le_of_ble_eq_true rfl, Nat.le_of_ble_eq_true rfl⟩) hS (fun q _ h => hFc q h) hFc (fun ry2 u t H1 locs htH hvm hw hB hz1 hk1 hS => ?_)
    obtain ⟨hP1, hK1, hD1⟩ := hB
    rw [htH] at hP1
    obtain ⟨hP, hD⟩ := va_join (wr := [(h_t_heads, .inl (cI, 16384, .inl f_t_heads)), (h_t_before, .inl (cI, 65536, .inl f_t_before))]) (w1 := [(h_t, .inr (5, [.ref h_t_row, .ref h_t_heads, .ref h_t_before, .ref h_t_tokens, .int v_t_tokenCount, .int v_t_matchCount, .int (0 : Int32), .int (0 : Int32)])), (h_t_row, .inr (7, [.ref h_t_row_cells, .int v_t_row_count])), (h_t_row_cells, .inl (cB, 65546, .inl (bf f_t_row_cells)))]) hP hD [0, 1, 2] [3, 4] rfl rfl (by decide) (by decide) hk1 hFc hP1 hD1
    generalize H1 = H at hP hS ⊢
    have hP : va_P (dC, dI) vwCl [(h_t, .inr (5, [.ref h_t_row, .ref h_t_heads, .ref h_t_before, .ref h_t_tokens, .int v_t_tokenCount, .int v_t_matchCount, .int (0 : Int32), .int (0 : Int32)])), (h_t_row, .inr (7, [.ref h_t_row_cells, .int v_t_row_count])), (h_t_row_cells, .inl (cB, 65546, .inl (bf f_t_row_cells))), (h_t_heads, .inl (cI, 16384, .inl f_t_heads)), (h_t_before, .inl (cI, 65536, .inl f_t_before))] H := hP.sub [2, 3, 4, 0, 1] rfl
    have hD : va_D A [(h_t, .inr (5, [.ref h_t_row, .ref h_t_heads, .ref h_t_before, .ref h_t_tokens, .int v_t_tokenCount, .int v_t_matchCount, .int (0 : Int32), .int (0 : Int32)])), (h_t_row, .inr (7, [.ref h_t_row_cells, .int v_t_row_count])), (h_t_row_cells, .inl (cB, 65546, .inl (bf f_t_row_cells))), (h_t_heads, .inl (cI, 16384, .inl f_t_heads)), (h_t_before, .inl (cI, 65536, .inl f_t_before))] := hD.sub [2, 3, 4, 0, 1] (by decide) rfl
    replace hw := hw.symm
    subst hw
    obtain ⟨g3, h⟩ := gd h
    refine va_iald hx hb hK hP 3 1 rfl rfl g3 d_Matcher_findMatch_44 ?_
    refine lv_istore (lv' := [(5, .int (f_t_heads y2.toNatClampNeg)), (4, .ref h_t_row_cells), (3, .int (if (p2 - p1) < (258 : Int32) then (p2 - p1) else (258 : Int32))), (0, .ref h_t), (1, .int p1), (2, .int p2)]) hx hb d_Matcher_findMatch_45 hl (by decide) rfl (fun ls hl => ?_)
    refine lv_iconst (v := (0 : Int32)) hx hb d_Matcher_findMatch_47 (by decide) ?_
    refine lv_istore (lv' := [(6, .int (0 : Int32)), (5, .int (f_t_heads y2.toNatClampNeg)), (4, .ref h_t_row_cells), (3, .int (if (p2 - p1) < (258 : Int32) then (p2 - p1) else (258 : Int32))), (0, .ref h_t), (1, .int p1), (2, .int p2)]) hx hb d_Matcher_findMatch_48 hl (by decide) rfl (fun ls hl => ?_)
    refine lv_iconst (v := (0 : Int32)) hx hb d_Matcher_findMatch_50 (by decide) ?_
    refine lv_istore (lv' := [(7, .int (0 : Int32)), (6, .int (0 : Int32)), (5, .int (f_t_heads y2.toNatClampNeg)), (4, .ref h_t_row_cells), (3, .int (if (p2 - p1) < (258 : Int32) then (p2 - p1) else (258 : Int32))), (0, .ref h_t), (1, .int p1), (2, .int p2)]) hx hb d_Matcher_findMatch_51 hl (by decide) rfl (fun ls hl => ?_)
    obtain ⟨y18, hy18, h⟩ := bd h
    rcases y18 with y18 | y18
    · replace h := se_l h
      refine wMatcher_findMatch_53 h_t h_t_row h_t_heads h_t_before h_t_tokens h_t_row_cells cB cI cJ N v_t_tokenCount v_t_matchCount v_t_row_count f_t_row_cells f_t_heads f_t_before p1 (if (p2 - p1) < (258 : Int32) then (p2 - p1) else (258 : Int32)) C N (f_t_heads y2.toNatClampNeg) (0 : Int32) (0 : Int32) (0 : Int32) (0 : Int32) _ _ _ _ hP hD hS (lv_sub hl [5, 6, 4, 3, 2, 1, 0] rfl) hy18 (fun H locs ls y9 e9 hP hD hS hl => ?_) (fun H locs ls pc9 y9 e9 => nomatch e9)
      cases e9
      obtain rfl := Option.some.inj h
      exact W.vret hx hb hr (fun t ht hW => ⟨⟨(), rfl, trivial, by rw [ht]; exact hP, va_K.moved hW.alike hK, hD⟩, hS.F ht⟩) hS.2.2 d_Matcher_findMatch_148
    · replace h := se_r h
      refine wMatcher_findMatch_53 h_t h_t_row h_t_heads h_t_before h_t_tokens h_t_row_cells cB cI cJ N v_t_tokenCount v_t_matchCount v_t_row_count f_t_row_cells f_t_heads f_t_before p1 (if (p2 - p1) < (258 : Int32) then (p2 - p1) else (258 : Int32)) C N (f_t_heads y2.toNatClampNeg) (0 : Int32) (0 : Int32) (0 : Int32) (0 : Int32) _ _ _ _ hP hD hS (lv_sub hl [5, 6, 4, 3, 2, 1, 0] rfl) hy18 (fun H locs ls y9 e9 => nomatch e9) (fun H locs ls pc9 y9 e9 hd9 hP hD hS => ?_)
      cases e9
      obtain rfl := Option.some.inj h
      exact W.vret hx hb hr (fun t ht hW => ⟨⟨(), rfl, trivial, by rw [ht]; exact hP, va_K.moved hW.alike hK, hD⟩, hS.F ht⟩) hS.2.2 hd9
  · replace h := ip_n c1 h
    obtain rfl := Option.some.inj h
    exact W.vret hx hb hr (fun t ht hW => ⟨⟨(), rfl, trivial, by rw [ht]; exact hP, va_K.moved hW.alike hK, hD⟩, hS.F ht⟩) hS.2.2 d_Matcher_findMatch_25
/-! PackedBytes$Matcher.findTokens()V -/
def fMatcher_findTokens_33 (N : Nat) (x1 : Int32) (f_t_row_cells : Nat → Int32) : Nat → (Int32) → (Int32) → (Int32) → (Int32) → (Int32) → (Nat → Int32) → (Nat → Int32) → (Nat → Int32) → Option (Int32 × Int32 × Int32 × Int32 × (Nat → Int32) × (Nat → Int32) × (Nat → Int32))
  | 0, _, _, _, _, _, _, _, _ => none
  | k + 1, x2, v_t_tokenCount, v_t_matchCount, v_t_bestLength, v_t_bestDistance, f_t_heads, f_t_before, f_t_tokens =>
    if x1 ≤ x2 then
      some (v_t_tokenCount, v_t_matchCount, v_t_bestLength, v_t_bestDistance, f_t_heads, f_t_before, f_t_tokens)
    else
      (fMatcher_findMatch N x2 x1 f_t_row_cells f_t_heads f_t_before).bind (fun y3 =>
        if y3.1 ≤ 0 then
          if ¬ (x2 < 0 ∨ 65546 ≤ x2.toNatClampNeg) then
            if ¬ (v_t_tokenCount < 0 ∨ 65536 ≤ v_t_tokenCount.toNatClampNeg) then
              (fMatcher_remember N x2 (if ((x1 - (3 : Int32)) + (1 : Int32)) < (x2 + (if (1 : Int32) < y3.1 then y3.1 else (1 : Int32))) then ((x1 - (3 : Int32)) + (1 : Int32)) else (x2 + (if (1 : Int32) < y3.1 then y3.1 else (1 : Int32)))) f_t_row_cells f_t_heads f_t_before).bind (fun y7 =>
                fMatcher_findTokens_33 N x1 f_t_row_cells k (x2 + (if (1 : Int32) < y3.1 then y3.1 else (1 : Int32))) (v_t_tokenCount + (1 : Int32)) v_t_matchCount y3.1 y3.2 y7.1 y7.2 (upd f_t_tokens v_t_tokenCount.toNatClampNeg (((f_t_row_cells x2.toNatClampNeg).toInt8.toInt32) &&& (255 : Int32))))
            else none
          else none
        else
          if ¬ (v_t_tokenCount < 0 ∨ 65536 ≤ v_t_tokenCount.toNatClampNeg) then
            (fMatcher_remember N x2 (if ((x1 - (3 : Int32)) + (1 : Int32)) < (x2 + (if (1 : Int32) < y3.1 then y3.1 else (1 : Int32))) then ((x1 - (3 : Int32)) + (1 : Int32)) else (x2 + (if (1 : Int32) < y3.1 then y3.1 else (1 : Int32)))) f_t_row_cells f_t_heads f_t_before).bind (fun y9 =>
              fMatcher_findTokens_33 N x1 f_t_row_cells k (x2 + (if (1 : Int32) < y3.1 then y3.1 else (1 : Int32))) (v_t_tokenCount + (1 : Int32)) (v_t_matchCount + (1 : Int32)) y3.1 y3.2 y9.1 y9.2 (upd f_t_tokens v_t_tokenCount.toNatClampNeg ((y3.2 <<< ((9 : Int32) &&& 31)) ||| y3.1)))
          else none)
def fMatcher_findTokens (N : Nat) (v_t_bestLength : Int32) (v_t_bestDistance : Int32) (f_t_heads : Nat → Int32) (v_t_row_count : Int32) (f_t_row_cells : Nat → Int32) (f_t_before : Nat → Int32) (f_t_tokens : Nat → Int32) : Option (Int32 × Int32 × Int32 × Int32 × (Nat → Int32) × (Nat → Int32) × (Nat → Int32)) :=
    (fJA_fill N (-1 : Int32) 16384 f_t_heads).bind (fun y1 =>
      (fMatcher_findTokens_33 N (if (65536 : Int32) < v_t_row_count then (65536 : Int32) else v_t_row_count) f_t_row_cells N (0 : Int32) (0 : Int32) (0 : Int32) v_t_bestLength v_t_bestDistance y1 f_t_before f_t_tokens).bind (fun y10 =>
        some (y10.1, y10.2.1, y10.2.2.1, y10.2.2.2.1, y10.2.2.2.2.1, y10.2.2.2.2.2.1, y10.2.2.2.2.2.2)))
set_option maxHeartbeats 4000000 in
set_option maxRecDepth 100000 in
theorem wMatcher_findTokens_33 {p : Program} {l : Launch} {e : Env} {s : State} {m : MethodId} {args : Array Value} {below : List Frame} {meth : Method} {c : Code} {Q : State → Prop} {A : Nat → Prop} {dC : Nat → ClassId} {dI : Nat → Nat → Nat} (h_t h_t_row h_t_heads h_t_before h_t_tokens h_t_row_cells : Nat) (cB cI cJ : ClassId) (N : Nat) (v_t_row_count : Int32) (f_t_row_cells : Nat → Int32) (x1 : Int32) (C : CX p s m args c b_Matcher_findTokens 4 R_Matcher A (dC, dI) [(cB, .byte), (cI, .int), (cJ, .long)]) :
    ∀ (n : Nat) (x2 : Int32) (v_t_tokenCount : Int32) (v_t_matchCount : Int32) (v_t_bestLength : Int32) (v_t_bestDistance : Int32) (f_t_heads : Nat → Int32) (f_t_before : Nat → Int32) (f_t_tokens : Nat → Int32) (H : Heap) (locs : List Loc) (ls : Array Slot) (o : Int32 × Int32 × Int32 × Int32 × (Nat → Int32) × (Nat → Int32) × (Nat → Int32)), va_P (dC, dI) vwCl [(h_t, .inr (5, [.ref h_t_row, .ref h_t_heads, .ref h_t_before, .ref h_t_tokens, .int v_t_tokenCount, .int v_t_matchCount, .int v_t_bestLength, .int v_t_bestDistance])), (h_t_heads, .inl (cI, 16384, .inl f_t_heads)), (h_t_row, .inr (7, [.ref h_t_row_cells, .int v_t_row_count])), (h_t_row_cells, .inl (cB, 65546, .inl (bf f_t_row_cells))), (h_t_before, .inl (cI, 65536, .inl f_t_before)), (h_t_tokens, .inl (cI, 65536, .inl f_t_tokens))] H → va_D A [(h_t, .inr (5, [.ref h_t_row, .ref h_t_heads, .ref h_t_before, .ref h_t_tokens, .int v_t_tokenCount, .int v_t_matchCount, .int v_t_bestLength, .int v_t_bestDistance])), (h_t_heads, .inl (cI, 16384, .inl f_t_heads)), (h_t_row, .inr (7, [.ref h_t_row_cells, .int v_t_row_count])), (h_t_row_cells, .inl (cB, 65546, .inl (bf f_t_row_cells))), (h_t_before, .inl (cI, 65536, .inl f_t_before)), (h_t_tokens, .inl (cI, 65536, .inl f_t_tokens))] → va_S A s.heap H locs → lv_has ls 4 [(0, .ref h_t), (1, .int x1), (2, .int x2)] → fMatcher_findTokens_33 N x1 f_t_row_cells n x2 v_t_tokenCount v_t_matchCount v_t_bestLength v_t_bestDistance f_t_heads f_t_before f_t_tokens = some o → (∀ (H : Heap) (locs : List Loc) (ls : Array Slot), va_P (dC, dI) vwCl [(h_t, .inr (5, [.ref h_t_row, .ref h_t_heads, .ref h_t_before, .ref h_t_tokens, .int o.1, .int o.2.1, .int o.2.2.1, .int o.2.2.2.1])), (h_t_heads, .inl (cI, 16384, .inl o.2.2.2.2.1)), (h_t_row, .inr (7, [.ref h_t_row_cells, .int v_t_row_count])), (h_t_row_cells, .inl (cB, 65546, .inl (bf f_t_row_cells))), (h_t_before, .inl (cI, 65536, .inl o.2.2.2.2.2.1)), (h_t_tokens, .inl (cI, 65536, .inl o.2.2.2.2.2.2))] H → va_D A [(h_t, .inr (5, [.ref h_t_row, .ref h_t_heads, .ref h_t_before, .ref h_t_tokens, .int o.1, .int o.2.1, .int o.2.2.1, .int o.2.2.2.1])), (h_t_heads, .inl (cI, 16384, .inl o.2.2.2.2.1)), (h_t_row, .inr (7, [.ref h_t_row_cells, .int v_t_row_count])), (h_t_row_cells, .inl (cB, 65546, .inl (bf f_t_row_cells))), (h_t_before, .inl (cI, 65536, .inl o.2.2.2.2.2.1)), (h_t_tokens, .inl (cI, 65536, .inl o.2.2.2.2.2.2))] → va_S A s.heap H locs → lv_has ls 4 [] → W p l e ({ frames := 2, cells := 0, slots := 0, locals := 52 } : Room) s m args below meth c H locs 0 0 Q (F0 m 149 ls [])) → W p l e ({ frames := 2, cells := 0, slots := 0, locals := 52 } : Room) s m args below meth c H locs 0 0 Q (F0 m 33 ls []) := by
  obtain ⟨hx, hb, hml, hown, ht, hA, hK, hN⟩ := id C
  intro n
  induction n with
  | zero => intro x2 v_t_tokenCount v_t_matchCount v_t_bestLength v_t_bestDistance f_t_heads f_t_before f_t_tokens H locs ls o _ _ _ _ h; exact nomatch h
  | succ k ih =>
    intro x2 v_t_tokenCount v_t_matchCount v_t_bestLength v_t_bestDistance f_t_heads f_t_before f_t_tokens H locs ls o hP hD hS hl h kx
    refine lv_iload_n hx hb d_Matcher_findTokens_33 rfl (lv_at hl 2 rfl) ?_
    refine lv_iload_n hx hb d_Matcher_findTokens_34 rfl (lv_at hl 1 rfl) ?_
    refine lv_icmp_ge (tgt := 149) hx hb d_Matcher_findTokens_35 (by decide) (fun c2 => ?_) (fun c2 => ?_)
    · replace h := ip_p c2 h
      obtain rfl := Option.some.inj h
      exact kx _ _ _ hP hD hS (lv_sub hl [] rfl)
    · replace h := ip_n c2 h
      refine lv_aload_n hx hb d_Matcher_findTokens_38 rfl (lv_at hl 0 rfl) ?_
      refine lv_iload_n hx hb d_Matcher_findTokens_39 rfl (lv_at hl 2 rfl) ?_
      refine lv_iload_n hx hb d_Matcher_findTokens_40 rfl (lv_at hl 1 rfl) ?_
      obtain ⟨y3, hy3, h⟩ := bd h
      have hPc := hP.sub (ws' := [(h_t, .inr (5, [.ref h_t_row, .ref h_t_heads, .ref h_t_before, .ref h_t_tokens, .int v_t_tokenCount, .int v_t_matchCount, .int v_t_bestLength, .int v_t_bestDistance])), (h_t_row, .inr (7, [.ref h_t_row_cells, .int v_t_row_count])), (h_t_row_cells, .inl (cB, 65546, .inl (bf f_t_row_cells))), (h_t_heads, .inl (cI, 16384, .inl f_t_heads)), (h_t_before, .inl (cI, 65536, .inl f_t_before))]) [0, 2, 3, 1, 4] rfl
      have hDc := hD.sub (ws' := [(h_t, .inr (5, [.ref h_t_row, .ref h_t_heads, .ref h_t_before, .ref h_t_tokens, .int v_t_tokenCount, .int v_t_matchCount, .int v_t_bestLength, .int v_t_bestDistance])), (h_t_row, .inr (7, [.ref h_t_row_cells, .int v_t_row_count])), (h_t_row_cells, .inl (cB, 65546, .inl (bf f_t_row_cells))), (h_t_heads, .inl (cI, 16384, .inl f_t_heads)), (h_t_before, .inl (cI, 65536, .inl f_t_before))]) [0, 2, 3, 1, 4] (by decide) rfl
      have hFc := va_free (wc := [(h_t, .inr (5, [.ref h_t_row, .ref h_t_heads, .ref h_t_before, .ref h_t_tokens, .int v_t_tokenCount, .int v_t_matchCount, .int v_t_bestLength, .int v_t_bestDistance])), (h_t_row, .inr (7, [.ref h_t_row_cells, .int v_t_row_count])), (h_t_row_cells, .inl (cB, 65546, .inl (bf f_t_row_cells))), (h_t_heads, .inl (cI, 16384, .inl f_t_heads)), (h_t_before, .inl (cI, 65536, .inl f_t_before))]) hD hS hA [0, 2, 3, 1, 4] rfl
      refine va_callv (va_runV (As := [.int x2, .int x1]) (rest := []) ⟨hx, hb, hml, hown, ht⟩ (cMatcher_findMatch l dC dI h_t h_t_row h_t_heads h_t_before h_t_tokens h_t_row_cells cB cI cJ _ N x2 x1 v_t_tokenCount v_t_matchCount v_t_bestLength v_t_bestDistance v_t_row_count f_t_row_cells f_t_heads f_t_before y3 hy3) (⟨callB_of 2 ht (gTB (k_466)) rfl rfl rfl (ht _ k_73) (ht _ k_463) (by decide +kernel) ⟨Nat.le_of_ble_eq_true rfl, Nat.le_of_ble_eq_true rfl⟩, ht _ k_465, ht _ k_0⟩) ⟨fun a U g mk q => by obtain ⟨q0, q1, qP, qK, qD, qN⟩ := q; exact ⟨q0, q1, qP, va_K.moved (u := U) (U := U.calling g mk a) (Vm.Alike.refl U.vm) qK, qD, NW_same (u := U) rfl qN⟩, va_recv hK hPc (ci := 5) (q0 := 0) rfl rfl, fun U hU hW => ⟨rfl, by rw [hU], by rw [hU]; exact hPc, va_K.moved hW.alike hK, hDc.weaken (fun _ _ _ _ => trivial), NW_warm hW hN⟩⟩ rfl rfl hl.1 rfl (lv_room (Nat.le_of_ble_eq_true rfl)) d_Matcher_findTokens_41 ⟨Nat.le_of_ble_eq_true rfl, Nat.le_of_ble_eq_true rfl⟩) hS (fun q _ h => hFc q h) hFc (fun u t H1 locs htH hvm hw hB hz1 hk1 hS => ?_)
      obtain ⟨hP1, hK1, hD1⟩ := hB
      rw [htH] at hP1
      obtain ⟨hP, hD⟩ := va_join (wr := [(h_t_tokens, .inl (cI, 65536, .inl f_t_tokens))]) (w1 := [(h_t, .inr (5, [.ref h_t_row, .ref h_t_heads, .ref h_t_before, .ref h_t_tokens, .int v_t_tokenCount, .int v_t_matchCount, .int y3.1, .int y3.2])), (h_t_row, .inr (7, [.ref h_t_row_cells, .int v_t_row_count])), (h_t_row_cells, .inl (cB, 65546, .inl (bf f_t_row_cells))), (h_t_heads, .inl (cI, 16384, .inl f_t_heads)), (h_t_before, .inl (cI, 65536, .inl f_t_before))]) hP hD [0, 2, 3, 1, 4] [5] rfl rfl (by decide) (by decide) hk1 hFc hP1 hD1
      generalize H1 = H at hP hS ⊢
      have hP : va_P (dC, dI) vwCl [(h_t, .inr (5, [.ref h_t_row, .ref h_t_heads, .ref h_t_before, .ref h_t_tokens, .int v_t_tokenCount, .int v_t_matchCount, .int y3.1, .int y3.2])), (h_t_heads, .inl (cI, 16384, .inl f_t_heads)), (h_t_row, .inr (7, [.ref h_t_row_cells, .int v_t_row_count])), (h_t_row_cells, .inl (cB, 65546, .inl (bf f_t_row_cells))), (h_t_before, .inl (cI, 65536, .inl f_t_before)), (h_t_tokens, .inl (cI, 65536, .inl f_t_tokens))] H := hP.sub [1, 4, 2, 3, 5, 0] rfl
      have hD : va_D A [(h_t, .inr (5, [.ref h_t_row, .ref h_t_heads, .ref h_t_before, .ref h_t_tokens, .int v_t_tokenCount, .int v_t_matchCount, .int y3.1, .int y3.2])), (h_t_heads, .inl (cI, 16384, .inl f_t_heads)), (h_t_row, .inr (7, [.ref h_t_row_cells, .int v_t_row_count])), (h_t_row_cells, .inl (cB, 65546, .inl (bf f_t_row_cells))), (h_t_before, .inl (cI, 65536, .inl f_t_before)), (h_t_tokens, .inl (cI, 65536, .inl f_t_tokens))] := hD.sub [1, 4, 2, 3, 5, 0] (by decide) rfl
      refine lv_iconst (v := (1 : Int32)) hx hb d_Matcher_findTokens_44 (by decide) ?_
      refine lv_aload_n hx hb d_Matcher_findTokens_45 rfl (lv_at hl 0 rfl) ?_
      refine va_get (D := (dC, dI)) (ci := 5) (v := .int y3.1) (C := R_Matcher) (T := F_Matcher) (N := 8) hx hb ht in_Matcher hown hK hP 0 rfl rfl 6 (by decide) (ht _ k_259) (fun _ h9 => h9) rfl d_Matcher_findTokens_46 ?_
      refine va_mmax hx hb (hml.trans hl.1.symm) hown (ht _ k_481) (ht _ k_482) (ht _ k_83) (ht _ k_483) (Nat.le_of_ble_eq_true rfl) (Nat.le_of_ble_eq_true rfl) (Nat.le_of_ble_eq_true rfl) (Nat.le_of_ble_eq_true rfl) d_Matcher_findTokens_49 ?_
      refine lv_istore_n (lv' := [(3, .int (if (1 : Int32) < y3.1 then y3.1 else (1 : Int32))), (0, .ref h_t), (1, .int x1), (2, .int x2)]) hx hb d_Matcher_findTokens_52 rfl hl (by decide) rfl (fun ls hl => ?_)
      refine lv_aload_n hx hb d_Matcher_findTokens_53 rfl (lv_at hl 1 rfl) ?_
      refine va_get (D := (dC, dI)) (ci := 5) (v := .int y3.1) (C := R_Matcher) (T := F_Matcher) (N := 8) hx hb ht in_Matcher hown hK hP 0 rfl rfl 6 (by decide) (ht _ k_259) (fun _ h9 => h9) rfl d_Matcher_findTokens_54 ?_
      refine lv_if_le (tgt := 94) hx hb d_Matcher_findTokens_57 (by decide) (fun c4 => ?_) (fun c4 => ?_)
      · replace h := ip_p c4 h
        refine lv_aload_n hx hb d_Matcher_findTokens_94 rfl (lv_at hl 1 rfl) ?_
        refine va_get (D := (dC, dI)) (ci := 5) (v := .ref h_t_tokens) (C := R_Matcher) (T := F_Matcher) (N := 8) hx hb ht in_Matcher hown hK hP 0 rfl rfl 3 (by decide) (ht _ k_253) (fun _ h9 => h9) rfl d_Matcher_findTokens_95 ?_
        refine lv_aload_n hx hb d_Matcher_findTokens_98 rfl (lv_at hl 1 rfl) ?_
        refine va_get (D := (dC, dI)) (ci := 5) (v := .int v_t_tokenCount) (C := R_Matcher) (T := F_Matcher) (N := 8) hx hb ht in_Matcher hown hK hP 0 rfl rfl 4 (by decide) (ht _ k_255) (fun _ h9 => h9) rfl d_Matcher_findTokens_99 ?_
        refine lv_aload_n hx hb d_Matcher_findTokens_102 rfl (lv_at hl 1 rfl) ?_
        refine va_get (D := (dC, dI)) (ci := 5) (v := .ref h_t_row) (C := R_Matcher) (T := F_Matcher) (N := 8) hx hb ht in_Matcher hown hK hP 0 rfl rfl 0 (by decide) (ht _ k_250) (fun _ h9 => h9) rfl d_Matcher_findTokens_103 ?_
        refine va_get (D := (dC, dI)) (ci := 7) (v := .ref h_t_row_cells) (C := R_Row) (T := F_Row) (N := 2) hx hb ht in_Row hown hK hP 2 rfl rfl 0 (by decide) (ht _ k_102) (fun _ h9 => h9) rfl d_Matcher_findTokens_106 ?_
        refine lv_iload_n hx hb d_Matcher_findTokens_109 rfl (lv_at hl 3 rfl) ?_
        obtain ⟨g5, h⟩ := gd h
        refine va_bald (f := bf f_t_row_cells) hx hb hK hP 3 0 rfl rfl g5 d_Matcher_findTokens_110 ?_
        refine lv_sipush (v := (255 : Int32)) hx hb d_Matcher_findTokens_111 (by decide) ?_
        refine lv_iand hx hb d_Matcher_findTokens_114 ?_
        obtain ⟨g6, h⟩ := gd h
        refine va_iast hx hb hK hP hD hS 5 1 rfl rfl g6 d_Matcher_findTokens_115 (fun H locs hP hD hS => ?_)
        have hP : va_P (dC, dI) vwCl [(h_t, .inr (5, [.ref h_t_row, .ref h_t_heads, .ref h_t_before, .ref h_t_tokens, .int v_t_tokenCount, .int v_t_matchCount, .int y3.1, .int y3.2])), (h_t_heads, .inl (cI, 16384, .inl f_t_heads)), (h_t_row, .inr (7, [.ref h_t_row_cells, .int v_t_row_count])), (h_t_row_cells, .inl (cB, 65546, .inl (bf f_t_row_cells))), (h_t_before, .inl (cI, 65536, .inl f_t_before)), (h_t_tokens, .inl (cI, 65536, .inl (upd f_t_tokens v_t_tokenCount.toNatClampNeg (((f_t_row_cells x2.toNatClampNeg).toInt8.toInt32) &&& (255 : Int32)))))] H := hP
        have hD : va_D A [(h_t, .inr (5, [.ref h_t_row, .ref h_t_heads, .ref h_t_before, .ref h_t_tokens, .int v_t_tokenCount, .int v_t_matchCount, .int y3.1, .int y3.2])), (h_t_heads, .inl (cI, 16384, .inl f_t_heads)), (h_t_row, .inr (7, [.ref h_t_row_cells, .int v_t_row_count])), (h_t_row_cells, .inl (cB, 65546, .inl (bf f_t_row_cells))), (h_t_before, .inl (cI, 65536, .inl f_t_before)), (h_t_tokens, .inl (cI, 65536, .inl (upd f_t_tokens v_t_tokenCount.toNatClampNeg (((f_t_row_cells x2.toNatClampNeg).toInt8.toInt32) &&& (255 : Int32)))))] := hD
        refine lv_aload_n hx hb d_Matcher_findTokens_116 rfl (lv_at hl 1 rfl) ?_
        refine lv_dup hx hb d_Matcher_findTokens_117 rfl ?_
        refine va_get (D := (dC, dI)) (ci := 5) (v := .int v_t_tokenCount) (C := R_Matcher) (T := F_Matcher) (N := 8) hx hb ht in_Matcher hown hK hP 0 rfl rfl 4 (by decide) (ht _ k_255) (fun _ h9 => h9) rfl d_Matcher_findTokens_118 ?_
        refine lv_iconst (v := (1 : Int32)) hx hb d_Matcher_findTokens_121 (by decide) ?_
        refine lv_iadd hx hb d_Matcher_findTokens_122 ?_
        refine va_put (D := (dC, dI)) (ci := 5) (v := .int (v_t_tokenCount + (1 : Int32))) (ty := .int) (C := R_Matcher) (T := F_Matcher) (N := 8) hx hb ht in_Matcher t_Matcher t_Matcher_ok n_Matcher hown hK hP hD hS 0 rfl rfl 4 (by decide) (ht _ k_255) (fun _ h9 => h9) rfl (by decide +kernel) rfl rfl (Nat.le_of_ble_eq_true rfl) d_Matcher_findTokens_123 (fun H locs hP hD hS => ?_)
        have hP : va_P (dC, dI) vwCl [(h_t, .inr (5, [.ref h_t_row, .ref h_t_heads, .ref h_t_before, .ref h_t_tokens, .int (v_t_tokenCount + (1 : Int32)), .int v_t_matchCount, .int y3.1, .int y3.2])), (h_t_heads, .inl (cI, 16384, .inl f_t_heads)), (h_t_row, .inr (7, [.ref h_t_row_cells, .int v_t_row_count])), (h_t_row_cells, .inl (cB, 65546, .inl (bf f_t_row_cells))), (h_t_before, .inl (cI, 65536, .inl f_t_before)), (h_t_tokens, .inl (cI, 65536, .inl (upd f_t_tokens v_t_tokenCount.toNatClampNeg (((f_t_row_cells x2.toNatClampNeg).toInt8.toInt32) &&& (255 : Int32)))))] H := hP
        have hD : va_D A [(h_t, .inr (5, [.ref h_t_row, .ref h_t_heads, .ref h_t_before, .ref h_t_tokens, .int (v_t_tokenCount + (1 : Int32)), .int v_t_matchCount, .int y3.1, .int y3.2])), (h_t_heads, .inl (cI, 16384, .inl f_t_heads)), (h_t_row, .inr (7, [.ref h_t_row_cells, .int v_t_row_count])), (h_t_row_cells, .inl (cB, 65546, .inl (bf f_t_row_cells))), (h_t_before, .inl (cI, 65536, .inl f_t_before)), (h_t_tokens, .inl (cI, 65536, .inl (upd f_t_tokens v_t_tokenCount.toNatClampNeg (((f_t_row_cells x2.toNatClampNeg).toInt8.toInt32) &&& (255 : Int32)))))] := hD
        refine lv_aload_n hx hb d_Matcher_findTokens_126 rfl (lv_at hl 1 rfl) ?_
        refine lv_iload_n hx hb d_Matcher_findTokens_127 rfl (lv_at hl 3 rfl) ?_
        refine lv_iload_n hx hb d_Matcher_findTokens_128 rfl (lv_at hl 3 rfl) ?_
        refine lv_iload_n hx hb d_Matcher_findTokens_129 rfl (lv_at hl 0 rfl) ?_
        refine lv_iadd hx hb d_Matcher_findTokens_130 ?_
        refine lv_iload_n hx hb d_Matcher_findTokens_131 rfl (lv_at hl 2 rfl) ?_
        refine lv_iconst (v := (3 : Int32)) hx hb d_Matcher_findTokens_132 (by decide) ?_
        refine lv_isub hx hb d_Matcher_findTokens_133 ?_
        refine lv_iconst (v := (1 : Int32)) hx hb d_Matcher_findTokens_134 (by decide) ?_
        refine lv_iadd hx hb d_Matcher_findTokens_135 ?_
        refine va_mmin hx hb (hml.trans hl.1.symm) hown (ht _ k_460) (ht _ k_461) (ht _ k_83) (ht _ k_462) (Nat.le_of_ble_eq_true rfl) (Nat.le_of_ble_eq_true rfl) (Nat.le_of_ble_eq_true rfl) (Nat.le_of_ble_eq_true rfl) d_Matcher_findTokens_136 ?_
        obtain ⟨y7, hy7, h⟩ := bd h
        have hPc := hP.sub (ws' := [(h_t, .inr (5, [.ref h_t_row, .ref h_t_heads, .ref h_t_before, .ref h_t_tokens, .int (v_t_tokenCount + (1 : Int32)), .int v_t_matchCount, .int y3.1, .int y3.2])), (h_t_row, .inr (7, [.ref h_t_row_cells, .int v_t_row_count])), (h_t_row_cells, .inl (cB, 65546, .inl (bf f_t_row_cells))), (h_t_heads, .inl (cI, 16384, .inl f_t_heads)), (h_t_before, .inl (cI, 65536, .inl f_t_before))]) [0, 2, 3, 1, 4] rfl
        have hDc := hD.sub (ws' := [(h_t, .inr (5, [.ref h_t_row, .ref h_t_heads, .ref h_t_before, .ref h_t_tokens, .int (v_t_tokenCount + (1 : Int32)), .int v_t_matchCount, .int y3.1, .int y3.2])), (h_t_row, .inr (7, [.ref h_t_row_cells, .int v_t_row_count])), (h_t_row_cells, .inl (cB, 65546, .inl (bf f_t_row_cells))), (h_t_heads, .inl (cI, 16384, .inl f_t_heads)), (h_t_before, .inl (cI, 65536, .inl f_t_before))]) [0, 2, 3, 1, 4] (by decide) rfl
        have hFc := va_free (wc := [(h_t, .inr (5, [.ref h_t_row, .ref h_t_heads, .ref h_t_before, .ref h_t_tokens, .int (v_t_tokenCount + (1 : Int32)), .int v_t_matchCount, .int y3.1, .int y3.2])), (h_t_row, .inr (7, [.ref h_t_row_cells, .int v_t_row_count])), (h_t_row_cells, .inl (cB, 65546, .inl (bf f_t_row_cells))), (h_t_heads, .inl (cI, 16384, .inl f_t_heads)), (h_t_before, .inl (cI, 65536, .inl f_t_before))]) hD hS hA [0, 2, 3, 1, 4] rfl
        refine va_callv (va_runV (As := [.int x2, .int (if ((x1 - (3 : Int32)) + (1 : Int32)) < (x2 + (if (1 : Int32) < y3.1 then y3.1 else (1 : Int32))) then ((x1 - (3 : Int32)) + (1 : Int32)) else (x2 + (if (1 : Int32) < y3.1 then y3.1 else (1 : Int32))))]) (rest := []) ⟨hx, hb, hml, hown, ht⟩ (cMatcher_remember l dC dI h_t h_t_row h_t_heads h_t_before h_t_tokens h_t_row_cells cB cI cJ _ N x2 (if ((x1 - (3 : Int32)) + (1 : Int32)) < (x2 + (if (1 : Int32) < y3.1 then y3.1 else (1 : Int32))) then ((x1 - (3 : Int32)) + (1 : Int32)) else (x2 + (if (1 : Int32) < y3.1 then y3.1 else (1 : Int32)))) (v_t_tokenCount + (1 : Int32)) v_t_matchCount y3.1 y3.2 v_t_row_count f_t_row_cells f_t_heads f_t_before y7 hy7) (⟨callB_of 2 ht (gTB (k_487)) rfl rfl rfl (ht _ k_73) (ht _ k_484) (by decide +kernel) ⟨Nat.le_of_ble_eq_true rfl, Nat.le_of_ble_eq_true rfl⟩, ht _ k_486, ht _ k_4⟩) ⟨fun a U g mk q => by obtain ⟨q0, q1, qP, qK, qD, qN⟩ := q; exact ⟨q0, q1, qP, va_K.moved (u := U) (U := U.calling g mk a) (Vm.Alike.refl U.vm) qK, qD, NW_same (u := U) rfl qN⟩, va_recv hK hPc (ci := 5) (q0 := 0) rfl rfl, fun U hU hW => ⟨rfl, by rw [hU], by rw [hU]; exact hPc, va_K.moved hW.alike hK, hDc.weaken (fun _ _ _ _ => trivial), NW_warm hW hN⟩⟩ rfl rfl hl.1 rfl (lv_room (Nat.le_of_ble_eq_true rfl)) d_Matcher_findTokens_139 ⟨Nat.le_of_ble_eq_true rfl, Nat.le_of_ble_eq_true rfl⟩) hS (fun q _ h => hFc q h) hFc (fun u t H1 locs htH hvm hw hB hz1 hk1 hS => ?_)
        obtain ⟨hP1, hK1, hD1⟩ := hB
        rw [htH] at hP1
        obtain ⟨hP, hD⟩ := va_join (wr := [(h_t_tokens, .inl (cI, 65536, .inl (upd f_t_tokens v_t_tokenCount.toNatClampNeg (((f_t_row_cells x2.toNatClampNeg).toInt8.toInt32) &&& (255 : Int32)))))]) (w1 := [(h_t, .inr (5, [.ref h_t_row, .ref h_t_heads, .ref h_t_before, .ref h_t_tokens, .int (v_t_tokenCount + (1 : Int32)), .int v_t_matchCount, .int y3.1, .int y3.2])), (h_t_row, .inr (7, [.ref h_t_row_cells, .int v_t_row_count])), (h_t_row_cells, .inl (cB, 65546, .inl (bf f_t_row_cells))), (h_t_heads, .inl (cI, 16384, .inl y7.1)), (h_t_before, .inl (cI, 65536, .inl y7.2))]) hP hD [0, 2, 3, 1, 4] [5] rfl rfl (by decide) (by decide) hk1 hFc hP1 hD1
        generalize H1 = H at hP hS ⊢
        have hP : va_P (dC, dI) vwCl [(h_t, .inr (5, [.ref h_t_row, .ref h_t_heads, .ref h_t_before, .ref h_t_tokens, .int (v_t_tokenCount + (1 : Int32)), .int v_t_matchCount, .int y3.1, .int y3.2])), (h_t_heads, .inl (cI, 16384, .inl y7.1)), (h_t_row, .inr (7, [.ref h_t_row_cells, .int v_t_row_count])), (h_t_row_cells, .inl (cB, 65546, .inl (bf f_t_row_cells))), (h_t_before, .inl (cI, 65536, .inl y7.2)), (h_t_tokens, .inl (cI, 65536, .inl (upd f_t_tokens v_t_tokenCount.toNatClampNeg (((f_t_row_cells x2.toNatClampNeg).toInt8.toInt32) &&& (255 : Int32)))))] H := hP.sub [1, 4, 2, 3, 5, 0] rfl
        have hD : va_D A [(h_t, .inr (5, [.ref h_t_row, .ref h_t_heads, .ref h_t_before, .ref h_t_tokens, .int (v_t_tokenCount + (1 : Int32)), .int v_t_matchCount, .int y3.1, .int y3.2])), (h_t_heads, .inl (cI, 16384, .inl y7.1)), (h_t_row, .inr (7, [.ref h_t_row_cells, .int v_t_row_count])), (h_t_row_cells, .inl (cB, 65546, .inl (bf f_t_row_cells))), (h_t_before, .inl (cI, 65536, .inl y7.2)), (h_t_tokens, .inl (cI, 65536, .inl (upd f_t_tokens v_t_tokenCount.toNatClampNeg (((f_t_row_cells x2.toNatClampNeg).toInt8.toInt32) &&& (255 : Int32)))))] := hD.sub [1, 4, 2, 3, 5, 0] (by decide) rfl
        refine lv_iload_n hx hb d_Matcher_findTokens_142 rfl (lv_at hl 3 rfl) ?_
        refine lv_iload_n hx hb d_Matcher_findTokens_143 rfl (lv_at hl 0 rfl) ?_
        refine lv_iadd hx hb d_Matcher_findTokens_144 ?_
        refine lv_istore_n (lv' := [(2, .int (x2 + (if (1 : Int32) < y3.1 then y3.1 else (1 : Int32)))), (3, .int (if (1 : Int32) < y3.1 then y3.1 else (1 : Int32))), (0, .ref h_t), (1, .int x1)]) hx hb d_Matcher_findTokens_145 rfl hl (by decide) rfl (fun ls hl => ?_)
        refine lv_goto (tgt := 33) hx hb d_Matcher_findTokens_146 (by decide) ?_
        exact ih (x2 + (if (1 : Int32) < y3.1 then y3.1 else (1 : Int32))) (v_t_tokenCount + (1 : Int32)) v_t_matchCount y3.1 y3.2 y7.1 y7.2 (upd f_t_tokens v_t_tokenCount.toNatClampNeg (((f_t_row_cells x2.toNatClampNeg).toInt8.toInt32) &&& (255 : Int32))) _ _ _ _ hP hD hS (lv_sub hl [2, 3, 0] rfl) h kx
      · replace h := ip_n c4 h
        refine lv_aload_n hx hb d_Matcher_findTokens_60 rfl (lv_at hl 1 rfl) ?_
        refine va_get (D := (dC, dI)) (ci := 5) (v := .ref h_t_tokens) (C := R_Matcher) (T := F_Matcher) (N := 8) hx hb ht in_Matcher hown hK hP 0 rfl rfl 3 (by decide) (ht _ k_253) (fun _ h9 => h9) rfl d_Matcher_findTokens_61 ?_
        refine lv_aload_n hx hb d_Matcher_findTokens_64 rfl (lv_at hl 1 rfl) ?_
        refine va_get (D := (dC, dI)) (ci := 5) (v := .int v_t_tokenCount) (C := R_Matcher) (T := F_Matcher) (N := 8) hx hb ht in_Matcher hown hK hP 0 rfl rfl 4 (by decide) (ht _ k_255) (fun _ h9 => h9) rfl d_Matcher_findTokens_65 ?_
        refine lv_aload_n hx hb d_Matcher_findTokens_68 rfl (lv_at hl 1 rfl) ?_
        refine va_get (D := (dC, dI)) (ci := 5) (v := .int y3.2) (C := R_Matcher) (T := F_Matcher) (N := 8) hx hb ht in_Matcher hown hK hP 0 rfl rfl 7 (by decide) (ht _ k_260) (fun _ h9 => h9) rfl d_Matcher_findTokens_69 ?_
        refine lv_bipush (v := (9 : Int32)) hx hb d_Matcher_findTokens_72 (by decide) ?_
        refine lv_ishl hx hb d_Matcher_findTokens_74 ?_
        refine lv_aload_n hx hb d_Matcher_findTokens_75 rfl (lv_at hl 1 rfl) ?_
        refine va_get (D := (dC, dI)) (ci := 5) (v := .int y3.1) (C := R_Matcher) (T := F_Matcher) (N := 8) hx hb ht in_Matcher hown hK hP 0 rfl rfl 6 (by decide) (ht _ k_259) (fun _ h9 => h9) rfl d_Matcher_findTokens_76 ?_
        refine lv_ior hx hb d_Matcher_findTokens_79 ?_
        obtain ⟨g8, h⟩ := gd h
        refine va_iast hx hb hK hP hD hS 5 1 rfl rfl g8 d_Matcher_findTokens_80 (fun H locs hP hD hS => ?_)
        have hP : va_P (dC, dI) vwCl [(h_t, .inr (5, [.ref h_t_row, .ref h_t_heads, .ref h_t_before, .ref h_t_tokens, .int v_t_tokenCount, .int v_t_matchCount, .int y3.1, .int y3.2])), (h_t_heads, .inl (cI, 16384, .inl f_t_heads)), (h_t_row, .inr (7, [.ref h_t_row_cells, .int v_t_row_count])), (h_t_row_cells, .inl (cB, 65546, .inl (bf f_t_row_cells))), (h_t_before, .inl (cI, 65536, .inl f_t_before)), (h_t_tokens, .inl (cI, 65536, .inl (upd f_t_tokens v_t_tokenCount.toNatClampNeg ((y3.2 <<< ((9 : Int32) &&& 31)) ||| y3.1))))] H := hP
        have hD : va_D A [(h_t, .inr (5, [.ref h_t_row, .ref h_t_heads, .ref h_t_before, .ref h_t_tokens, .int v_t_tokenCount, .int v_t_matchCount, .int y3.1, .int y3.2])), (h_t_heads, .inl (cI, 16384, .inl f_t_heads)), (h_t_row, .inr (7, [.ref h_t_row_cells, .int v_t_row_count])), (h_t_row_cells, .inl (cB, 65546, .inl (bf f_t_row_cells))), (h_t_before, .inl (cI, 65536, .inl f_t_before)), (h_t_tokens, .inl (cI, 65536, .inl (upd f_t_tokens v_t_tokenCount.toNatClampNeg ((y3.2 <<< ((9 : Int32) &&& 31)) ||| y3.1))))] := hD
        refine lv_aload_n hx hb d_Matcher_findTokens_81 rfl (lv_at hl 1 rfl) ?_
        refine lv_dup hx hb d_Matcher_findTokens_82 rfl ?_
        refine va_get (D := (dC, dI)) (ci := 5) (v := .int v_t_matchCount) (C := R_Matcher) (T := F_Matcher) (N := 8) hx hb ht in_Matcher hown hK hP 0 rfl rfl 5 (by decide) (ht _ k_257) (fun _ h9 => h9) rfl d_Matcher_findTokens_83 ?_
        refine lv_iconst (v := (1 : Int32)) hx hb d_Matcher_findTokens_86 (by decide) ?_
        refine lv_iadd hx hb d_Matcher_findTokens_87 ?_
        refine va_put (D := (dC, dI)) (ci := 5) (v := .int (v_t_matchCount + (1 : Int32))) (ty := .int) (C := R_Matcher) (T := F_Matcher) (N := 8) hx hb ht in_Matcher t_Matcher t_Matcher_ok n_Matcher hown hK hP hD hS 0 rfl rfl 5 (by decide) (ht _ k_257) (fun _ h9 => h9) rfl (by decide +kernel) rfl rfl (Nat.le_of_ble_eq_true rfl) d_Matcher_findTokens_88 (fun H locs hP hD hS => ?_)
        have hP : va_P (dC, dI) vwCl [(h_t, .inr (5, [.ref h_t_row, .ref h_t_heads, .ref h_t_before, .ref h_t_tokens, .int v_t_tokenCount, .int (v_t_matchCount + (1 : Int32)), .int y3.1, .int y3.2])), (h_t_heads, .inl (cI, 16384, .inl f_t_heads)), (h_t_row, .inr (7, [.ref h_t_row_cells, .int v_t_row_count])), (h_t_row_cells, .inl (cB, 65546, .inl (bf f_t_row_cells))), (h_t_before, .inl (cI, 65536, .inl f_t_before)), (h_t_tokens, .inl (cI, 65536, .inl (upd f_t_tokens v_t_tokenCount.toNatClampNeg ((y3.2 <<< ((9 : Int32) &&& 31)) ||| y3.1))))] H := hP
        have hD : va_D A [(h_t, .inr (5, [.ref h_t_row, .ref h_t_heads, .ref h_t_before, .ref h_t_tokens, .int v_t_tokenCount, .int (v_t_matchCount + (1 : Int32)), .int y3.1, .int y3.2])), (h_t_heads, .inl (cI, 16384, .inl f_t_heads)), (h_t_row, .inr (7, [.ref h_t_row_cells, .int v_t_row_count])), (h_t_row_cells, .inl (cB, 65546, .inl (bf f_t_row_cells))), (h_t_before, .inl (cI, 65536, .inl f_t_before)), (h_t_tokens, .inl (cI, 65536, .inl (upd f_t_tokens v_t_tokenCount.toNatClampNeg ((y3.2 <<< ((9 : Int32) &&& 31)) ||| y3.1))))] := hD
        refine lv_goto (tgt := 116) hx hb d_Matcher_findTokens_91 (by decide) ?_
        refine lv_aload_n hx hb d_Matcher_findTokens_116 rfl (lv_at hl 1 rfl) ?_
        refine lv_dup hx hb d_Matcher_findTokens_117 rfl ?_
        refine va_get (D := (dC, dI)) (ci := 5) (v := .int v_t_tokenCount) (C := R_Matcher) (T := F_Matcher) (N := 8) hx hb ht in_Matcher hown hK hP 0 rfl rfl 4 (by decide) (ht _ k_255) (fun _ h9 => h9) rfl d_Matcher_findTokens_118 ?_
        refine lv_iconst (v := (1 : Int32)) hx hb d_Matcher_findTokens_121 (by decide) ?_
        refine lv_iadd hx hb d_Matcher_findTokens_122 ?_
        refine va_put (D := (dC, dI)) (ci := 5) (v := .int (v_t_tokenCount + (1 : Int32))) (ty := .int) (C := R_Matcher) (T := F_Matcher) (N := 8) hx hb ht in_Matcher t_Matcher t_Matcher_ok n_Matcher hown hK hP hD hS 0 rfl rfl 4 (by decide) (ht _ k_255) (fun _ h9 => h9) rfl (by decide +kernel) rfl rfl (Nat.le_of_ble_eq_true rfl) d_Matcher_findTokens_123 (fun H locs hP hD hS => ?_)
        have hP : va_P (dC, dI) vwCl [(h_t, .inr (5, [.ref h_t_row, .ref h_t_heads, .ref h_t_before, .ref h_t_tokens, .int (v_t_tokenCount + (1 : Int32)), .int (v_t_matchCount + (1 : Int32)), .int y3.1, .int y3.2])), (h_t_heads, .inl (cI, 16384, .inl f_t_heads)), (h_t_row, .inr (7, [.ref h_t_row_cells, .int v_t_row_count])), (h_t_row_cells, .inl (cB, 65546, .inl (bf f_t_row_cells))), (h_t_before, .inl (cI, 65536, .inl f_t_before)), (h_t_tokens, .inl (cI, 65536, .inl (upd f_t_tokens v_t_tokenCount.toNatClampNeg ((y3.2 <<< ((9 : Int32) &&& 31)) ||| y3.1))))] H := hP
        have hD : va_D A [(h_t, .inr (5, [.ref h_t_row, .ref h_t_heads, .ref h_t_before, .ref h_t_tokens, .int (v_t_tokenCount + (1 : Int32)), .int (v_t_matchCount + (1 : Int32)), .int y3.1, .int y3.2])), (h_t_heads, .inl (cI, 16384, .inl f_t_heads)), (h_t_row, .inr (7, [.ref h_t_row_cells, .int v_t_row_count])), (h_t_row_cells, .inl (cB, 65546, .inl (bf f_t_row_cells))), (h_t_before, .inl (cI, 65536, .inl f_t_before)), (h_t_tokens, .inl (cI, 65536, .inl (upd f_t_tokens v_t_tokenCount.toNatClampNeg ((y3.2 <<< ((9 : Int32) &&& 31)) ||| y3.1))))] := hD
        refine lv_aload_n hx hb d_Matcher_findTokens_126 rfl (lv_at hl 1 rfl) ?_
        refine lv_iload_n hx hb d_Matcher_findTokens_127 rfl (lv_at hl 3 rfl) ?_
        refine lv_iload_n hx hb d_Matcher_findTokens_128 rfl (lv_at hl 3 rfl) ?_
        refine lv_iload_n hx hb d_Matcher_findTokens_129 rfl (lv_at hl 0 rfl) ?_
        refine lv_iadd hx hb d_Matcher_findTokens_130 ?_
        refine lv_iload_n hx hb d_Matcher_findTokens_131 rfl (lv_at hl 2 rfl) ?_
        refine lv_iconst (v := (3 : Int32)) hx hb d_Matcher_findTokens_132 (by decide) ?_
        refine lv_isub hx hb d_Matcher_findTokens_133 ?_
        refine lv_iconst (v := (1 : Int32)) hx hb d_Matcher_findTokens_134 (by decide) ?_
        refine lv_iadd hx hb d_Matcher_findTokens_135 ?_
        refine va_mmin hx hb (hml.trans hl.1.symm) hown (ht _ k_460) (ht _ k_461) (ht _ k_83) (ht _ k_462) (Nat.le_of_ble_eq_true rfl) (Nat.le_of_ble_eq_true rfl) (Nat.le_of_ble_eq_true rfl) (Nat.le_of_ble_eq_true rfl) d_Matcher_findTokens_136 ?_
        obtain ⟨y9, hy9, h⟩ := bd h
        have hPc := hP.sub (ws' := [(h_t, .inr (5, [.ref h_t_row, .ref h_t_heads, .ref h_t_before, .ref h_t_tokens, .int (v_t_tokenCount + (1 : Int32)), .int (v_t_matchCount + (1 : Int32)), .int y3.1, .int y3.2])), (h_t_row, .inr (7, [.ref h_t_row_cells, .int v_t_row_count])), (h_t_row_cells, .inl (cB, 65546, .inl (bf f_t_row_cells))), (h_t_heads, .inl (cI, 16384, .inl f_t_heads)), (h_t_before, .inl (cI, 65536, .inl f_t_before))]) [0, 2, 3, 1, 4] rfl
        have hDc := hD.sub (ws' := [(h_t, .inr (5, [.ref h_t_row, .ref h_t_heads, .ref h_t_before, .ref h_t_tokens, .int (v_t_tokenCount + (1 : Int32)), .int (v_t_matchCount + (1 : Int32)), .int y3.1, .int y3.2])), (h_t_row, .inr (7, [.ref h_t_row_cells, .int v_t_row_count])), (h_t_row_cells, .inl (cB, 65546, .inl (bf f_t_row_cells))), (h_t_heads, .inl (cI, 16384, .inl f_t_heads)), (h_t_before, .inl (cI, 65536, .inl f_t_before))]) [0, 2, 3, 1, 4] (by decide) rfl
        have hFc := va_free (wc := [(h_t, .inr (5, [.ref h_t_row, .ref h_t_heads, .ref h_t_before, .ref h_t_tokens, .int (v_t_tokenCount + (1 : Int32)), .int (v_t_matchCount + (1 : Int32)), .int y3.1, .int y3.2])), (h_t_row, .inr (7, [.ref h_t_row_cells, .int v_t_row_count])), (h_t_row_cells, .inl (cB, 65546, .inl (bf f_t_row_cells))), (h_t_heads, .inl (cI, 16384, .inl f_t_heads)), (h_t_before, .inl (cI, 65536, .inl f_t_before))]) hD hS hA [0, 2, 3, 1, 4] rfl
        refine va_callv (va_runV (As := [.int x2, .int (if ((x1 - (3 : Int32)) + (1 : Int32)) < (x2 + (if (1 : Int32) < y3.1 then y3.1 else (1 : Int32))) then ((x1 - (3 : Int32)) + (1 : Int32)) else (x2 + (if (1 : Int32) < y3.1 then y3.1 else (1 : Int32))))]) (rest := []) ⟨hx, hb, hml, hown, ht⟩ (cMatcher_remember l dC dI h_t h_t_row h_t_heads h_t_before h_t_tokens h_t_row_cells cB cI cJ _ N x2 (if ((x1 - (3 : Int32)) + (1 : Int32)) < (x2 + (if (1 : Int32) < y3.1 then y3.1 else (1 : Int32))) then ((x1 - (3 : Int32)) + (1 : Int32)) else (x2 + (if (1 : Int32) < y3.1 then y3.1 else (1 : Int32)))) (v_t_tokenCount + (1 : Int32)) (v_t_matchCount + (1 : Int32)) y3.1 y3.2 v_t_row_count f_t_row_cells f_t_heads f_t_before y9 hy9) (⟨callB_of 2 ht (gTB (k_487)) rfl rfl rfl (ht _ k_73) (ht _ k_484) (by decide +kernel) ⟨Nat.le_of_ble_eq_true rfl, Nat.le_of_ble_eq_true rfl⟩, ht _ k_486, ht _ k_4⟩) ⟨fun a U g mk q => by obtain ⟨q0, q1, qP, qK, qD, qN⟩ := q; exact ⟨q0, q1, qP, va_K.moved (u := U) (U := U.calling g mk a) (Vm.Alike.refl U.vm) qK, qD, NW_same (u := U) rfl qN⟩, va_recv hK hPc (ci := 5) (q0 := 0) rfl rfl, fun U hU hW => ⟨rfl, by rw [hU], by rw [hU]; exact hPc, va_K.moved hW.alike hK, hDc.weaken (fun _ _ _ _ => trivial), NW_warm hW hN⟩⟩ rfl rfl hl.1 rfl (lv_room (Nat.le_of_ble_eq_true rfl)) d_Matcher_findTokens_139 ⟨Nat.le_of_ble_eq_true rfl, Nat.le_of_ble_eq_true rfl⟩) hS (fun q _ h => hFc q h) hFc (fun u t H1 locs htH hvm hw hB hz1 hk1 hS => ?_)
        obtain ⟨hP1, hK1, hD1⟩ := hB
        rw [htH] at hP1
        obtain ⟨hP, hD⟩ := va_join (wr := [(h_t_tokens, .inl (cI, 65536, .inl (upd f_t_tokens v_t_tokenCount.toNatClampNeg ((y3.2 <<< ((9 : Int32) &&& 31)) ||| y3.1))))]) (w1 := [(h_t, .inr (5, [.ref h_t_row, .ref h_t_heads, .ref h_t_before, .ref h_t_tokens, .int (v_t_tokenCount + (1 : Int32)), .int (v_t_matchCount + (1 : Int32)), .int y3.1, .int y3.2])), (h_t_row, .inr (7, [.ref h_t_row_cells, .int v_t_row_count])), (h_t_row_cells, .inl (cB, 65546, .inl (bf f_t_row_cells))), (h_t_heads, .inl (cI, 16384, .inl y9.1)), (h_t_before, .inl (cI, 65536, .inl y9.2))]) hP hD [0, 2, 3, 1, 4] [5] rfl rfl (by decide) (by decide) hk1 hFc hP1 hD1
        generalize H1 = H at hP hS ⊢
        have hP : va_P (dC, dI) vwCl [(h_t, .inr (5, [.ref h_t_row, .ref h_t_heads, .ref h_t_before, .ref h_t_tokens, .int (v_t_tokenCount + (1 : Int32)), .int (v_t_matchCount + (1 : Int32)), .int y3.1, .int y3.2])), (h_t_heads, .inl (cI, 16384, .inl y9.1)), (h_t_row, .inr (7, [.ref h_t_row_cells, .int v_t_row_count])), (h_t_row_cells, .inl (cB, 65546, .inl (bf f_t_row_cells))), (h_t_before, .inl (cI, 65536, .inl y9.2)), (h_t_tokens, .inl (cI, 65536, .inl (upd f_t_tokens v_t_tokenCount.toNatClampNeg ((y3.2 <<< ((9 : Int32) &&& 31)) ||| y3.1))))] H := hP.sub [1, 4, 2, 3, 5, 0] rfl
        have hD : va_D A [(h_t, .inr (5, [.ref h_t_row, .ref h_t_heads, .ref h_t_before, .ref h_t_tokens, .int (v_t_tokenCount + (1 : Int32)), .int (v_t_matchCount + (1 : Int32)), .int y3.1, .int y3.2])), (h_t_heads, .inl (cI, 16384, .inl y9.1)), (h_t_row, .inr (7, [.ref h_t_row_cells, .int v_t_row_count])), (h_t_row_cells, .inl (cB, 65546, .inl (bf f_t_row_cells))), (h_t_before, .inl (cI, 65536, .inl y9.2)), (h_t_tokens, .inl (cI, 65536, .inl (upd f_t_tokens v_t_tokenCount.toNatClampNeg ((y3.2 <<< ((9 : Int32) &&& 31)) ||| y3.1))))] := hD.sub [1, 4, 2, 3, 5, 0] (by decide) rfl
        refine lv_iload_n hx hb d_Matcher_findTokens_142 rfl (lv_at hl 3 rfl) ?_
        refine lv_iload_n hx hb d_Matcher_findTokens_143 rfl (lv_at hl 0 rfl) ?_
        refine lv_iadd hx hb d_Matcher_findTokens_144 ?_
        refine lv_istore_n (lv' := [(2, .int (x2 + (if (1 : Int32) < y3.1 then y3.1 else (1 : Int32)))), (3, .int (if (1 : Int32) < y3.1 then y3.1 else (1 : Int32))), (0, .ref h_t), (1, .int x1)]) hx hb d_Matcher_findTokens_145 rfl hl (by decide) rfl (fun ls hl => ?_)
        refine lv_goto (tgt := 33) hx hb d_Matcher_findTokens_146 (by decide) ?_
        exact ih (x2 + (if (1 : Int32) < y3.1 then y3.1 else (1 : Int32))) (v_t_tokenCount + (1 : Int32)) (v_t_matchCount + (1 : Int32)) y3.1 y3.2 y9.1 y9.2 (upd f_t_tokens v_t_tokenCount.toNatClampNeg ((y3.2 <<< ((9 : Int32) &&& 31)) ||| y3.1)) _ _ _ _ hP hD hS (lv_sub hl [2, 3, 0] rfl) h kx
set_option maxHeartbeats 4000000 in
set_option maxRecDepth 100000 in
theorem cMatcher_findTokens (l : Launch) (dC : Nat → ClassId) (dI : Nat → Nat → Nat) (h_t h_t_row h_t_heads h_t_before h_t_tokens h_t_row_cells : Nat) (cB cI cJ : ClassId) (sz : Nat) (N : Nat) (v_t_tokenCount : Int32) (v_t_matchCount : Int32) (v_t_bestLength : Int32) (v_t_bestDistance : Int32) (f_t_heads : Nat → Int32) (v_t_row_count : Int32) (f_t_row_cells : Nat → Int32) (f_t_before : Nat → Int32) (f_t_tokens : Nat → Int32) (o : Int32 × Int32 × Int32 × Int32 × (Nat → Int32) × (Nat → Int32) × (Nat → Int32)) (h : fMatcher_findTokens N v_t_bestLength v_t_bestDistance f_t_heads v_t_row_count f_t_row_cells f_t_before f_t_tokens = some o) : Met l y_Matcher_findTokens w_Matcher_findTokens ({ frames := 2, cells := 0, slots := 0, locals := 52 } : Room) (va_Pc [.ref h_t] (fun U => U.heap.size = sz ∧ va_P (dC, dI) vwCl [(h_t, .inr (5, [.ref h_t_row, .ref h_t_heads, .ref h_t_before, .ref h_t_tokens, .int v_t_tokenCount, .int v_t_matchCount, .int v_t_bestLength, .int v_t_bestDistance])), (h_t_heads, .inl (cI, 16384, .inl f_t_heads)), (h_t_row, .inr (7, [.ref h_t_row_cells, .int v_t_row_count])), (h_t_row_cells, .inl (cB, 65546, .inl (bf f_t_row_cells))), (h_t_before, .inl (cI, 65536, .inl f_t_before)), (h_t_tokens, .inl (cI, 65536, .inl f_t_tokens))] U.heap ∧ va_K (dC, dI) vwCl [(cB, .byte), (cI, .int), (cJ, .long)] U ∧ va_D (fun _ => True) [(h_t, .inr (5, [.ref h_t_row, .ref h_t_heads, .ref h_t_before, .ref h_t_tokens, .int v_t_tokenCount, .int v_t_matchCount, .int v_t_bestLength, .int v_t_bestDistance])), (h_t_heads, .inl (cI, 16384, .inl f_t_heads)), (h_t_row, .inr (7, [.ref h_t_row_cells, .int v_t_row_count])), (h_t_row_cells, .inl (cB, 65546, .inl (bf f_t_row_cells))), (h_t_before, .inl (cI, 65536, .inl f_t_before)), (h_t_tokens, .inl (cI, 65536, .inl f_t_tokens))] ∧ NW U)) (va_Qv (fun _ : Unit => True) (fun _ t => va_P (dC, dI) vwCl [(h_t, .inr (5, [.ref h_t_row, .ref h_t_heads, .ref h_t_before, .ref h_t_tokens, .int o.1, .int o.2.1, .int o.2.2.1, .int o.2.2.2.1])), (h_t_heads, .inl (cI, 16384, .inl o.2.2.2.2.1)), (h_t_row, .inr (7, [.ref h_t_row_cells, .int v_t_row_count])), (h_t_row_cells, .inl (cB, 65546, .inl (bf f_t_row_cells))), (h_t_before, .inl (cI, 65536, .inl o.2.2.2.2.2.1)), (h_t_tokens, .inl (cI, 65536, .inl o.2.2.2.2.2.2))] t.heap ∧ va_K (dC, dI) vwCl [(cB, .byte), (cI, .int), (cJ, .long)] t ∧ va_D (va_A [(h_t, .inr (5, [.ref h_t_row, .ref h_t_heads, .ref h_t_before, .ref h_t_tokens, .int v_t_tokenCount, .int v_t_matchCount, .int v_t_bestLength, .int v_t_bestDistance])), (h_t_heads, .inl (cI, 16384, .inl f_t_heads)), (h_t_row, .inr (7, [.ref h_t_row_cells, .int v_t_row_count])), (h_t_row_cells, .inl (cB, 65546, .inl (bf f_t_row_cells))), (h_t_before, .inl (cI, 65536, .inl f_t_before)), (h_t_tokens, .inl (cI, 65536, .inl f_t_tokens))] sz) [(h_t, .inr (5, [.ref h_t_row, .ref h_t_heads, .ref h_t_before, .ref h_t_tokens, .int o.1, .int o.2.1, .int o.2.2.1, .int o.2.2.2.1])), (h_t_heads, .inl (cI, 16384, .inl o.2.2.2.2.1)), (h_t_row, .inr (7, [.ref h_t_row_cells, .int v_t_row_count])), (h_t_row_cells, .inl (cB, 65546, .inl (bf f_t_row_cells))), (h_t_before, .inl (cI, 65536, .inl o.2.2.2.2.2.1)), (h_t_tokens, .inl (cI, 65536, .inl o.2.2.2.2.2.2))]) (va_A [(h_t, .inr (5, [.ref h_t_row, .ref h_t_heads, .ref h_t_before, .ref h_t_tokens, .int v_t_tokenCount, .int v_t_matchCount, .int v_t_bestLength, .int v_t_bestDistance])), (h_t_heads, .inl (cI, 16384, .inl f_t_heads)), (h_t_row, .inr (7, [.ref h_t_row_cells, .int v_t_row_count])), (h_t_row_cells, .inl (cB, 65546, .inl (bf f_t_row_cells))), (h_t_before, .inl (cI, 65536, .inl f_t_before)), (h_t_tokens, .inl (cI, 65536, .inl f_t_tokens))] sz)) 0 0 (va_A [(h_t, .inr (5, [.ref h_t_row, .ref h_t_heads, .ref h_t_before, .ref h_t_tokens, .int v_t_tokenCount, .int v_t_matchCount, .int v_t_bestLength, .int v_t_bestDistance])), (h_t_heads, .inl (cI, 16384, .inl f_t_heads)), (h_t_row, .inr (7, [.ref h_t_row_cells, .int v_t_row_count])), (h_t_row_cells, .inl (cB, 65546, .inl (bf f_t_row_cells))), (h_t_before, .inl (cI, 65536, .inl f_t_before)), (h_t_tokens, .inl (cI, 65536, .inl f_t_tokens))] sz) := by
  refine Met.ofW (cc := b_Matcher_findTokens) (maxL := 4) (ret := none) (by decide) rfl ?_
  intro p e s m args below meth c s₁ B hml hv
  obtain ⟨rfl, hsz, hP, hK, hD0, hN⟩ := hv
  have hx := B.exec
  have hb := B.bytes
  have hr := B.returns
  have hts := atoms_spec (ws := w_Matcher_findTokens) B.pre
  have ht : ∀ w ∈ TB, w.before ([.ref h_t]).toArray s = true := fun w h => hts w (List.mem_cons_of_mem _ h)
  have hown : s.vm.findClass R_Matcher = some m.cls := findClass_of_methodNamed B.named
  have hlocks := B.notSynchronized
  subst hsz
  have hD := hD0.self (sz := s.heap.size)
  generalize hAe : va_A [(h_t, .inr (5, [.ref h_t_row, .ref h_t_heads, .ref h_t_before, .ref h_t_tokens, .int v_t_tokenCount, .int v_t_matchCount, .int v_t_bestLength, .int v_t_bestDistance])), (h_t_heads, .inl (cI, 16384, .inl f_t_heads)), (h_t_row, .inr (7, [.ref h_t_row_cells, .int v_t_row_count])), (h_t_row_cells, .inl (cB, 65546, .inl (bf f_t_row_cells))), (h_t_before, .inl (cI, 65536, .inl f_t_before)), (h_t_tokens, .inl (cI, 65536, .inl f_t_tokens))] s.heap.size = A at hD ⊢
  have hA : ∀ q : Nat, s.heap.size ≤ q → A q := fun q h => by rw [← hAe]; exact Or.inr h
  have hS : va_S A s.heap s.heap [] := va_S.rf
  have hP : va_P (dC, dI) vwCl [(h_t, .inr (5, [.ref h_t_row, .ref h_t_heads, .ref h_t_before, .ref h_t_tokens, .int v_t_tokenCount, .int v_t_matchCount, .int v_t_bestLength, .int v_t_bestDistance])), (h_t_heads, .inl (cI, 16384, .inl f_t_heads)), (h_t_row, .inr (7, [.ref h_t_row_cells, .int v_t_row_count])), (h_t_row_cells, .inl (cB, 65546, .inl (bf f_t_row_cells))), (h_t_before, .inl (cI, 65536, .inl f_t_before)), (h_t_tokens, .inl (cI, 65536, .inl f_t_tokens))] s.heap := hP
  have C : CX p s m ([.ref h_t]).toArray c b_Matcher_findTokens 4 R_Matcher A (dC, dI) [(cB, .byte), (cI, .int), (cJ, .long)] := ⟨hx, hb, hml, hown, ht, hA, hK, hN⟩
  have hl := lv_entry ([.ref h_t]) (n := 4) (Nat.le_of_ble_eq_true rfl)
  rw [lg_entry_eq]
  generalize (lg_sl ([.ref h_t]) ++ List.replicate (4 - (lg_sl ([.ref h_t])).length) Slot.unset).toArray = ls at hl ⊢
  have hl : lv_has ls 4 [(0, .ref h_t)] := hl
  refine lv_aload_n hx hb d_Matcher_findTokens_0 rfl (lv_at hl 0 rfl) ?_
  refine va_get (D := (dC, dI)) (ci := 5) (v := .ref h_t_heads) (C := R_Matcher) (T := F_Matcher) (N := 8) hx hb ht in_Matcher hown hK hP 0 rfl rfl 1 (by decide) (ht _ k_251) (fun _ h9 => h9) rfl d_Matcher_findTokens_1 ?_
  refine lv_iconst (v := (-1 : Int32)) hx hb d_Matcher_findTokens_4 (by decide) ?_
  obtain ⟨y1, hy1, h⟩ := bd h
  have hPc := hP.sub (ws' := [(h_t_heads, .inl (cI, 16384, .inl f_t_heads))]) [1] rfl
  have hDc := hD.sub (ws' := [(h_t_heads, .inl (cI, 16384, .inl f_t_heads))]) [1] (by decide) rfl
  have hFc := va_free (wc := [(h_t_heads, .inl (cI, 16384, .inl f_t_heads))]) hD hS hA [1] rfl
  refine va_callv (va_runS (As := [.ref h_t_heads, .int (-1 : Int32)]) (rest := []) ⟨hx, hb, hml, hown, ht⟩ (cJA_fill l dC dI h_t_heads cB cI cJ _ N (-1 : Int32) 16384 f_t_heads y1 hy1) (⟨callB_of 2 ht (gTB (k_226)) rfl rfl rfl (ht _ k_71) (ht _ k_459) (by decide +kernel) ⟨Nat.le_of_ble_eq_true rfl, Nat.le_of_ble_eq_true rfl⟩, ht _ k_225⟩) ⟨fun a U g mk q => by obtain ⟨q0, q1, qP, qK, qD, qN⟩ := q; exact ⟨q0, q1, qP, va_K.moved (u := U) (U := U.calling g mk a) (Vm.Alike.refl U.vm) qK, qD, NW_same (u := U) rfl qN⟩, fun U hU hW => ⟨rfl, by rw [hU], by rw [hU]; exact hPc, va_K.moved hW.alike hK, hDc.weaken (fun _ _ _ _ => trivial), NW_warm hW hN⟩⟩ rfl rfl hl.1 rfl (lv_room (Nat.le_of_ble_eq_true rfl)) d_Matcher_findTokens_5 ⟨Nat.le_of_ble_eq_true rfl, Nat.le_of_ble_eq_true rfl⟩) hS (fun q _ h => hFc q h) hFc (fun u t H1 locs htH hvm hw hB hz1 hk1 hS => ?_)
  obtain ⟨hP1, hK1, hD1⟩ := hB
  rw [htH] at hP1
  obtain ⟨hP, hD⟩ := va_join (wr := [(h_t, .inr (5, [.ref h_t_row, .ref h_t_heads, .ref h_t_before, .ref h_t_tokens, .int v_t_tokenCount, .int v_t_matchCount, .int v_t_bestLength, .int v_t_bestDistance])), (h_t_row, .inr (7, [.ref h_t_row_cells, .int v_t_row_count])), (h_t_row_cells, .inl (cB, 65546, .inl (bf f_t_row_cells))), (h_t_before, .inl (cI, 65536, .inl f_t_before)), (h_t_tokens, .inl (cI, 65536, .inl f_t_tokens))]) (w1 := [(h_t_heads, .inl (cI, 16384, .inl y1))]) hP hD [1] [0, 2, 3, 4, 5] rfl rfl (by decide) (by decide) hk1 hFc hP1 hD1
  generalize H1 = H at hP hS ⊢
  have hP : va_P (dC, dI) vwCl [(h_t, .inr (5, [.ref h_t_row, .ref h_t_heads, .ref h_t_before, .ref h_t_tokens, .int v_t_tokenCount, .int v_t_matchCount, .int v_t_bestLength, .int v_t_bestDistance])), (h_t_heads, .inl (cI, 16384, .inl y1)), (h_t_row, .inr (7, [.ref h_t_row_cells, .int v_t_row_count])), (h_t_row_cells, .inl (cB, 65546, .inl (bf f_t_row_cells))), (h_t_before, .inl (cI, 65536, .inl f_t_before)), (h_t_tokens, .inl (cI, 65536, .inl f_t_tokens))] H := hP.sub [0, 5, 1, 2, 3, 4] rfl
  have hD : va_D A [(h_t, .inr (5, [.ref h_t_row, .ref h_t_heads, .ref h_t_before, .ref h_t_tokens, .int v_t_tokenCount, .int v_t_matchCount, .int v_t_bestLength, .int v_t_bestDistance])), (h_t_heads, .inl (cI, 16384, .inl y1)), (h_t_row, .inr (7, [.ref h_t_row_cells, .int v_t_row_count])), (h_t_row_cells, .inl (cB, 65546, .inl (bf f_t_row_cells))), (h_t_before, .inl (cI, 65536, .inl f_t_before)), (h_t_tokens, .inl (cI, 65536, .inl f_t_tokens))] := hD.sub [0, 5, 1, 2, 3, 4] (by decide) rfl
  refine lv_aload_n hx hb d_Matcher_findTokens_8 rfl (lv_at hl 0 rfl) ?_
  refine lv_iconst (v := (0 : Int32)) hx hb d_Matcher_findTokens_9 (by decide) ?_
  refine va_put (D := (dC, dI)) (ci := 5) (v := .int (0 : Int32)) (ty := .int) (C := R_Matcher) (T := F_Matcher) (N := 8) hx hb ht in_Matcher t_Matcher t_Matcher_ok n_Matcher hown hK hP hD hS 0 rfl rfl 4 (by decide) (ht _ k_255) (fun _ h9 => h9) rfl (by decide +kernel) rfl rfl (Nat.le_of_ble_eq_true rfl) d_Matcher_findTokens_10 (fun H locs hP hD hS => ?_)
  have hP : va_P (dC, dI) vwCl [(h_t, .inr (5, [.ref h_t_row, .ref h_t_heads, .ref h_t_before, .ref h_t_tokens, .int (0 : Int32), .int v_t_matchCount, .int v_t_bestLength, .int v_t_bestDistance])), (h_t_heads, .inl (cI, 16384, .inl y1)), (h_t_row, .inr (7, [.ref h_t_row_cells, .int v_t_row_count])), (h_t_row_cells, .inl (cB, 65546, .inl (bf f_t_row_cells))), (h_t_before, .inl (cI, 65536, .inl f_t_before)), (h_t_tokens, .inl (cI, 65536, .inl f_t_tokens))] H := hP
  have hD : va_D A [(h_t, .inr (5, [.ref h_t_row, .ref h_t_heads, .ref h_t_before, .ref h_t_tokens, .int (0 : Int32), .int v_t_matchCount, .int v_t_bestLength, .int v_t_bestDistance])), (h_t_heads, .inl (cI, 16384, .inl y1)), (h_t_row, .inr (7, [.ref h_t_row_cells, .int v_t_row_count])), (h_t_row_cells, .inl (cB, 65546, .inl (bf f_t_row_cells))), (h_t_before, .inl (cI, 65536, .inl f_t_before)), (h_t_tokens, .inl (cI, 65536, .inl f_t_tokens))] := hD
  refine lv_aload_n hx hb d_Matcher_findTokens_13 rfl (lv_at hl 0 rfl) ?_
  refine lv_iconst (v := (0 : Int32)) hx hb d_Matcher_findTokens_14 (by decide) ?_
  refine va_put (D := (dC, dI)) (ci := 5) (v := .int (0 : Int32)) (ty := .int) (C := R_Matcher) (T := F_Matcher) (N := 8) hx hb ht in_Matcher t_Matcher t_Matcher_ok n_Matcher hown hK hP hD hS 0 rfl rfl 5 (by decide) (ht _ k_257) (fun _ h9 => h9) rfl (by decide +kernel) rfl rfl (Nat.le_of_ble_eq_true rfl) d_Matcher_findTokens_15 (fun H locs hP hD hS => ?_)
  have hP : va_P (dC, dI) vwCl [(h_t, .inr (5, [.ref h_t_row, .ref h_t_heads, .ref h_t_before, .ref h_t_tokens, .int (0 : Int32), .int (0 : Int32), .int v_t_bestLength, .int v_t_bestDistance])), (h_t_heads, .inl (cI, 16384, .inl y1)), (h_t_row, .inr (7, [.ref h_t_row_cells, .int v_t_row_count])), (h_t_row_cells, .inl (cB, 65546, .inl (bf f_t_row_cells))), (h_t_before, .inl (cI, 65536, .inl f_t_before)), (h_t_tokens, .inl (cI, 65536, .inl f_t_tokens))] H := hP
  have hD : va_D A [(h_t, .inr (5, [.ref h_t_row, .ref h_t_heads, .ref h_t_before, .ref h_t_tokens, .int (0 : Int32), .int (0 : Int32), .int v_t_bestLength, .int v_t_bestDistance])), (h_t_heads, .inl (cI, 16384, .inl y1)), (h_t_row, .inr (7, [.ref h_t_row_cells, .int v_t_row_count])), (h_t_row_cells, .inl (cB, 65546, .inl (bf f_t_row_cells))), (h_t_before, .inl (cI, 65536, .inl f_t_before)), (h_t_tokens, .inl (cI, 65536, .inl f_t_tokens))] := hD
  refine lv_aload_n hx hb d_Matcher_findTokens_18 rfl (lv_at hl 0 rfl) ?_
  refine va_get (D := (dC, dI)) (ci := 5) (v := .ref h_t_row) (C := R_Matcher) (T := F_Matcher) (N := 8) hx hb ht in_Matcher hown hK hP 0 rfl rfl 0 (by decide) (ht _ k_250) (fun _ h9 => h9) rfl d_Matcher_findTokens_19 ?_
  refine va_get (D := (dC, dI)) (ci := 7) (v := .int v_t_row_count) (C := R_Row) (T := F_Row) (N := 2) hx hb ht in_Row hown hK hP 2 rfl rfl 1 (by decide) (ht _ k_111) (fun _ h9 => h9) rfl d_Matcher_findTokens_22 ?_
  refine lv_ldc (v := (65536 : Int32)) hx hb hown (ht _ k_249) d_Matcher_findTokens_25 ?_
  refine va_mmin hx hb (hml.trans hl.1.symm) hown (ht _ k_460) (ht _ k_461) (ht _ k_83) (ht _ k_462) (Nat.le_of_ble_eq_true rfl) (Nat.le_of_ble_eq_true rfl) (Nat.le_of_ble_eq_true rfl) (Nat.le_of_ble_eq_true rfl) d_Matcher_findTokens_27 ?_
  refine lv_istore_n (lv' := [(1, .int (if (65536 : Int32) < v_t_row_count then (65536 : Int32) else v_t_row_count)), (0, .ref h_t)]) hx hb d_Matcher_findTokens_30 rfl hl (by decide) rfl (fun ls hl => ?_)
  refine lv_iconst (v := (0 : Int32)) hx hb d_Matcher_findTokens_31 (by decide) ?_
  refine lv_istore_n (lv' := [(2, .int (0 : Int32)), (1, .int (if (65536 : Int32) < v_t_row_count then (65536 : Int32) else v_t_row_count)), (0, .ref h_t)]) hx hb d_Matcher_findTokens_32 rfl hl (by decide) rfl (fun ls hl => ?_)
  obtain ⟨y10, hy10, h⟩ := bd h
  refine wMatcher_findTokens_33 h_t h_t_row h_t_heads h_t_before h_t_tokens h_t_row_cells cB cI cJ N v_t_row_count f_t_row_cells (if (65536 : Int32) < v_t_row_count then (65536 : Int32) else v_t_row_count) C N (0 : Int32) (0 : Int32) (0 : Int32) v_t_bestLength v_t_bestDistance y1 f_t_before f_t_tokens _ _ _ _ hP hD hS (lv_sub hl [2, 1, 0] rfl) hy10 (fun H locs ls hP hD hS hl => ?_)
  obtain rfl := Option.some.inj h
  exact W.vret hx hb hr (fun t ht hW => ⟨⟨(), rfl, trivial, by rw [ht]; exact hP, va_K.moved hW.alike hK, hD⟩, hS.F ht⟩) hS.2.2 d_Matcher_findTokens_149
