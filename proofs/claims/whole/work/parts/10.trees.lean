theorem d_Trees_insertLeaf_0 : decode b_Trees_insertLeaf 0 = .ok (.aload_n 0, 1) := by decide +kernel
theorem d_Trees_insertLeaf_1 : decode b_Trees_insertLeaf 1 = .ok (.getfield 27, 3) := by decide +kernel
theorem d_Trees_insertLeaf_4 : decode b_Trees_insertLeaf 4 = .ok (.istore_n 2, 1) := by decide +kernel
theorem d_Trees_insertLeaf_5 : decode b_Trees_insertLeaf 5 = .ok (.iload_n 2, 1) := by decide +kernel
theorem d_Trees_insertLeaf_6 : decode b_Trees_insertLeaf 6 = .ok (.ifCond .le 54, 3) := by decide +kernel
theorem d_Trees_insertLeaf_9 : decode b_Trees_insertLeaf 9 = .ok (.aload_n 0, 1) := by decide +kernel
theorem d_Trees_insertLeaf_10 : decode b_Trees_insertLeaf 10 = .ok (.getfield 9, 3) := by decide +kernel
theorem d_Trees_insertLeaf_13 : decode b_Trees_insertLeaf 13 = .ok (.iload_n 2, 1) := by decide +kernel
theorem d_Trees_insertLeaf_14 : decode b_Trees_insertLeaf 14 = .ok (.iconst 1, 1) := by decide +kernel
theorem d_Trees_insertLeaf_15 : decode b_Trees_insertLeaf 15 = .ok (.isub, 1) := by decide +kernel
theorem d_Trees_insertLeaf_16 : decode b_Trees_insertLeaf 16 = .ok (.iaload, 1) := by decide +kernel
theorem d_Trees_insertLeaf_17 : decode b_Trees_insertLeaf 17 = .ok (.aload_n 0, 1) := by decide +kernel
theorem d_Trees_insertLeaf_18 : decode b_Trees_insertLeaf 18 = .ok (.getfield 24, 3) := by decide +kernel
theorem d_Trees_insertLeaf_21 : decode b_Trees_insertLeaf 21 = .ok (.iload_n 1, 1) := by decide +kernel
theorem d_Trees_insertLeaf_22 : decode b_Trees_insertLeaf 22 = .ok (.iaload, 1) := by decide +kernel
theorem d_Trees_insertLeaf_23 : decode b_Trees_insertLeaf 23 = .ok (.if_icmp .le 37, 3) := by decide +kernel
theorem d_Trees_insertLeaf_26 : decode b_Trees_insertLeaf 26 = .ok (.aload_n 0, 1) := by decide +kernel
theorem d_Trees_insertLeaf_27 : decode b_Trees_insertLeaf 27 = .ok (.getfield 9, 3) := by decide +kernel
theorem d_Trees_insertLeaf_30 : decode b_Trees_insertLeaf 30 = .ok (.iload_n 2, 1) := by decide +kernel
theorem d_Trees_insertLeaf_31 : decode b_Trees_insertLeaf 31 = .ok (.aload_n 0, 1) := by decide +kernel
theorem d_Trees_insertLeaf_32 : decode b_Trees_insertLeaf 32 = .ok (.getfield 9, 3) := by decide +kernel
theorem d_Trees_insertLeaf_35 : decode b_Trees_insertLeaf 35 = .ok (.iload_n 2, 1) := by decide +kernel
theorem d_Trees_insertLeaf_36 : decode b_Trees_insertLeaf 36 = .ok (.iconst 1, 1) := by decide +kernel
theorem d_Trees_insertLeaf_37 : decode b_Trees_insertLeaf 37 = .ok (.isub, 1) := by decide +kernel
theorem d_Trees_insertLeaf_38 : decode b_Trees_insertLeaf 38 = .ok (.iaload, 1) := by decide +kernel
theorem d_Trees_insertLeaf_39 : decode b_Trees_insertLeaf 39 = .ok (.iastore, 1) := by decide +kernel
theorem d_Trees_insertLeaf_40 : decode b_Trees_insertLeaf 40 = .ok (.aload_n 0, 1) := by decide +kernel
theorem d_Trees_insertLeaf_41 : decode b_Trees_insertLeaf 41 = .ok (.getfield 21, 3) := by decide +kernel
theorem d_Trees_insertLeaf_44 : decode b_Trees_insertLeaf 44 = .ok (.iload_n 2, 1) := by decide +kernel
theorem d_Trees_insertLeaf_45 : decode b_Trees_insertLeaf 45 = .ok (.aload_n 0, 1) := by decide +kernel
theorem d_Trees_insertLeaf_46 : decode b_Trees_insertLeaf 46 = .ok (.getfield 21, 3) := by decide +kernel
theorem d_Trees_insertLeaf_49 : decode b_Trees_insertLeaf 49 = .ok (.iload_n 2, 1) := by decide +kernel
theorem d_Trees_insertLeaf_50 : decode b_Trees_insertLeaf 50 = .ok (.iconst 1, 1) := by decide +kernel
theorem d_Trees_insertLeaf_51 : decode b_Trees_insertLeaf 51 = .ok (.isub, 1) := by decide +kernel
theorem d_Trees_insertLeaf_52 : decode b_Trees_insertLeaf 52 = .ok (.iaload, 1) := by decide +kernel
theorem d_Trees_insertLeaf_53 : decode b_Trees_insertLeaf 53 = .ok (.iastore, 1) := by decide +kernel
theorem d_Trees_insertLeaf_54 : decode b_Trees_insertLeaf 54 = .ok (.iinc 2 (-1), 3) := by decide +kernel
theorem d_Trees_insertLeaf_57 : decode b_Trees_insertLeaf 57 = .ok (.goto (-52), 3) := by decide +kernel
theorem d_Trees_insertLeaf_60 : decode b_Trees_insertLeaf 60 = .ok (.aload_n 0, 1) := by decide +kernel
theorem d_Trees_insertLeaf_61 : decode b_Trees_insertLeaf 61 = .ok (.getfield 9, 3) := by decide +kernel
theorem d_Trees_insertLeaf_64 : decode b_Trees_insertLeaf 64 = .ok (.iload_n 2, 1) := by decide +kernel
theorem d_Trees_insertLeaf_65 : decode b_Trees_insertLeaf 65 = .ok (.aload_n 0, 1) := by decide +kernel
theorem d_Trees_insertLeaf_66 : decode b_Trees_insertLeaf 66 = .ok (.getfield 24, 3) := by decide +kernel
theorem d_Trees_insertLeaf_69 : decode b_Trees_insertLeaf 69 = .ok (.iload_n 1, 1) := by decide +kernel
theorem d_Trees_insertLeaf_70 : decode b_Trees_insertLeaf 70 = .ok (.iaload, 1) := by decide +kernel
theorem d_Trees_insertLeaf_71 : decode b_Trees_insertLeaf 71 = .ok (.iastore, 1) := by decide +kernel
theorem d_Trees_insertLeaf_72 : decode b_Trees_insertLeaf 72 = .ok (.aload_n 0, 1) := by decide +kernel
theorem d_Trees_insertLeaf_73 : decode b_Trees_insertLeaf 73 = .ok (.getfield 21, 3) := by decide +kernel
theorem d_Trees_insertLeaf_76 : decode b_Trees_insertLeaf 76 = .ok (.iload_n 2, 1) := by decide +kernel
theorem d_Trees_insertLeaf_77 : decode b_Trees_insertLeaf 77 = .ok (.iload_n 1, 1) := by decide +kernel
theorem d_Trees_insertLeaf_78 : decode b_Trees_insertLeaf 78 = .ok (.iastore, 1) := by decide +kernel
theorem d_Trees_insertLeaf_79 : decode b_Trees_insertLeaf 79 = .ok (.aload_n 0, 1) := by decide +kernel
theorem d_Trees_insertLeaf_80 : decode b_Trees_insertLeaf 80 = .ok (.dup, 1) := by decide +kernel
theorem d_Trees_insertLeaf_81 : decode b_Trees_insertLeaf 81 = .ok (.getfield 27, 3) := by decide +kernel
theorem d_Trees_insertLeaf_84 : decode b_Trees_insertLeaf 84 = .ok (.iconst 1, 1) := by decide +kernel
theorem d_Trees_insertLeaf_85 : decode b_Trees_insertLeaf 85 = .ok (.iadd, 1) := by decide +kernel
theorem d_Trees_insertLeaf_86 : decode b_Trees_insertLeaf 86 = .ok (.putfield 27, 3) := by decide +kernel
theorem d_Trees_insertLeaf_89 : decode b_Trees_insertLeaf 89 = .ok (.return_, 1) := by decide +kernel
theorem d_Trees_sortLeaves_0 : decode b_Trees_sortLeaves 0 = .ok (.aload_n 0, 1) := by decide +kernel
theorem d_Trees_sortLeaves_1 : decode b_Trees_sortLeaves 1 = .ok (.iconst 0, 1) := by decide +kernel
theorem d_Trees_sortLeaves_2 : decode b_Trees_sortLeaves 2 = .ok (.putfield 27, 3) := by decide +kernel
theorem d_Trees_sortLeaves_5 : decode b_Trees_sortLeaves 5 = .ok (.iconst 0, 1) := by decide +kernel
theorem d_Trees_sortLeaves_6 : decode b_Trees_sortLeaves 6 = .ok (.istore_n 2, 1) := by decide +kernel
theorem d_Trees_sortLeaves_7 : decode b_Trees_sortLeaves 7 = .ok (.iload_n 2, 1) := by decide +kernel
theorem d_Trees_sortLeaves_8 : decode b_Trees_sortLeaves 8 = .ok (.iload_n 1, 1) := by decide +kernel
theorem d_Trees_sortLeaves_9 : decode b_Trees_sortLeaves 9 = .ok (.if_icmp .ge 23, 3) := by decide +kernel
theorem d_Trees_sortLeaves_12 : decode b_Trees_sortLeaves 12 = .ok (.aload_n 0, 1) := by decide +kernel
theorem d_Trees_sortLeaves_13 : decode b_Trees_sortLeaves 13 = .ok (.getfield 24, 3) := by decide +kernel
theorem d_Trees_sortLeaves_16 : decode b_Trees_sortLeaves 16 = .ok (.iload_n 2, 1) := by decide +kernel
theorem d_Trees_sortLeaves_17 : decode b_Trees_sortLeaves 17 = .ok (.iaload, 1) := by decide +kernel
theorem d_Trees_sortLeaves_18 : decode b_Trees_sortLeaves 18 = .ok (.ifCond .le 8, 3) := by decide +kernel
theorem d_Trees_sortLeaves_21 : decode b_Trees_sortLeaves 21 = .ok (.aload_n 0, 1) := by decide +kernel
theorem d_Trees_sortLeaves_22 : decode b_Trees_sortLeaves 22 = .ok (.iload_n 2, 1) := by decide +kernel
theorem d_Trees_sortLeaves_23 : decode b_Trees_sortLeaves 23 = .ok (.invokevirtual 72, 3) := by decide +kernel
theorem d_Trees_sortLeaves_26 : decode b_Trees_sortLeaves 26 = .ok (.iinc 2 1, 3) := by decide +kernel
theorem d_Trees_sortLeaves_29 : decode b_Trees_sortLeaves 29 = .ok (.goto (-22), 3) := by decide +kernel
theorem d_Trees_sortLeaves_32 : decode b_Trees_sortLeaves 32 = .ok (.return_, 1) := by decide +kernel
theorem d_Trees_takeLeast_0 : decode b_Trees_takeLeast 0 = .ok (.aload_n 0, 1) := by decide +kernel
theorem d_Trees_takeLeast_1 : decode b_Trees_takeLeast 1 = .ok (.getfield 34, 3) := by decide +kernel
theorem d_Trees_takeLeast_4 : decode b_Trees_takeLeast 4 = .ok (.aload_n 0, 1) := by decide +kernel
theorem d_Trees_takeLeast_5 : decode b_Trees_takeLeast 5 = .ok (.getfield 27, 3) := by decide +kernel
theorem d_Trees_takeLeast_8 : decode b_Trees_takeLeast 8 = .ok (.if_icmp .ge 39, 3) := by decide +kernel
theorem d_Trees_takeLeast_11 : decode b_Trees_takeLeast 11 = .ok (.aload_n 0, 1) := by decide +kernel
theorem d_Trees_takeLeast_12 : decode b_Trees_takeLeast 12 = .ok (.getfield 37, 3) := by decide +kernel
theorem d_Trees_takeLeast_15 : decode b_Trees_takeLeast 15 = .ok (.aload_n 0, 1) := by decide +kernel
theorem d_Trees_takeLeast_16 : decode b_Trees_takeLeast 16 = .ok (.getfield 31, 3) := by decide +kernel
theorem d_Trees_takeLeast_19 : decode b_Trees_takeLeast 19 = .ok (.if_icmp .ge 24, 3) := by decide +kernel
theorem d_Trees_takeLeast_22 : decode b_Trees_takeLeast 22 = .ok (.aload_n 0, 1) := by decide +kernel
theorem d_Trees_takeLeast_23 : decode b_Trees_takeLeast 23 = .ok (.getfield 9, 3) := by decide +kernel
theorem d_Trees_takeLeast_26 : decode b_Trees_takeLeast 26 = .ok (.aload_n 0, 1) := by decide +kernel
theorem d_Trees_takeLeast_27 : decode b_Trees_takeLeast 27 = .ok (.getfield 34, 3) := by decide +kernel
theorem d_Trees_takeLeast_30 : decode b_Trees_takeLeast 30 = .ok (.iaload, 1) := by decide +kernel
theorem d_Trees_takeLeast_31 : decode b_Trees_takeLeast 31 = .ok (.aload_n 0, 1) := by decide +kernel
theorem d_Trees_takeLeast_32 : decode b_Trees_takeLeast 32 = .ok (.getfield 9, 3) := by decide +kernel
theorem d_Trees_takeLeast_35 : decode b_Trees_takeLeast 35 = .ok (.aload_n 0, 1) := by decide +kernel
theorem d_Trees_takeLeast_36 : decode b_Trees_takeLeast 36 = .ok (.getfield 37, 3) := by decide +kernel
theorem d_Trees_takeLeast_39 : decode b_Trees_takeLeast 39 = .ok (.iaload, 1) := by decide +kernel
theorem d_Trees_takeLeast_40 : decode b_Trees_takeLeast 40 = .ok (.if_icmp .gt 7, 3) := by decide +kernel
theorem d_Trees_takeLeast_43 : decode b_Trees_takeLeast 43 = .ok (.iconst 1, 1) := by decide +kernel
theorem d_Trees_takeLeast_44 : decode b_Trees_takeLeast 44 = .ok (.goto 4, 3) := by decide +kernel
theorem d_Trees_takeLeast_47 : decode b_Trees_takeLeast 47 = .ok (.iconst 0, 1) := by decide +kernel
theorem d_Trees_takeLeast_48 : decode b_Trees_takeLeast 48 = .ok (.istore_n 1, 1) := by decide +kernel
theorem d_Trees_takeLeast_49 : decode b_Trees_takeLeast 49 = .ok (.iload_n 1, 1) := by decide +kernel
theorem d_Trees_takeLeast_50 : decode b_Trees_takeLeast 50 = .ok (.ifCond .eq 10, 3) := by decide +kernel
theorem d_Trees_takeLeast_53 : decode b_Trees_takeLeast 53 = .ok (.aload_n 0, 1) := by decide +kernel
theorem d_Trees_takeLeast_54 : decode b_Trees_takeLeast 54 = .ok (.getfield 34, 3) := by decide +kernel
theorem d_Trees_takeLeast_57 : decode b_Trees_takeLeast 57 = .ok (.goto 7, 3) := by decide +kernel
theorem d_Trees_takeLeast_60 : decode b_Trees_takeLeast 60 = .ok (.aload_n 0, 1) := by decide +kernel
theorem d_Trees_takeLeast_61 : decode b_Trees_takeLeast 61 = .ok (.getfield 37, 3) := by decide +kernel
theorem d_Trees_takeLeast_64 : decode b_Trees_takeLeast 64 = .ok (.istore_n 2, 1) := by decide +kernel
theorem d_Trees_takeLeast_65 : decode b_Trees_takeLeast 65 = .ok (.iload_n 1, 1) := by decide +kernel
theorem d_Trees_takeLeast_66 : decode b_Trees_takeLeast 66 = .ok (.ifCond .eq 16, 3) := by decide +kernel
theorem d_Trees_takeLeast_69 : decode b_Trees_takeLeast 69 = .ok (.aload_n 0, 1) := by decide +kernel
theorem d_Trees_takeLeast_70 : decode b_Trees_takeLeast 70 = .ok (.dup, 1) := by decide +kernel
theorem d_Trees_takeLeast_71 : decode b_Trees_takeLeast 71 = .ok (.getfield 34, 3) := by decide +kernel
theorem d_Trees_takeLeast_74 : decode b_Trees_takeLeast 74 = .ok (.iconst 1, 1) := by decide +kernel
theorem d_Trees_takeLeast_75 : decode b_Trees_takeLeast 75 = .ok (.iadd, 1) := by decide +kernel
theorem d_Trees_takeLeast_76 : decode b_Trees_takeLeast 76 = .ok (.putfield 34, 3) := by decide +kernel
theorem d_Trees_takeLeast_79 : decode b_Trees_takeLeast 79 = .ok (.goto 13, 3) := by decide +kernel
theorem d_Trees_takeLeast_82 : decode b_Trees_takeLeast 82 = .ok (.aload_n 0, 1) := by decide +kernel
theorem d_Trees_takeLeast_83 : decode b_Trees_takeLeast 83 = .ok (.dup, 1) := by decide +kernel
theorem d_Trees_takeLeast_84 : decode b_Trees_takeLeast 84 = .ok (.getfield 37, 3) := by decide +kernel
theorem d_Trees_takeLeast_87 : decode b_Trees_takeLeast 87 = .ok (.iconst 1, 1) := by decide +kernel
theorem d_Trees_takeLeast_88 : decode b_Trees_takeLeast 88 = .ok (.iadd, 1) := by decide +kernel
theorem d_Trees_takeLeast_89 : decode b_Trees_takeLeast 89 = .ok (.putfield 37, 3) := by decide +kernel
theorem d_Trees_takeLeast_92 : decode b_Trees_takeLeast 92 = .ok (.iload_n 2, 1) := by decide +kernel
theorem d_Trees_takeLeast_93 : decode b_Trees_takeLeast 93 = .ok (.ireturn, 1) := by decide +kernel
theorem d_Trees_joinAll_0 : decode b_Trees_joinAll 0 = .ok (.aload_n 0, 1) := by decide +kernel
theorem d_Trees_joinAll_1 : decode b_Trees_joinAll 1 = .ok (.aload_n 0, 1) := by decide +kernel
theorem d_Trees_joinAll_2 : decode b_Trees_joinAll 2 = .ok (.getfield 27, 3) := by decide +kernel
theorem d_Trees_joinAll_5 : decode b_Trees_joinAll 5 = .ok (.putfield 31, 3) := by decide +kernel
theorem d_Trees_joinAll_8 : decode b_Trees_joinAll 8 = .ok (.aload_n 0, 1) := by decide +kernel
theorem d_Trees_joinAll_9 : decode b_Trees_joinAll 9 = .ok (.iconst 0, 1) := by decide +kernel
theorem d_Trees_joinAll_10 : decode b_Trees_joinAll 10 = .ok (.putfield 34, 3) := by decide +kernel
theorem d_Trees_joinAll_13 : decode b_Trees_joinAll 13 = .ok (.aload_n 0, 1) := by decide +kernel
theorem d_Trees_joinAll_14 : decode b_Trees_joinAll 14 = .ok (.aload_n 0, 1) := by decide +kernel
theorem d_Trees_joinAll_15 : decode b_Trees_joinAll 15 = .ok (.getfield 27, 3) := by decide +kernel
theorem d_Trees_joinAll_18 : decode b_Trees_joinAll 18 = .ok (.putfield 37, 3) := by decide +kernel
theorem d_Trees_joinAll_21 : decode b_Trees_joinAll 21 = .ok (.iconst 2, 1) := by decide +kernel
theorem d_Trees_joinAll_22 : decode b_Trees_joinAll 22 = .ok (.aload_n 0, 1) := by decide +kernel
theorem d_Trees_joinAll_23 : decode b_Trees_joinAll 23 = .ok (.getfield 27, 3) := by decide +kernel
theorem d_Trees_joinAll_26 : decode b_Trees_joinAll 26 = .ok (.imul, 1) := by decide +kernel
theorem d_Trees_joinAll_27 : decode b_Trees_joinAll 27 = .ok (.iconst 1, 1) := by decide +kernel
theorem d_Trees_joinAll_28 : decode b_Trees_joinAll 28 = .ok (.isub, 1) := by decide +kernel
theorem d_Trees_joinAll_29 : decode b_Trees_joinAll 29 = .ok (.istore_n 1, 1) := by decide +kernel
theorem d_Trees_joinAll_30 : decode b_Trees_joinAll 30 = .ok (.aload_n 0, 1) := by decide +kernel
theorem d_Trees_joinAll_31 : decode b_Trees_joinAll 31 = .ok (.getfield 31, 3) := by decide +kernel
theorem d_Trees_joinAll_34 : decode b_Trees_joinAll 34 = .ok (.iload_n 1, 1) := by decide +kernel
theorem d_Trees_joinAll_35 : decode b_Trees_joinAll 35 = .ok (.if_icmp .ge 68, 3) := by decide +kernel
theorem d_Trees_joinAll_38 : decode b_Trees_joinAll 38 = .ok (.aload_n 0, 1) := by decide +kernel
theorem d_Trees_joinAll_39 : decode b_Trees_joinAll 39 = .ok (.invokevirtual 75, 3) := by decide +kernel
theorem d_Trees_joinAll_42 : decode b_Trees_joinAll 42 = .ok (.istore_n 2, 1) := by decide +kernel
theorem d_Trees_joinAll_43 : decode b_Trees_joinAll 43 = .ok (.aload_n 0, 1) := by decide +kernel
theorem d_Trees_joinAll_44 : decode b_Trees_joinAll 44 = .ok (.invokevirtual 75, 3) := by decide +kernel
theorem d_Trees_joinAll_47 : decode b_Trees_joinAll 47 = .ok (.istore_n 3, 1) := by decide +kernel
theorem d_Trees_joinAll_48 : decode b_Trees_joinAll 48 = .ok (.aload_n 0, 1) := by decide +kernel
theorem d_Trees_joinAll_49 : decode b_Trees_joinAll 49 = .ok (.getfield 9, 3) := by decide +kernel
theorem d_Trees_joinAll_52 : decode b_Trees_joinAll 52 = .ok (.aload_n 0, 1) := by decide +kernel
theorem d_Trees_joinAll_53 : decode b_Trees_joinAll 53 = .ok (.getfield 31, 3) := by decide +kernel
theorem d_Trees_joinAll_56 : decode b_Trees_joinAll 56 = .ok (.aload_n 0, 1) := by decide +kernel
theorem d_Trees_joinAll_57 : decode b_Trees_joinAll 57 = .ok (.getfield 9, 3) := by decide +kernel
theorem d_Trees_joinAll_60 : decode b_Trees_joinAll 60 = .ok (.iload_n 2, 1) := by decide +kernel
theorem d_Trees_joinAll_61 : decode b_Trees_joinAll 61 = .ok (.iaload, 1) := by decide +kernel
theorem d_Trees_joinAll_62 : decode b_Trees_joinAll 62 = .ok (.aload_n 0, 1) := by decide +kernel
theorem d_Trees_joinAll_63 : decode b_Trees_joinAll 63 = .ok (.getfield 9, 3) := by decide +kernel
theorem d_Trees_joinAll_66 : decode b_Trees_joinAll 66 = .ok (.iload_n 3, 1) := by decide +kernel
theorem d_Trees_joinAll_67 : decode b_Trees_joinAll 67 = .ok (.iaload, 1) := by decide +kernel
theorem d_Trees_joinAll_68 : decode b_Trees_joinAll 68 = .ok (.iadd, 1) := by decide +kernel
theorem d_Trees_joinAll_69 : decode b_Trees_joinAll 69 = .ok (.iastore, 1) := by decide +kernel
theorem d_Trees_joinAll_70 : decode b_Trees_joinAll 70 = .ok (.aload_n 0, 1) := by decide +kernel
theorem d_Trees_joinAll_71 : decode b_Trees_joinAll 71 = .ok (.getfield 15, 3) := by decide +kernel
theorem d_Trees_joinAll_74 : decode b_Trees_joinAll 74 = .ok (.iload_n 2, 1) := by decide +kernel
theorem d_Trees_joinAll_75 : decode b_Trees_joinAll 75 = .ok (.aload_n 0, 1) := by decide +kernel
theorem d_Trees_joinAll_76 : decode b_Trees_joinAll 76 = .ok (.getfield 31, 3) := by decide +kernel
theorem d_Trees_joinAll_79 : decode b_Trees_joinAll 79 = .ok (.iastore, 1) := by decide +kernel
theorem d_Trees_joinAll_80 : decode b_Trees_joinAll 80 = .ok (.aload_n 0, 1) := by decide +kernel
theorem d_Trees_joinAll_81 : decode b_Trees_joinAll 81 = .ok (.getfield 15, 3) := by decide +kernel
theorem d_Trees_joinAll_84 : decode b_Trees_joinAll 84 = .ok (.iload_n 3, 1) := by decide +kernel
theorem d_Trees_joinAll_85 : decode b_Trees_joinAll 85 = .ok (.aload_n 0, 1) := by decide +kernel
theorem d_Trees_joinAll_86 : decode b_Trees_joinAll 86 = .ok (.getfield 31, 3) := by decide +kernel
theorem d_Trees_joinAll_89 : decode b_Trees_joinAll 89 = .ok (.iastore, 1) := by decide +kernel
theorem d_Trees_joinAll_90 : decode b_Trees_joinAll 90 = .ok (.aload_n 0, 1) := by decide +kernel
theorem d_Trees_joinAll_91 : decode b_Trees_joinAll 91 = .ok (.dup, 1) := by decide +kernel
theorem d_Trees_joinAll_92 : decode b_Trees_joinAll 92 = .ok (.getfield 31, 3) := by decide +kernel
theorem d_Trees_joinAll_95 : decode b_Trees_joinAll 95 = .ok (.iconst 1, 1) := by decide +kernel
theorem d_Trees_joinAll_96 : decode b_Trees_joinAll 96 = .ok (.iadd, 1) := by decide +kernel
theorem d_Trees_joinAll_97 : decode b_Trees_joinAll 97 = .ok (.putfield 31, 3) := by decide +kernel
theorem d_Trees_joinAll_100 : decode b_Trees_joinAll 100 = .ok (.goto (-70), 3) := by decide +kernel
theorem d_Trees_joinAll_103 : decode b_Trees_joinAll 103 = .ok (.iload_n 1, 1) := by decide +kernel
theorem d_Trees_joinAll_104 : decode b_Trees_joinAll 104 = .ok (.ifCond .le 12, 3) := by decide +kernel
theorem d_Trees_joinAll_107 : decode b_Trees_joinAll 107 = .ok (.aload_n 0, 1) := by decide +kernel
theorem d_Trees_joinAll_108 : decode b_Trees_joinAll 108 = .ok (.getfield 18, 3) := by decide +kernel
theorem d_Trees_joinAll_111 : decode b_Trees_joinAll 111 = .ok (.iload_n 1, 1) := by decide +kernel
theorem d_Trees_joinAll_112 : decode b_Trees_joinAll 112 = .ok (.iconst 1, 1) := by decide +kernel
theorem d_Trees_joinAll_113 : decode b_Trees_joinAll 113 = .ok (.isub, 1) := by decide +kernel
theorem d_Trees_joinAll_114 : decode b_Trees_joinAll 114 = .ok (.iconst 0, 1) := by decide +kernel
theorem d_Trees_joinAll_115 : decode b_Trees_joinAll 115 = .ok (.iastore, 1) := by decide +kernel
theorem d_Trees_joinAll_116 : decode b_Trees_joinAll 116 = .ok (.iload_n 1, 1) := by decide +kernel
theorem d_Trees_joinAll_117 : decode b_Trees_joinAll 117 = .ok (.iconst 2, 1) := by decide +kernel
theorem d_Trees_joinAll_118 : decode b_Trees_joinAll 118 = .ok (.isub, 1) := by decide +kernel
theorem d_Trees_joinAll_119 : decode b_Trees_joinAll 119 = .ok (.istore_n 2, 1) := by decide +kernel
theorem d_Trees_joinAll_120 : decode b_Trees_joinAll 120 = .ok (.iload_n 2, 1) := by decide +kernel
theorem d_Trees_joinAll_121 : decode b_Trees_joinAll 121 = .ok (.ifCond .lt 28, 3) := by decide +kernel
theorem d_Trees_joinAll_124 : decode b_Trees_joinAll 124 = .ok (.aload_n 0, 1) := by decide +kernel
theorem d_Trees_joinAll_125 : decode b_Trees_joinAll 125 = .ok (.getfield 18, 3) := by decide +kernel
theorem d_Trees_joinAll_128 : decode b_Trees_joinAll 128 = .ok (.iload_n 2, 1) := by decide +kernel
theorem d_Trees_joinAll_129 : decode b_Trees_joinAll 129 = .ok (.aload_n 0, 1) := by decide +kernel
theorem d_Trees_joinAll_130 : decode b_Trees_joinAll 130 = .ok (.getfield 18, 3) := by decide +kernel
theorem d_Trees_joinAll_133 : decode b_Trees_joinAll 133 = .ok (.aload_n 0, 1) := by decide +kernel
theorem d_Trees_joinAll_134 : decode b_Trees_joinAll 134 = .ok (.getfield 15, 3) := by decide +kernel
theorem d_Trees_joinAll_137 : decode b_Trees_joinAll 137 = .ok (.iload_n 2, 1) := by decide +kernel
theorem d_Trees_joinAll_138 : decode b_Trees_joinAll 138 = .ok (.iaload, 1) := by decide +kernel
theorem d_Trees_joinAll_139 : decode b_Trees_joinAll 139 = .ok (.iaload, 1) := by decide +kernel
theorem d_Trees_joinAll_140 : decode b_Trees_joinAll 140 = .ok (.iconst 1, 1) := by decide +kernel
theorem d_Trees_joinAll_141 : decode b_Trees_joinAll 141 = .ok (.iadd, 1) := by decide +kernel
theorem d_Trees_joinAll_142 : decode b_Trees_joinAll 142 = .ok (.iastore, 1) := by decide +kernel
theorem d_Trees_joinAll_143 : decode b_Trees_joinAll 143 = .ok (.iinc 2 (-1), 3) := by decide +kernel
theorem d_Trees_joinAll_146 : decode b_Trees_joinAll 146 = .ok (.goto (-26), 3) := by decide +kernel
theorem d_Trees_joinAll_149 : decode b_Trees_joinAll 149 = .ok (.return_, 1) := by decide +kernel
theorem d_Trees_deepest_0 : decode b_Trees_deepest 0 = .ok (.iconst 0, 1) := by decide +kernel
theorem d_Trees_deepest_1 : decode b_Trees_deepest 1 = .ok (.istore_n 1, 1) := by decide +kernel
theorem d_Trees_deepest_2 : decode b_Trees_deepest 2 = .ok (.iconst 0, 1) := by decide +kernel
theorem d_Trees_deepest_3 : decode b_Trees_deepest 3 = .ok (.istore_n 2, 1) := by decide +kernel
theorem d_Trees_deepest_4 : decode b_Trees_deepest 4 = .ok (.iload_n 2, 1) := by decide +kernel
theorem d_Trees_deepest_5 : decode b_Trees_deepest 5 = .ok (.aload_n 0, 1) := by decide +kernel
theorem d_Trees_deepest_6 : decode b_Trees_deepest 6 = .ok (.getfield 27, 3) := by decide +kernel
theorem d_Trees_deepest_9 : decode b_Trees_deepest 9 = .ok (.if_icmp .ge 20, 3) := by decide +kernel
theorem d_Trees_deepest_12 : decode b_Trees_deepest 12 = .ok (.iload_n 1, 1) := by decide +kernel
theorem d_Trees_deepest_13 : decode b_Trees_deepest 13 = .ok (.aload_n 0, 1) := by decide +kernel
theorem d_Trees_deepest_14 : decode b_Trees_deepest 14 = .ok (.getfield 18, 3) := by decide +kernel
theorem d_Trees_deepest_17 : decode b_Trees_deepest 17 = .ok (.iload_n 2, 1) := by decide +kernel
theorem d_Trees_deepest_18 : decode b_Trees_deepest 18 = .ok (.iaload, 1) := by decide +kernel
theorem d_Trees_deepest_19 : decode b_Trees_deepest 19 = .ok (.invokestatic 78, 3) := by decide +kernel
theorem d_Trees_deepest_22 : decode b_Trees_deepest 22 = .ok (.istore_n 1, 1) := by decide +kernel
theorem d_Trees_deepest_23 : decode b_Trees_deepest 23 = .ok (.iinc 2 1, 3) := by decide +kernel
theorem d_Trees_deepest_26 : decode b_Trees_deepest 26 = .ok (.goto (-22), 3) := by decide +kernel
theorem d_Trees_deepest_29 : decode b_Trees_deepest 29 = .ok (.iload_n 1, 1) := by decide +kernel
theorem d_Trees_deepest_30 : decode b_Trees_deepest 30 = .ok (.ireturn, 1) := by decide +kernel
theorem d_Trees_halve_0 : decode b_Trees_halve 0 = .ok (.iconst 0, 1) := by decide +kernel
theorem d_Trees_halve_1 : decode b_Trees_halve 1 = .ok (.istore_n 2, 1) := by decide +kernel
theorem d_Trees_halve_2 : decode b_Trees_halve 2 = .ok (.iload_n 2, 1) := by decide +kernel
theorem d_Trees_halve_3 : decode b_Trees_halve 3 = .ok (.iload_n 1, 1) := by decide +kernel
theorem d_Trees_halve_4 : decode b_Trees_halve 4 = .ok (.if_icmp .ge 25, 3) := by decide +kernel
theorem d_Trees_halve_7 : decode b_Trees_halve 7 = .ok (.aload_n 0, 1) := by decide +kernel
theorem d_Trees_halve_8 : decode b_Trees_halve 8 = .ok (.getfield 24, 3) := by decide +kernel
theorem d_Trees_halve_11 : decode b_Trees_halve 11 = .ok (.iload_n 2, 1) := by decide +kernel
theorem d_Trees_halve_12 : decode b_Trees_halve 12 = .ok (.aload_n 0, 1) := by decide +kernel
theorem d_Trees_halve_13 : decode b_Trees_halve 13 = .ok (.getfield 24, 3) := by decide +kernel
theorem d_Trees_halve_16 : decode b_Trees_halve 16 = .ok (.iload_n 2, 1) := by decide +kernel
theorem d_Trees_halve_17 : decode b_Trees_halve 17 = .ok (.iaload, 1) := by decide +kernel
theorem d_Trees_halve_18 : decode b_Trees_halve 18 = .ok (.iconst 1, 1) := by decide +kernel
theorem d_Trees_halve_19 : decode b_Trees_halve 19 = .ok (.iadd, 1) := by decide +kernel
theorem d_Trees_halve_20 : decode b_Trees_halve 20 = .ok (.iconst 2, 1) := by decide +kernel
theorem d_Trees_halve_21 : decode b_Trees_halve 21 = .ok (.idiv, 1) := by decide +kernel
theorem d_Trees_halve_22 : decode b_Trees_halve 22 = .ok (.iastore, 1) := by decide +kernel
theorem d_Trees_halve_23 : decode b_Trees_halve 23 = .ok (.iinc 2 1, 3) := by decide +kernel
theorem d_Trees_halve_26 : decode b_Trees_halve 26 = .ok (.goto (-24), 3) := by decide +kernel
theorem d_Trees_halve_29 : decode b_Trees_halve 29 = .ok (.return_, 1) := by decide +kernel
theorem d_Trees_findLengths_0 : decode b_Trees_findLengths 0 = .ok (.aload_n 1, 1) := by decide +kernel
theorem d_Trees_findLengths_1 : decode b_Trees_findLengths 1 = .ok (.arraylength, 1) := by decide +kernel
theorem d_Trees_findLengths_2 : decode b_Trees_findLengths 2 = .ok (.aload_n 2, 1) := by decide +kernel
theorem d_Trees_findLengths_3 : decode b_Trees_findLengths 3 = .ok (.arraylength, 1) := by decide +kernel
theorem d_Trees_findLengths_4 : decode b_Trees_findLengths 4 = .ok (.invokestatic 40, 3) := by decide +kernel
theorem d_Trees_findLengths_7 : decode b_Trees_findLengths 7 = .ok (.sipush 286, 3) := by decide +kernel
theorem d_Trees_findLengths_10 : decode b_Trees_findLengths 10 = .ok (.invokestatic 40, 3) := by decide +kernel
theorem d_Trees_findLengths_13 : decode b_Trees_findLengths 13 = .ok (.istore 4, 2) := by decide +kernel
theorem d_Trees_findLengths_15 : decode b_Trees_findLengths 15 = .ok (.aload_n 1, 1) := by decide +kernel
theorem d_Trees_findLengths_16 : decode b_Trees_findLengths 16 = .ok (.iconst 0, 1) := by decide +kernel
theorem d_Trees_findLengths_17 : decode b_Trees_findLengths 17 = .ok (.aload_n 0, 1) := by decide +kernel
theorem d_Trees_findLengths_18 : decode b_Trees_findLengths 18 = .ok (.getfield 24, 3) := by decide +kernel
theorem d_Trees_findLengths_21 : decode b_Trees_findLengths 21 = .ok (.iconst 0, 1) := by decide +kernel
theorem d_Trees_findLengths_22 : decode b_Trees_findLengths 22 = .ok (.iload 4, 2) := by decide +kernel
theorem d_Trees_findLengths_24 : decode b_Trees_findLengths 24 = .ok (.invokestatic 46, 3) := by decide +kernel
theorem d_Trees_findLengths_27 : decode b_Trees_findLengths 27 = .ok (.aload_n 0, 1) := by decide +kernel
theorem d_Trees_findLengths_28 : decode b_Trees_findLengths 28 = .ok (.iload 4, 2) := by decide +kernel
theorem d_Trees_findLengths_30 : decode b_Trees_findLengths 30 = .ok (.invokevirtual 52, 3) := by decide +kernel
theorem d_Trees_findLengths_33 : decode b_Trees_findLengths 33 = .ok (.aload_n 0, 1) := by decide +kernel
theorem d_Trees_findLengths_34 : decode b_Trees_findLengths 34 = .ok (.invokevirtual 56, 3) := by decide +kernel
theorem d_Trees_findLengths_37 : decode b_Trees_findLengths 37 = .ok (.iconst 0, 1) := by decide +kernel
theorem d_Trees_findLengths_38 : decode b_Trees_findLengths 38 = .ok (.istore 5, 2) := by decide +kernel
theorem d_Trees_findLengths_40 : decode b_Trees_findLengths 40 = .ok (.iload 5, 2) := by decide +kernel
theorem d_Trees_findLengths_42 : decode b_Trees_findLengths 42 = .ok (.bipush 32, 2) := by decide +kernel
theorem d_Trees_findLengths_44 : decode b_Trees_findLengths 44 = .ok (.if_icmp .ge 33, 3) := by decide +kernel
theorem d_Trees_findLengths_47 : decode b_Trees_findLengths 47 = .ok (.aload_n 0, 1) := by decide +kernel
theorem d_Trees_findLengths_48 : decode b_Trees_findLengths 48 = .ok (.invokevirtual 59, 3) := by decide +kernel
theorem d_Trees_findLengths_51 : decode b_Trees_findLengths 51 = .ok (.iload_n 3, 1) := by decide +kernel
theorem d_Trees_findLengths_52 : decode b_Trees_findLengths 52 = .ok (.if_icmp .le 25, 3) := by decide +kernel
theorem d_Trees_findLengths_55 : decode b_Trees_findLengths 55 = .ok (.aload_n 0, 1) := by decide +kernel
theorem d_Trees_findLengths_56 : decode b_Trees_findLengths 56 = .ok (.iload 4, 2) := by decide +kernel
theorem d_Trees_findLengths_58 : decode b_Trees_findLengths 58 = .ok (.invokevirtual 63, 3) := by decide +kernel
theorem d_Trees_findLengths_61 : decode b_Trees_findLengths 61 = .ok (.aload_n 0, 1) := by decide +kernel
theorem d_Trees_findLengths_62 : decode b_Trees_findLengths 62 = .ok (.iload 4, 2) := by decide +kernel
theorem d_Trees_findLengths_64 : decode b_Trees_findLengths 64 = .ok (.invokevirtual 52, 3) := by decide +kernel
theorem d_Trees_findLengths_67 : decode b_Trees_findLengths 67 = .ok (.aload_n 0, 1) := by decide +kernel
theorem d_Trees_findLengths_68 : decode b_Trees_findLengths 68 = .ok (.invokevirtual 56, 3) := by decide +kernel
theorem d_Trees_findLengths_71 : decode b_Trees_findLengths 71 = .ok (.iinc 5 1, 3) := by decide +kernel
theorem d_Trees_findLengths_74 : decode b_Trees_findLengths 74 = .ok (.goto (-34), 3) := by decide +kernel
theorem d_Trees_findLengths_77 : decode b_Trees_findLengths 77 = .ok (.aload_n 2, 1) := by decide +kernel
theorem d_Trees_findLengths_78 : decode b_Trees_findLengths 78 = .ok (.iconst 0, 1) := by decide +kernel
theorem d_Trees_findLengths_79 : decode b_Trees_findLengths 79 = .ok (.invokestatic 66, 3) := by decide +kernel
theorem d_Trees_findLengths_82 : decode b_Trees_findLengths 82 = .ok (.iconst 0, 1) := by decide +kernel
theorem d_Trees_findLengths_83 : decode b_Trees_findLengths 83 = .ok (.istore 5, 2) := by decide +kernel
theorem d_Trees_findLengths_85 : decode b_Trees_findLengths 85 = .ok (.iload 5, 2) := by decide +kernel
theorem d_Trees_findLengths_87 : decode b_Trees_findLengths 87 = .ok (.aload_n 0, 1) := by decide +kernel
theorem d_Trees_findLengths_88 : decode b_Trees_findLengths 88 = .ok (.getfield 27, 3) := by decide +kernel
theorem d_Trees_findLengths_91 : decode b_Trees_findLengths 91 = .ok (.if_icmp .ge 37, 3) := by decide +kernel
theorem d_Trees_findLengths_94 : decode b_Trees_findLengths 94 = .ok (.aload_n 2, 1) := by decide +kernel
theorem d_Trees_findLengths_95 : decode b_Trees_findLengths 95 = .ok (.aload_n 0, 1) := by decide +kernel
theorem d_Trees_findLengths_96 : decode b_Trees_findLengths 96 = .ok (.getfield 21, 3) := by decide +kernel
theorem d_Trees_findLengths_99 : decode b_Trees_findLengths 99 = .ok (.iload 5, 2) := by decide +kernel
theorem d_Trees_findLengths_101 : decode b_Trees_findLengths 101 = .ok (.iaload, 1) := by decide +kernel
theorem d_Trees_findLengths_102 : decode b_Trees_findLengths 102 = .ok (.aload_n 0, 1) := by decide +kernel
theorem d_Trees_findLengths_103 : decode b_Trees_findLengths 103 = .ok (.getfield 27, 3) := by decide +kernel
theorem d_Trees_findLengths_106 : decode b_Trees_findLengths 106 = .ok (.iconst 1, 1) := by decide +kernel
theorem d_Trees_findLengths_107 : decode b_Trees_findLengths 107 = .ok (.if_icmp .ne 7, 3) := by decide +kernel
theorem d_Trees_findLengths_110 : decode b_Trees_findLengths 110 = .ok (.iconst 1, 1) := by decide +kernel
theorem d_Trees_findLengths_111 : decode b_Trees_findLengths 111 = .ok (.goto 10, 3) := by decide +kernel
theorem d_Trees_findLengths_114 : decode b_Trees_findLengths 114 = .ok (.aload_n 0, 1) := by decide +kernel
theorem d_Trees_findLengths_115 : decode b_Trees_findLengths 115 = .ok (.getfield 18, 3) := by decide +kernel
theorem d_Trees_findLengths_118 : decode b_Trees_findLengths 118 = .ok (.iload 5, 2) := by decide +kernel
theorem d_Trees_findLengths_120 : decode b_Trees_findLengths 120 = .ok (.iaload, 1) := by decide +kernel
theorem d_Trees_findLengths_121 : decode b_Trees_findLengths 121 = .ok (.iastore, 1) := by decide +kernel
theorem d_Trees_findLengths_122 : decode b_Trees_findLengths 122 = .ok (.iinc 5 1, 3) := by decide +kernel
theorem d_Trees_findLengths_125 : decode b_Trees_findLengths 125 = .ok (.goto (-40), 3) := by decide +kernel
theorem d_Trees_findLengths_128 : decode b_Trees_findLengths 128 = .ok (.return_, 1) := by decide +kernel
/-! PackedBytes$Trees.insertLeaf(I)V -/
def fTrees_insertLeaf_5 (N : Nat) (x1 : Int32) (f_t_shrunk : Nat → Int32) : Nat → (Int32) → (Nat → Int32) → (Nat → Int32) → Option (Int32 × (Nat → Int32) × (Nat → Int32))
  | 0, _, _, _ => none
  | k + 1, x2, f_t_weights, f_t_leafSymbols =>
    if x2 ≤ 0 then
      some (x2, f_t_weights, f_t_leafSymbols)
    else
      if ¬ ((x2 - (1 : Int32)) < 0 ∨ 572 ≤ (x2 - (1 : Int32)).toNatClampNeg) then
        if ¬ (x1 < 0 ∨ 286 ≤ x1.toNatClampNeg) then
          if (f_t_weights (x2 - (1 : Int32)).toNatClampNeg) ≤ (f_t_shrunk x1.toNatClampNeg) then
            some (x2, f_t_weights, f_t_leafSymbols)
          else
            if ¬ ((x2 - (1 : Int32)) < 0 ∨ 572 ≤ (x2 - (1 : Int32)).toNatClampNeg) then
              if ¬ (x2 < 0 ∨ 572 ≤ x2.toNatClampNeg) then
                if ¬ ((x2 - (1 : Int32)) < 0 ∨ 286 ≤ (x2 - (1 : Int32)).toNatClampNeg) then
                  if ¬ (x2 < 0 ∨ 286 ≤ x2.toNatClampNeg) then
                    fTrees_insertLeaf_5 N x1 f_t_shrunk k (x2 + (-1 : Int32)) (upd f_t_weights x2.toNatClampNeg (f_t_weights (x2 - (1 : Int32)).toNatClampNeg)) (upd f_t_leafSymbols x2.toNatClampNeg (f_t_leafSymbols (x2 - (1 : Int32)).toNatClampNeg))
                  else none
                else none
              else none
            else none
        else none
      else none
def fTrees_insertLeaf (N : Nat) (p1 : Int32) (v_t_leaves : Int32) (f_t_weights : Nat → Int32) (f_t_shrunk : Nat → Int32) (f_t_leafSymbols : Nat → Int32) : Option (Int32 × (Nat → Int32) × (Nat → Int32)) :=
    (fTrees_insertLeaf_5 N p1 f_t_shrunk N v_t_leaves f_t_weights f_t_leafSymbols).bind (fun y9 =>
      if ¬ (p1 < 0 ∨ 286 ≤ p1.toNatClampNeg) then
        if ¬ (y9.1 < 0 ∨ 572 ≤ y9.1.toNatClampNeg) then
          if ¬ (y9.1 < 0 ∨ 286 ≤ y9.1.toNatClampNeg) then
            some (v_t_leaves + (1 : Int32), upd y9.2.1 y9.1.toNatClampNeg (f_t_shrunk p1.toNatClampNeg), upd y9.2.2 y9.1.toNatClampNeg p1)
          else none
        else none
      else none)
set_option maxHeartbeats 4000000 in
set_option maxRecDepth 100000 in
theorem wTrees_insertLeaf_5 {p : Program} {l : Launch} {e : Env} {s : State} {m : MethodId} {args : Array Value} {below : List Frame} {meth : Method} {c : Code} {Q : State → Prop} {A : Nat → Prop} {dC : Nat → ClassId} {dI : Nat → Nat → Nat} (h_t h_t_weights h_t_parents h_t_depths h_t_leafSymbols h_t_shrunk : Nat) (cB cI cJ : ClassId) (N : Nat) (v_t_leaves : Int32) (v_t_made : Int32) (v_t_nextLeaf : Int32) (v_t_nextJoined : Int32) (f_t_shrunk : Nat → Int32) (x1 : Int32) (C : CX p s m args c b_Trees_insertLeaf 3 R_Trees A (dC, dI) [(cB, .byte), (cI, .int), (cJ, .long)]) :
    ∀ (n : Nat) (x2 : Int32) (f_t_weights : Nat → Int32) (f_t_leafSymbols : Nat → Int32) (H : Heap) (locs : List Loc) (ls : Array Slot) (o : Int32 × (Nat → Int32) × (Nat → Int32)), va_P (dC, dI) vwCl [(h_t, .inr (8, [.ref h_t_weights, .ref h_t_parents, .ref h_t_depths, .ref h_t_leafSymbols, .ref h_t_shrunk, .int v_t_leaves, .int v_t_made, .int v_t_nextLeaf, .int v_t_nextJoined])), (h_t_weights, .inl (cI, 572, .inl f_t_weights)), (h_t_shrunk, .inl (cI, 286, .inl f_t_shrunk)), (h_t_leafSymbols, .inl (cI, 286, .inl f_t_leafSymbols))] H → va_D A [(h_t, .inr (8, [.ref h_t_weights, .ref h_t_parents, .ref h_t_depths, .ref h_t_leafSymbols, .ref h_t_shrunk, .int v_t_leaves, .int v_t_made, .int v_t_nextLeaf, .int v_t_nextJoined])), (h_t_weights, .inl (cI, 572, .inl f_t_weights)), (h_t_shrunk, .inl (cI, 286, .inl f_t_shrunk)), (h_t_leafSymbols, .inl (cI, 286, .inl f_t_leafSymbols))] → va_S A s.heap H locs → lv_has ls 3 [(0, .ref h_t), (1, .int x1), (2, .int x2)] → fTrees_insertLeaf_5 N x1 f_t_shrunk n x2 f_t_weights f_t_leafSymbols = some o → (∀ (H : Heap) (locs : List Loc) (ls : Array Slot), va_P (dC, dI) vwCl [(h_t, .inr (8, [.ref h_t_weights, .ref h_t_parents, .ref h_t_depths, .ref h_t_leafSymbols, .ref h_t_shrunk, .int v_t_leaves, .int v_t_made, .int v_t_nextLeaf, .int v_t_nextJoined])), (h_t_weights, .inl (cI, 572, .inl o.2.1)), (h_t_shrunk, .inl (cI, 286, .inl f_t_shrunk)), (h_t_leafSymbols, .inl (cI, 286, .inl o.2.2))] H → va_D A [(h_t, .inr (8, [.ref h_t_weights, .ref h_t_parents, .ref h_t_depths, .ref h_t_leafSymbols, .ref h_t_shrunk, .int v_t_leaves, .int v_t_made, .int v_t_nextLeaf, .int v_t_nextJoined])), (h_t_weights, .inl (cI, 572, .inl o.2.1)), (h_t_shrunk, .inl (cI, 286, .inl f_t_shrunk)), (h_t_leafSymbols, .inl (cI, 286, .inl o.2.2))] → va_S A s.heap H locs → lv_has ls 3 [(0, .ref h_t), (1, .int x1), (2, .int o.1)] → W p l e ({ frames := 0, cells := 0, slots := 0, locals := 0 } : Room) s m args below meth c H locs 0 0 Q (F0 m 60 ls [])) → W p l e ({ frames := 0, cells := 0, slots := 0, locals := 0 } : Room) s m args below meth c H locs 0 0 Q (F0 m 5 ls []) := by
  obtain ⟨hx, hb, hml, hown, ht, hA, hK, hN⟩ := id C
  intro n
  induction n with
  | zero => intro x2 f_t_weights f_t_leafSymbols H locs ls o _ _ _ _ h; exact nomatch h
  | succ k ih =>
    intro x2 f_t_weights f_t_leafSymbols H locs ls o hP hD hS hl h kx
    refine lv_iload_n hx hb d_Trees_insertLeaf_5 rfl (lv_at hl 2 rfl) ?_
    refine lv_if_le (tgt := 60) hx hb d_Trees_insertLeaf_6 (by decide) (fun c1 => ?_) (fun c1 => ?_)
    · replace h := ip_p c1 h
      obtain rfl := Option.some.inj h
      exact kx _ _ _ hP hD hS (lv_sub hl [0, 1, 2] rfl)
    · replace h := ip_n c1 h
      refine lv_aload_n hx hb d_Trees_insertLeaf_9 rfl (lv_at hl 0 rfl) ?_
      refine va_get (D := (dC, dI)) (ci := 8) (v := .ref h_t_weights) (C := R_Trees) (T := F_Trees) (N := 9) hx hb ht in_Trees hown hK hP 0 rfl rfl 0 (by decide) (ht _ k_132) (fun _ h9 => h9) rfl d_Trees_insertLeaf_10 ?_
      refine lv_iload_n hx hb d_Trees_insertLeaf_13 rfl (lv_at hl 2 rfl) ?_
      refine lv_iconst (v := (1 : Int32)) hx hb d_Trees_insertLeaf_14 (by decide) ?_
      refine lv_isub hx hb d_Trees_insertLeaf_15 ?_
      obtain ⟨g2, h⟩ := gd h
      refine va_iald hx hb hK hP 1 1 rfl rfl g2 d_Trees_insertLeaf_16 ?_
      refine lv_aload_n hx hb d_Trees_insertLeaf_17 rfl (lv_at hl 0 rfl) ?_
      refine va_get (D := (dC, dI)) (ci := 8) (v := .ref h_t_shrunk) (C := R_Trees) (T := F_Trees) (N := 9) hx hb ht in_Trees hown hK hP 0 rfl rfl 4 (by decide) (ht _ k_136) (fun _ h9 => h9) rfl d_Trees_insertLeaf_18 ?_
      refine lv_iload_n hx hb d_Trees_insertLeaf_21 rfl (lv_at hl 1 rfl) ?_
      obtain ⟨g3, h⟩ := gd h
      refine va_iald hx hb hK hP 2 1 rfl rfl g3 d_Trees_insertLeaf_22 ?_
      refine lv_icmp_le (tgt := 60) hx hb d_Trees_insertLeaf_23 (by decide) (fun c4 => ?_) (fun c4 => ?_)
      · replace h := ip_p c4 h
        obtain rfl := Option.some.inj h
        exact kx _ _ _ hP hD hS (lv_sub hl [0, 1, 2] rfl)
      · replace h := ip_n c4 h
        refine lv_aload_n hx hb d_Trees_insertLeaf_26 rfl (lv_at hl 0 rfl) ?_
        refine va_get (D := (dC, dI)) (ci := 8) (v := .ref h_t_weights) (C := R_Trees) (T := F_Trees) (N := 9) hx hb ht in_Trees hown hK hP 0 rfl rfl 0 (by decide) (ht _ k_132) (fun _ h9 => h9) rfl d_Trees_insertLeaf_27 ?_
        refine lv_iload_n hx hb d_Trees_insertLeaf_30 rfl (lv_at hl 2 rfl) ?_
        refine lv_aload_n hx hb d_Trees_insertLeaf_31 rfl (lv_at hl 0 rfl) ?_
        refine va_get (D := (dC, dI)) (ci := 8) (v := .ref h_t_weights) (C := R_Trees) (T := F_Trees) (N := 9) hx hb ht in_Trees hown hK hP 0 rfl rfl 0 (by decide) (ht _ k_132) (fun _ h9 => h9) rfl d_Trees_insertLeaf_32 ?_
        refine lv_iload_n hx hb d_Trees_insertLeaf_35 rfl (lv_at hl 2 rfl) ?_
        refine lv_iconst (v := (1 : Int32)) hx hb d_Trees_insertLeaf_36 (by decide) ?_
        refine lv_isub hx hb d_Trees_insertLeaf_37 ?_
        obtain ⟨g5, h⟩ := gd h
        refine va_iald hx hb hK hP 1 1 rfl rfl g5 d_Trees_insertLeaf_38 ?_
        obtain ⟨g6, h⟩ := gd h
        refine va_iast hx hb hK hP hD hS 1 1 rfl rfl g6 d_Trees_insertLeaf_39 (fun H locs hP hD hS => ?_)
        have hP : va_P (dC, dI) vwCl [(h_t, .inr (8, [.ref h_t_weights, .ref h_t_parents, .ref h_t_depths, .ref h_t_leafSymbols, .ref h_t_shrunk, .int v_t_leaves, .int v_t_made, .int v_t_nextLeaf, .int v_t_nextJoined])), (h_t_weights, .inl (cI, 572, .inl (upd f_t_weights x2.toNatClampNeg (f_t_weights (x2 - (1 : Int32)).toNatClampNeg)))), (h_t_shrunk, .inl (cI, 286, .inl f_t_shrunk)), (h_t_leafSymbols, .inl (cI, 286, .inl f_t_leafSymbols))] H := hP
        have hD : va_D A [(h_t, .inr (8, [.ref h_t_weights, .ref h_t_parents, .ref h_t_depths, .ref h_t_leafSymbols, .ref h_t_shrunk, .int v_t_leaves, .int v_t_made, .int v_t_nextLeaf, .int v_t_nextJoined])), (h_t_weights, .inl (cI, 572, .inl (upd f_t_weights x2.toNatClampNeg (f_t_weights (x2 - (1 : Int32)).toNatClampNeg)))), (h_t_shrunk, .inl (cI, 286, .inl f_t_shrunk)), (h_t_leafSymbols, .inl (cI, 286, .inl f_t_leafSymbols))] := hD
        refine lv_aload_n hx hb d_Trees_insertLeaf_40 rfl (lv_at hl 0 rfl) ?_
        refine va_get (D := (dC, dI)) (ci := 8) (v := .ref h_t_leafSymbols) (C := R_Trees) (T := F_Trees) (N := 9) hx hb ht in_Trees hown hK hP 0 rfl rfl 3 (by decide) (ht _ k_135) (fun _ h9 => h9) rfl d_Trees_insertLeaf_41 ?_
        refine lv_iload_n hx hb d_Trees_insertLeaf_44 rfl (lv_at hl 2 rfl) ?_
        refine lv_aload_n hx hb d_Trees_insertLeaf_45 rfl (lv_at hl 0 rfl) ?_
        refine va_get (D := (dC, dI)) (ci := 8) (v := .ref h_t_leafSymbols) (C := R_Trees) (T := F_Trees) (N := 9) hx hb ht in_Trees hown hK hP 0 rfl rfl 3 (by decide) (ht _ k_135) (fun _ h9 => h9) rfl d_Trees_insertLeaf_46 ?_
        refine lv_iload_n hx hb d_Trees_insertLeaf_49 rfl (lv_at hl 2 rfl) ?_
        refine lv_iconst (v := (1 : Int32)) hx hb d_Trees_insertLeaf_50 (by decide) ?_
        refine lv_isub hx hb d_Trees_insertLeaf_51 ?_
        obtain ⟨g7, h⟩ := gd h
        refine va_iald hx hb hK hP 3 1 rfl rfl g7 d_Trees_insertLeaf_52 ?_
        obtain ⟨g8, h⟩ := gd h
        refine va_iast hx hb hK hP hD hS 3 1 rfl rfl g8 d_Trees_insertLeaf_53 (fun H locs hP hD hS => ?_)
        have hP : va_P (dC, dI) vwCl [(h_t, .inr (8, [.ref h_t_weights, .ref h_t_parents, .ref h_t_depths, .ref h_t_leafSymbols, .ref h_t_shrunk, .int v_t_leaves, .int v_t_made, .int v_t_nextLeaf, .int v_t_nextJoined])), (h_t_weights, .inl (cI, 572, .inl (upd f_t_weights x2.toNatClampNeg (f_t_weights (x2 - (1 : Int32)).toNatClampNeg)))), (h_t_shrunk, .inl (cI, 286, .inl f_t_shrunk)), (h_t_leafSymbols, .inl (cI, 286, .inl (upd f_t_leafSymbols x2.toNatClampNeg (f_t_leafSymbols (x2 - (1 : Int32)).toNatClampNeg))))] H := hP
        have hD : va_D A [(h_t, .inr (8, [.ref h_t_weights, .ref h_t_parents, .ref h_t_depths, .ref h_t_leafSymbols, .ref h_t_shrunk, .int v_t_leaves, .int v_t_made, .int v_t_nextLeaf, .int v_t_nextJoined])), (h_t_weights, .inl (cI, 572, .inl (upd f_t_weights x2.toNatClampNeg (f_t_weights (x2 - (1 : Int32)).toNatClampNeg)))), (h_t_shrunk, .inl (cI, 286, .inl f_t_shrunk)), (h_t_leafSymbols, .inl (cI, 286, .inl (upd f_t_leafSymbols x2.toNatClampNeg (f_t_leafSymbols (x2 - (1 : Int32)).toNatClampNeg))))] := hD
        refine lv_iinc (v := x2 + (-1 : Int32)) (lv' := [(2, .int (x2 + (-1 : Int32))), (0, .ref h_t), (1, .int x1)]) hx hb d_Trees_insertLeaf_54 hl (k := 2) rfl rfl (by decide) rfl (fun ls hl => ?_)
        refine lv_goto (tgt := 5) hx hb d_Trees_insertLeaf_57 (by decide) ?_
        exact ih (x2 + (-1 : Int32)) (upd f_t_weights x2.toNatClampNeg (f_t_weights (x2 - (1 : Int32)).toNatClampNeg)) (upd f_t_leafSymbols x2.toNatClampNeg (f_t_leafSymbols (x2 - (1 : Int32)).toNatClampNeg)) _ _ _ _ hP hD hS (lv_sub hl [1, 2, 0] rfl) h kx
set_option maxHeartbeats 4000000 in
set_option maxRecDepth 100000 in
theorem cTrees_insertLeaf (l : Launch) (dC : Nat → ClassId) (dI : Nat → Nat → Nat) (h_t h_t_weights h_t_parents h_t_depths h_t_leafSymbols h_t_shrunk : Nat) (cB cI cJ : ClassId) (sz : Nat) (N : Nat) (p1 : Int32) (v_t_leaves : Int32) (v_t_made : Int32) (v_t_nextLeaf : Int32) (v_t_nextJoined : Int32) (f_t_weights : Nat → Int32) (f_t_shrunk : Nat → Int32) (f_t_leafSymbols : Nat → Int32) (o : Int32 × (Nat → Int32) × (Nat → Int32)) (h : fTrees_insertLeaf N p1 v_t_leaves f_t_weights f_t_shrunk f_t_leafSymbols = some o) : Met l y_Trees_insertLeaf w_Trees_insertLeaf ({ frames := 0, cells := 0, slots := 0, locals := 0 } : Room) (va_Pc [.ref h_t, .int p1] (fun U => U.heap.size = sz ∧ va_P (dC, dI) vwCl [(h_t, .inr (8, [.ref h_t_weights, .ref h_t_parents, .ref h_t_depths, .ref h_t_leafSymbols, .ref h_t_shrunk, .int v_t_leaves, .int v_t_made, .int v_t_nextLeaf, .int v_t_nextJoined])), (h_t_weights, .inl (cI, 572, .inl f_t_weights)), (h_t_shrunk, .inl (cI, 286, .inl f_t_shrunk)), (h_t_leafSymbols, .inl (cI, 286, .inl f_t_leafSymbols))] U.heap ∧ va_K (dC, dI) vwCl [(cB, .byte), (cI, .int), (cJ, .long)] U ∧ va_D (fun _ => True) [(h_t, .inr (8, [.ref h_t_weights, .ref h_t_parents, .ref h_t_depths, .ref h_t_leafSymbols, .ref h_t_shrunk, .int v_t_leaves, .int v_t_made, .int v_t_nextLeaf, .int v_t_nextJoined])), (h_t_weights, .inl (cI, 572, .inl f_t_weights)), (h_t_shrunk, .inl (cI, 286, .inl f_t_shrunk)), (h_t_leafSymbols, .inl (cI, 286, .inl f_t_leafSymbols))] ∧ NW U)) (va_Qv (fun _ : Unit => True) (fun _ t => va_P (dC, dI) vwCl [(h_t, .inr (8, [.ref h_t_weights, .ref h_t_parents, .ref h_t_depths, .ref h_t_leafSymbols, .ref h_t_shrunk, .int o.1, .int v_t_made, .int v_t_nextLeaf, .int v_t_nextJoined])), (h_t_weights, .inl (cI, 572, .inl o.2.1)), (h_t_shrunk, .inl (cI, 286, .inl f_t_shrunk)), (h_t_leafSymbols, .inl (cI, 286, .inl o.2.2))] t.heap ∧ va_K (dC, dI) vwCl [(cB, .byte), (cI, .int), (cJ, .long)] t ∧ va_D (va_A [(h_t, .inr (8, [.ref h_t_weights, .ref h_t_parents, .ref h_t_depths, .ref h_t_leafSymbols, .ref h_t_shrunk, .int v_t_leaves, .int v_t_made, .int v_t_nextLeaf, .int v_t_nextJoined])), (h_t_weights, .inl (cI, 572, .inl f_t_weights)), (h_t_shrunk, .inl (cI, 286, .inl f_t_shrunk)), (h_t_leafSymbols, .inl (cI, 286, .inl f_t_leafSymbols))] sz) [(h_t, .inr (8, [.ref h_t_weights, .ref h_t_parents, .ref h_t_depths, .ref h_t_leafSymbols, .ref h_t_shrunk, .int o.1, .int v_t_made, .int v_t_nextLeaf, .int v_t_nextJoined])), (h_t_weights, .inl (cI, 572, .inl o.2.1)), (h_t_shrunk, .inl (cI, 286, .inl f_t_shrunk)), (h_t_leafSymbols, .inl (cI, 286, .inl o.2.2))]) (va_A [(h_t, .inr (8, [.ref h_t_weights, .ref h_t_parents, .ref h_t_depths, .ref h_t_leafSymbols, .ref h_t_shrunk, .int v_t_leaves, .int v_t_made, .int v_t_nextLeaf, .int v_t_nextJoined])), (h_t_weights, .inl (cI, 572, .inl f_t_weights)), (h_t_shrunk, .inl (cI, 286, .inl f_t_shrunk)), (h_t_leafSymbols, .inl (cI, 286, .inl f_t_leafSymbols))] sz)) 0 0 (va_A [(h_t, .inr (8, [.ref h_t_weights, .ref h_t_parents, .ref h_t_depths, .ref h_t_leafSymbols, .ref h_t_shrunk, .int v_t_leaves, .int v_t_made, .int v_t_nextLeaf, .int v_t_nextJoined])), (h_t_weights, .inl (cI, 572, .inl f_t_weights)), (h_t_shrunk, .inl (cI, 286, .inl f_t_shrunk)), (h_t_leafSymbols, .inl (cI, 286, .inl f_t_leafSymbols))] sz) := by
  refine Met.ofW (cc := b_Trees_insertLeaf) (maxL := 3) (ret := none) (by decide) rfl ?_
  intro p e s m args below meth c s₁ B hml hv
  obtain ⟨rfl, hsz, hP, hK, hD0, hN⟩ := hv
  have hx := B.exec
  have hb := B.bytes
  have hr := B.returns
  have hts := atoms_spec (ws := w_Trees_insertLeaf) B.pre
  have ht : ∀ w ∈ TB, w.before ([.ref h_t, .int p1]).toArray s = true := fun w h => hts w (List.mem_cons_of_mem _ h)
  have hown : s.vm.findClass R_Trees = some m.cls := findClass_of_methodNamed B.named
  have hlocks := B.notSynchronized
  subst hsz
  have hD := hD0.self (sz := s.heap.size)
  generalize hAe : va_A [(h_t, .inr (8, [.ref h_t_weights, .ref h_t_parents, .ref h_t_depths, .ref h_t_leafSymbols, .ref h_t_shrunk, .int v_t_leaves, .int v_t_made, .int v_t_nextLeaf, .int v_t_nextJoined])), (h_t_weights, .inl (cI, 572, .inl f_t_weights)), (h_t_shrunk, .inl (cI, 286, .inl f_t_shrunk)), (h_t_leafSymbols, .inl (cI, 286, .inl f_t_leafSymbols))] s.heap.size = A at hD ⊢
  have hA : ∀ q : Nat, s.heap.size ≤ q → A q := fun q h => by rw [← hAe]; exact Or.inr h
  have hS : va_S A s.heap s.heap [] := va_S.rf
  have hP : va_P (dC, dI) vwCl [(h_t, .inr (8, [.ref h_t_weights, .ref h_t_parents, .ref h_t_depths, .ref h_t_leafSymbols, .ref h_t_shrunk, .int v_t_leaves, .int v_t_made, .int v_t_nextLeaf, .int v_t_nextJoined])), (h_t_weights, .inl (cI, 572, .inl f_t_weights)), (h_t_shrunk, .inl (cI, 286, .inl f_t_shrunk)), (h_t_leafSymbols, .inl (cI, 286, .inl f_t_leafSymbols))] s.heap := hP
  have C : CX p s m ([.ref h_t, .int p1]).toArray c b_Trees_insertLeaf 3 R_Trees A (dC, dI) [(cB, .byte), (cI, .int), (cJ, .long)] := ⟨hx, hb, hml, hown, ht, hA, hK, hN⟩
  have hl := lv_entry ([.ref h_t, .int p1]) (n := 3) (Nat.le_of_ble_eq_true rfl)
  rw [lg_entry_eq]
  generalize (lg_sl ([.ref h_t, .int p1]) ++ List.replicate (3 - (lg_sl ([.ref h_t, .int p1])).length) Slot.unset).toArray = ls at hl ⊢
  have hl : lv_has ls 3 [(0, .ref h_t), (1, .int p1)] := hl
  refine lv_aload_n hx hb d_Trees_insertLeaf_0 rfl (lv_at hl 0 rfl) ?_
  refine va_get (D := (dC, dI)) (ci := 8) (v := .int v_t_leaves) (C := R_Trees) (T := F_Trees) (N := 9) hx hb ht in_Trees hown hK hP 0 rfl rfl 5 (by decide) (ht _ k_137) (fun _ h9 => h9) rfl d_Trees_insertLeaf_1 ?_
  refine lv_istore_n (lv' := [(2, .int v_t_leaves), (0, .ref h_t), (1, .int p1)]) hx hb d_Trees_insertLeaf_4 rfl hl (by decide) rfl (fun ls hl => ?_)
  obtain ⟨y9, hy9, h⟩ := bd h
  refine wTrees_insertLeaf_5 h_t h_t_weights h_t_parents h_t_depths h_t_leafSymbols h_t_shrunk cB cI cJ N v_t_leaves v_t_made v_t_nextLeaf v_t_nextJoined f_t_shrunk p1 C N v_t_leaves f_t_weights f_t_leafSymbols _ _ _ _ hP hD hS (lv_sub hl [1, 2, 0] rfl) hy9 (fun H locs ls hP hD hS hl => ?_)
  refine lv_aload_n hx hb d_Trees_insertLeaf_60 rfl (lv_at hl 0 rfl) ?_
  refine va_get (D := (dC, dI)) (ci := 8) (v := .ref h_t_weights) (C := R_Trees) (T := F_Trees) (N := 9) hx hb ht in_Trees hown hK hP 0 rfl rfl 0 (by decide) (ht _ k_132) (fun _ h9 => h9) rfl d_Trees_insertLeaf_61 ?_
  refine lv_iload_n hx hb d_Trees_insertLeaf_64 rfl (lv_at hl 2 rfl) ?_
  refine lv_aload_n hx hb d_Trees_insertLeaf_65 rfl (lv_at hl 0 rfl) ?_
  refine va_get (D := (dC, dI)) (ci := 8) (v := .ref h_t_shrunk) (C := R_Trees) (T := F_Trees) (N := 9) hx hb ht in_Trees hown hK hP 0 rfl rfl 4 (by decide) (ht _ k_136) (fun _ h9 => h9) rfl d_Trees_insertLeaf_66 ?_
  refine lv_iload_n hx hb d_Trees_insertLeaf_69 rfl (lv_at hl 1 rfl) ?_
  obtain ⟨g10, h⟩ := gd h
  refine va_iald hx hb hK hP 2 1 rfl rfl g10 d_Trees_insertLeaf_70 ?_
  obtain ⟨g11, h⟩ := gd h
  refine va_iast hx hb hK hP hD hS 1 1 rfl rfl g11 d_Trees_insertLeaf_71 (fun H locs hP hD hS => ?_)
  have hP : va_P (dC, dI) vwCl [(h_t, .inr (8, [.ref h_t_weights, .ref h_t_parents, .ref h_t_depths, .ref h_t_leafSymbols, .ref h_t_shrunk, .int v_t_leaves, .int v_t_made, .int v_t_nextLeaf, .int v_t_nextJoined])), (h_t_weights, .inl (cI, 572, .inl (upd y9.2.1 y9.1.toNatClampNeg (f_t_shrunk p1.toNatClampNeg)))), (h_t_shrunk, .inl (cI, 286, .inl f_t_shrunk)), (h_t_leafSymbols, .inl (cI, 286, .inl y9.2.2))] H := hP
  have hD : va_D A [(h_t, .inr (8, [.ref h_t_weights, .ref h_t_parents, .ref h_t_depths, .ref h_t_leafSymbols, .ref h_t_shrunk, .int v_t_leaves, .int v_t_made, .int v_t_nextLeaf, .int v_t_nextJoined])), (h_t_weights, .inl (cI, 572, .inl (upd y9.2.1 y9.1.toNatClampNeg (f_t_shrunk p1.toNatClampNeg)))), (h_t_shrunk, .inl (cI, 286, .inl f_t_shrunk)), (h_t_leafSymbols, .inl (cI, 286, .inl y9.2.2))] := hD
  refine lv_aload_n hx hb d_Trees_insertLeaf_72 rfl (lv_at hl 0 rfl) ?_
  refine va_get (D := (dC, dI)) (ci := 8) (v := .ref h_t_leafSymbols) (C := R_Trees) (T := F_Trees) (N := 9) hx hb ht in_Trees hown hK hP 0 rfl rfl 3 (by decide) (ht _ k_135) (fun _ h9 => h9) rfl d_Trees_insertLeaf_73 ?_
  refine lv_iload_n hx hb d_Trees_insertLeaf_76 rfl (lv_at hl 2 rfl) ?_
  refine lv_iload_n hx hb d_Trees_insertLeaf_77 rfl (lv_at hl 1 rfl) ?_
  obtain ⟨g12, h⟩ := gd h
  refine va_iast hx hb hK hP hD hS 3 1 rfl rfl g12 d_Trees_insertLeaf_78 (fun H locs hP hD hS => ?_)
  have hP : va_P (dC, dI) vwCl [(h_t, .inr (8, [.ref h_t_weights, .ref h_t_parents, .ref h_t_depths, .ref h_t_leafSymbols, .ref h_t_shrunk, .int v_t_leaves, .int v_t_made, .int v_t_nextLeaf, .int v_t_nextJoined])), (h_t_weights, .inl (cI, 572, .inl (upd y9.2.1 y9.1.toNatClampNeg (f_t_shrunk p1.toNatClampNeg)))), (h_t_shrunk, .inl (cI, 286, .inl f_t_shrunk)), (h_t_leafSymbols, .inl (cI, 286, .inl (upd y9.2.2 y9.1.toNatClampNeg p1)))] H := hP
  have hD : va_D A [(h_t, .inr (8, [.ref h_t_weights, .ref h_t_parents, .ref h_t_depths, .ref h_t_leafSymbols, .ref h_t_shrunk, .int v_t_leaves, .int v_t_made, .int v_t_nextLeaf, .int v_t_nextJoined])), (h_t_weights, .inl (cI, 572, .inl (upd y9.2.1 y9.1.toNatClampNeg (f_t_shrunk p1.toNatClampNeg)))), (h_t_shrunk, .inl (cI, 286, .inl f_t_shrunk)), (h_t_leafSymbols, .inl (cI, 286, .inl (upd y9.2.2 y9.1.toNatClampNeg p1)))] := hD
  refine lv_aload_n hx hb d_Trees_insertLeaf_79 rfl (lv_at hl 0 rfl) ?_
  refine lv_dup hx hb d_Trees_insertLeaf_80 rfl ?_
  refine va_get (D := (dC, dI)) (ci := 8) (v := .int v_t_leaves) (C := R_Trees) (T := F_Trees) (N := 9) hx hb ht in_Trees hown hK hP 0 rfl rfl 5 (by decide) (ht _ k_137) (fun _ h9 => h9) rfl d_Trees_insertLeaf_81 ?_
  refine lv_iconst (v := (1 : Int32)) hx hb d_Trees_insertLeaf_84 (by decide) ?_
  refine lv_iadd hx hb d_Trees_insertLeaf_85 ?_
  refine va_put (D := (dC, dI)) (ci := 8) (v := .int (v_t_leaves + (1 : Int32))) (ty := .int) (C := R_Trees) (T := F_Trees) (N := 9) hx hb ht in_Trees t_Trees t_Trees_ok n_Trees hown hK hP hD hS 0 rfl rfl 5 (by decide) (ht _ k_137) (fun _ h9 => h9) rfl (by decide +kernel) rfl rfl (Nat.le_of_ble_eq_true rfl) d_Trees_insertLeaf_86 (fun H locs hP hD hS => ?_)
  have hP : va_P (dC, dI) vwCl [(h_t, .inr (8, [.ref h_t_weights, .ref h_t_parents, .ref h_t_depths, .ref h_t_leafSymbols, .ref h_t_shrunk, .int (v_t_leaves + (1 : Int32)), .int v_t_made, .int v_t_nextLeaf, .int v_t_nextJoined])), (h_t_weights, .inl (cI, 572, .inl (upd y9.2.1 y9.1.toNatClampNeg (f_t_shrunk p1.toNatClampNeg)))), (h_t_shrunk, .inl (cI, 286, .inl f_t_shrunk)), (h_t_leafSymbols, .inl (cI, 286, .inl (upd y9.2.2 y9.1.toNatClampNeg p1)))] H := hP
  have hD : va_D A [(h_t, .inr (8, [.ref h_t_weights, .ref h_t_parents, .ref h_t_depths, .ref h_t_leafSymbols, .ref h_t_shrunk, .int (v_t_leaves + (1 : Int32)), .int v_t_made, .int v_t_nextLeaf, .int v_t_nextJoined])), (h_t_weights, .inl (cI, 572, .inl (upd y9.2.1 y9.1.toNatClampNeg (f_t_shrunk p1.toNatClampNeg)))), (h_t_shrunk, .inl (cI, 286, .inl f_t_shrunk)), (h_t_leafSymbols, .inl (cI, 286, .inl (upd y9.2.2 y9.1.toNatClampNeg p1)))] := hD
  obtain rfl := Option.some.inj h
  exact W.vret hx hb hr (fun t ht hW => ⟨⟨(), rfl, trivial, by rw [ht]; exact hP, va_K.moved hW.alike hK, hD⟩, hS.F ht⟩) hS.2.2 d_Trees_insertLeaf_89
/-! PackedBytes$Trees.sortLeaves(I)V -/
def fTrees_sortLeaves_7 (N : Nat) (x1 : Int32) (f_t_shrunk : Nat → Int32) : Nat → (Int32) → (Int32) → (Nat → Int32) → (Nat → Int32) → Option (Int32 × (Nat → Int32) × (Nat → Int32))
  | 0, _, _, _, _ => none
  | k + 1, x2, v_t_leaves, f_t_weights, f_t_leafSymbols =>
    if x1 ≤ x2 then
      some (v_t_leaves, f_t_weights, f_t_leafSymbols)
    else
      if ¬ (x2 < 0 ∨ 286 ≤ x2.toNatClampNeg) then
        if (f_t_shrunk x2.toNatClampNeg) ≤ 0 then
          fTrees_sortLeaves_7 N x1 f_t_shrunk k (x2 + (1 : Int32)) v_t_leaves f_t_weights f_t_leafSymbols
        else
          (fTrees_insertLeaf N x2 v_t_leaves f_t_weights f_t_shrunk f_t_leafSymbols).bind (fun y4 =>
            fTrees_sortLeaves_7 N x1 f_t_shrunk k (x2 + (1 : Int32)) y4.1 y4.2.1 y4.2.2)
      else none
def fTrees_sortLeaves (N : Nat) (p1 : Int32) (f_t_shrunk : Nat → Int32) (f_t_weights : Nat → Int32) (f_t_leafSymbols : Nat → Int32) : Option (Int32 × (Nat → Int32) × (Nat → Int32)) :=
    (fTrees_sortLeaves_7 N p1 f_t_shrunk N (0 : Int32) (0 : Int32) f_t_weights f_t_leafSymbols).bind (fun y5 =>
      some (y5.1, y5.2.1, y5.2.2))
set_option maxHeartbeats 4000000 in
set_option maxRecDepth 100000 in
theorem wTrees_sortLeaves_7 {p : Program} {l : Launch} {e : Env} {s : State} {m : MethodId} {args : Array Value} {below : List Frame} {meth : Method} {c : Code} {Q : State → Prop} {A : Nat → Prop} {dC : Nat → ClassId} {dI : Nat → Nat → Nat} (h_t h_t_weights h_t_parents h_t_depths h_t_leafSymbols h_t_shrunk : Nat) (cB cI cJ : ClassId) (N : Nat) (v_t_made : Int32) (v_t_nextLeaf : Int32) (v_t_nextJoined : Int32) (f_t_shrunk : Nat → Int32) (x1 : Int32) (C : CX p s m args c b_Trees_sortLeaves 3 R_Trees A (dC, dI) [(cB, .byte), (cI, .int), (cJ, .long)]) :
    ∀ (n : Nat) (x2 : Int32) (v_t_leaves : Int32) (f_t_weights : Nat → Int32) (f_t_leafSymbols : Nat → Int32) (H : Heap) (locs : List Loc) (ls : Array Slot) (o : Int32 × (Nat → Int32) × (Nat → Int32)), va_P (dC, dI) vwCl [(h_t, .inr (8, [.ref h_t_weights, .ref h_t_parents, .ref h_t_depths, .ref h_t_leafSymbols, .ref h_t_shrunk, .int v_t_leaves, .int v_t_made, .int v_t_nextLeaf, .int v_t_nextJoined])), (h_t_shrunk, .inl (cI, 286, .inl f_t_shrunk)), (h_t_weights, .inl (cI, 572, .inl f_t_weights)), (h_t_leafSymbols, .inl (cI, 286, .inl f_t_leafSymbols))] H → va_D A [(h_t, .inr (8, [.ref h_t_weights, .ref h_t_parents, .ref h_t_depths, .ref h_t_leafSymbols, .ref h_t_shrunk, .int v_t_leaves, .int v_t_made, .int v_t_nextLeaf, .int v_t_nextJoined])), (h_t_shrunk, .inl (cI, 286, .inl f_t_shrunk)), (h_t_weights, .inl (cI, 572, .inl f_t_weights)), (h_t_leafSymbols, .inl (cI, 286, .inl f_t_leafSymbols))] → va_S A s.heap H locs → lv_has ls 3 [(0, .ref h_t), (1, .int x1), (2, .int x2)] → fTrees_sortLeaves_7 N x1 f_t_shrunk n x2 v_t_leaves f_t_weights f_t_leafSymbols = some o → (∀ (H : Heap) (locs : List Loc) (ls : Array Slot), va_P (dC, dI) vwCl [(h_t, .inr (8, [.ref h_t_weights, .ref h_t_parents, .ref h_t_depths, .ref h_t_leafSymbols, .ref h_t_shrunk, .int o.1, .int v_t_made, .int v_t_nextLeaf, .int v_t_nextJoined])), (h_t_shrunk, .inl (cI, 286, .inl f_t_shrunk)), (h_t_weights, .inl (cI, 572, .inl o.2.1)), (h_t_leafSymbols, .inl (cI, 286, .inl o.2.2))] H → va_D A [(h_t, .inr (8, [.ref h_t_weights, .ref h_t_parents, .ref h_t_depths, .ref h_t_leafSymbols, .ref h_t_shrunk, .int o.1, .int v_t_made, .int v_t_nextLeaf, .int v_t_nextJoined])), (h_t_shrunk, .inl (cI, 286, .inl f_t_shrunk)), (h_t_weights, .inl (cI, 572, .inl o.2.1)), (h_t_leafSymbols, .inl (cI, 286, .inl o.2.2))] → va_S A s.heap H locs → lv_has ls 3 [] → W p l e ({ frames := 1, cells := 0, slots := 0, locals := 22 } : Room) s m args below meth c H locs 0 0 Q (F0 m 32 ls [])) → W p l e ({ frames := 1, cells := 0, slots := 0, locals := 22 } : Room) s m args below meth c H locs 0 0 Q (F0 m 7 ls []) := by
  obtain ⟨hx, hb, hml, hown, ht, hA, hK, hN⟩ := id C
  intro n
  induction n with
  | zero => intro x2 v_t_leaves f_t_weights f_t_leafSymbols H locs ls o _ _ _ _ h; exact nomatch h
  | succ k ih =>
    intro x2 v_t_leaves f_t_weights f_t_leafSymbols H locs ls o hP hD hS hl h kx
    refine lv_iload_n hx hb d_Trees_sortLeaves_7 rfl (lv_at hl 2 rfl) ?_
    refine lv_iload_n hx hb d_Trees_sortLeaves_8 rfl (lv_at hl 1 rfl) ?_
    refine lv_icmp_ge (tgt := 32) hx hb d_Trees_sortLeaves_9 (by decide) (fun c1 => ?_) (fun c1 => ?_)
    · replace h := ip_p c1 h
      obtain rfl := Option.some.inj h
      exact kx _ _ _ hP hD hS (lv_sub hl [] rfl)
    · replace h := ip_n c1 h
      refine lv_aload_n hx hb d_Trees_sortLeaves_12 rfl (lv_at hl 0 rfl) ?_
      refine va_get (D := (dC, dI)) (ci := 8) (v := .ref h_t_shrunk) (C := R_Trees) (T := F_Trees) (N := 9) hx hb ht in_Trees hown hK hP 0 rfl rfl 4 (by decide) (ht _ k_136) (fun _ h9 => h9) rfl d_Trees_sortLeaves_13 ?_
      refine lv_iload_n hx hb d_Trees_sortLeaves_16 rfl (lv_at hl 2 rfl) ?_
      obtain ⟨g2, h⟩ := gd h
      refine va_iald hx hb hK hP 1 1 rfl rfl g2 d_Trees_sortLeaves_17 ?_
      refine lv_if_le (tgt := 26) hx hb d_Trees_sortLeaves_18 (by decide) (fun c3 => ?_) (fun c3 => ?_)
      · replace h := ip_p c3 h
        refine lv_iinc (v := x2 + (1 : Int32)) (lv' := [(2, .int (x2 + (1 : Int32))), (0, .ref h_t), (1, .int x1)]) hx hb d_Trees_sortLeaves_26 hl (k := 2) rfl rfl (by decide) rfl (fun ls hl => ?_)
        refine lv_goto (tgt := 7) hx hb d_Trees_sortLeaves_29 (by decide) ?_
        exact ih (x2 + (1 : Int32)) v_t_leaves f_t_weights f_t_leafSymbols _ _ _ _ hP hD hS (lv_sub hl [1, 2, 0] rfl) h kx
      · replace h := ip_n c3 h
        refine lv_aload_n hx hb d_Trees_sortLeaves_21 rfl (lv_at hl 0 rfl) ?_
        refine lv_iload_n hx hb d_Trees_sortLeaves_22 rfl (lv_at hl 2 rfl) ?_
        obtain ⟨y4, hy4, h⟩ := bd h
        have hPc := hP.sub (ws' := [(h_t, .inr (8, [.ref h_t_weights, .ref h_t_parents, .ref h_t_depths, .ref h_t_leafSymbols, .ref h_t_shrunk, .int v_t_leaves, .int v_t_made, .int v_t_nextLeaf, .int v_t_nextJoined])), (h_t_weights, .inl (cI, 572, .inl f_t_weights)), (h_t_shrunk, .inl (cI, 286, .inl f_t_shrunk)), (h_t_leafSymbols, .inl (cI, 286, .inl f_t_leafSymbols))]) [0, 2, 1, 3] rfl
        have hDc := hD.sub (ws' := [(h_t, .inr (8, [.ref h_t_weights, .ref h_t_parents, .ref h_t_depths, .ref h_t_leafSymbols, .ref h_t_shrunk, .int v_t_leaves, .int v_t_made, .int v_t_nextLeaf, .int v_t_nextJoined])), (h_t_weights, .inl (cI, 572, .inl f_t_weights)), (h_t_shrunk, .inl (cI, 286, .inl f_t_shrunk)), (h_t_leafSymbols, .inl (cI, 286, .inl f_t_leafSymbols))]) [0, 2, 1, 3] (by decide) rfl
        have hFc := va_free (wc := [(h_t, .inr (8, [.ref h_t_weights, .ref h_t_parents, .ref h_t_depths, .ref h_t_leafSymbols, .ref h_t_shrunk, .int v_t_leaves, .int v_t_made, .int v_t_nextLeaf, .int v_t_nextJoined])), (h_t_weights, .inl (cI, 572, .inl f_t_weights)), (h_t_shrunk, .inl (cI, 286, .inl f_t_shrunk)), (h_t_leafSymbols, .inl (cI, 286, .inl f_t_leafSymbols))]) hD hS hA [0, 2, 1, 3] rfl
        refine va_callv (va_runV (As := [.int x2]) (rest := []) ⟨hx, hb, hml, hown, ht⟩ (cTrees_insertLeaf l dC dI h_t h_t_weights h_t_parents h_t_depths h_t_leafSymbols h_t_shrunk cB cI cJ _ N x2 v_t_leaves v_t_made v_t_nextLeaf v_t_nextJoined f_t_weights f_t_shrunk f_t_leafSymbols y4 hy4) (⟨callB_of 1 ht (gTB (k_519)) rfl rfl rfl (ht _ k_68) (ht _ k_516) (by decide +kernel) ⟨Nat.le_of_ble_eq_true rfl, Nat.le_of_ble_eq_true rfl⟩, ht _ k_518, ht _ k_8⟩) ⟨fun a U g mk q => by obtain ⟨q0, q1, qP, qK, qD, qN⟩ := q; exact ⟨q0, q1, qP, va_K.moved (u := U) (U := U.calling g mk a) (Vm.Alike.refl U.vm) qK, qD, NW_same (u := U) rfl qN⟩, va_recv hK hPc (ci := 8) (q0 := 0) rfl rfl, fun U hU hW => ⟨rfl, by rw [hU], by rw [hU]; exact hPc, va_K.moved hW.alike hK, hDc.weaken (fun _ _ _ _ => trivial), NW_warm hW hN⟩⟩ rfl rfl hl.1 rfl (lv_room (Nat.le_of_ble_eq_true rfl)) d_Trees_sortLeaves_23 ⟨Nat.le_of_ble_eq_true rfl, Nat.le_of_ble_eq_true rfl⟩) hS (fun q _ h => hFc q h) hFc (fun u t H1 locs htH hvm hw hB hz1 hk1 hS => ?_)
        obtain ⟨hP1, hK1, hD1⟩ := hB
        rw [htH] at hP1
        obtain ⟨hP, hD⟩ := va_join (wr := []) (w1 := [(h_t, .inr (8, [.ref h_t_weights, .ref h_t_parents, .ref h_t_depths, .ref h_t_leafSymbols, .ref h_t_shrunk, .int y4.1, .int v_t_made, .int v_t_nextLeaf, .int v_t_nextJoined])), (h_t_weights, .inl (cI, 572, .inl y4.2.1)), (h_t_shrunk, .inl (cI, 286, .inl f_t_shrunk)), (h_t_leafSymbols, .inl (cI, 286, .inl y4.2.2))]) hP hD [0, 2, 1, 3] [] rfl rfl (by decide) (by decide) hk1 hFc hP1 hD1
        generalize H1 = H at hP hS ⊢
        have hP : va_P (dC, dI) vwCl [(h_t, .inr (8, [.ref h_t_weights, .ref h_t_parents, .ref h_t_depths, .ref h_t_leafSymbols, .ref h_t_shrunk, .int y4.1, .int v_t_made, .int v_t_nextLeaf, .int v_t_nextJoined])), (h_t_shrunk, .inl (cI, 286, .inl f_t_shrunk)), (h_t_weights, .inl (cI, 572, .inl y4.2.1)), (h_t_leafSymbols, .inl (cI, 286, .inl y4.2.2))] H := hP.sub [0, 2, 1, 3] rfl
        have hD : va_D A [(h_t, .inr (8, [.ref h_t_weights, .ref h_t_parents, .ref h_t_depths, .ref h_t_leafSymbols, .ref h_t_shrunk, .int y4.1, .int v_t_made, .int v_t_nextLeaf, .int v_t_nextJoined])), (h_t_shrunk, .inl (cI, 286, .inl f_t_shrunk)), (h_t_weights, .inl (cI, 572, .inl y4.2.1)), (h_t_leafSymbols, .inl (cI, 286, .inl y4.2.2))] := hD.sub [0, 2, 1, 3] (by decide) rfl
        refine lv_iinc (v := x2 + (1 : Int32)) (lv' := [(2, .int (x2 + (1 : Int32))), (0, .ref h_t), (1, .int x1)]) hx hb d_Trees_sortLeaves_26 hl (k := 2) rfl rfl (by decide) rfl (fun ls hl => ?_)
        refine lv_goto (tgt := 7) hx hb d_Trees_sortLeaves_29 (by decide) ?_
        exact ih (x2 + (1 : Int32)) y4.1 y4.2.1 y4.2.2 _ _ _ _ hP hD hS (lv_sub hl [1, 2, 0] rfl) h kx
set_option maxHeartbeats 4000000 in
set_option maxRecDepth 100000 in
theorem cTrees_sortLeaves (l : Launch) (dC : Nat → ClassId) (dI : Nat → Nat → Nat) (h_t h_t_weights h_t_parents h_t_depths h_t_leafSymbols h_t_shrunk : Nat) (cB cI cJ : ClassId) (sz : Nat) (N : Nat) (p1 : Int32) (v_t_leaves : Int32) (v_t_made : Int32) (v_t_nextLeaf : Int32) (v_t_nextJoined : Int32) (f_t_shrunk : Nat → Int32) (f_t_weights : Nat → Int32) (f_t_leafSymbols : Nat → Int32) (o : Int32 × (Nat → Int32) × (Nat → Int32)) (h : fTrees_sortLeaves N p1 f_t_shrunk f_t_weights f_t_leafSymbols = some o) : Met l y_Trees_sortLeaves w_Trees_sortLeaves ({ frames := 1, cells := 0, slots := 0, locals := 22 } : Room) (va_Pc [.ref h_t, .int p1] (fun U => U.heap.size = sz ∧ va_P (dC, dI) vwCl [(h_t, .inr (8, [.ref h_t_weights, .ref h_t_parents, .ref h_t_depths, .ref h_t_leafSymbols, .ref h_t_shrunk, .int v_t_leaves, .int v_t_made, .int v_t_nextLeaf, .int v_t_nextJoined])), (h_t_shrunk, .inl (cI, 286, .inl f_t_shrunk)), (h_t_weights, .inl (cI, 572, .inl f_t_weights)), (h_t_leafSymbols, .inl (cI, 286, .inl f_t_leafSymbols))] U.heap ∧ va_K (dC, dI) vwCl [(cB, .byte), (cI, .int), (cJ, .long)] U ∧ va_D (fun _ => True) [(h_t, .inr (8, [.ref h_t_weights, .ref h_t_parents, .ref h_t_depths, .ref h_t_leafSymbols, .ref h_t_shrunk, .int v_t_leaves, .int v_t_made, .int v_t_nextLeaf, .int v_t_nextJoined])), (h_t_shrunk, .inl (cI, 286, .inl f_t_shrunk)), (h_t_weights, .inl (cI, 572, .inl f_t_weights)), (h_t_leafSymbols, .inl (cI, 286, .inl f_t_leafSymbols))] ∧ NW U)) (va_Qv (fun _ : Unit => True) (fun _ t => va_P (dC, dI) vwCl [(h_t, .inr (8, [.ref h_t_weights, .ref h_t_parents, .ref h_t_depths, .ref h_t_leafSymbols, .ref h_t_shrunk, .int o.1, .int v_t_made, .int v_t_nextLeaf, .int v_t_nextJoined])), (h_t_shrunk, .inl (cI, 286, .inl f_t_shrunk)), (h_t_weights, .inl (cI, 572, .inl o.2.1)), (h_t_leafSymbols, .inl (cI, 286, .inl o.2.2))] t.heap ∧ va_K (dC, dI) vwCl [(cB, .byte), (cI, .int), (cJ, .long)] t ∧ va_D (va_A [(h_t, .inr (8, [.ref h_t_weights, .ref h_t_parents, .ref h_t_depths, .ref h_t_leafSymbols, .ref h_t_shrunk, .int v_t_leaves, .int v_t_made, .int v_t_nextLeaf, .int v_t_nextJoined])), (h_t_shrunk, .inl (cI, 286, .inl f_t_shrunk)), (h_t_weights, .inl (cI, 572, .inl f_t_weights)), (h_t_leafSymbols, .inl (cI, 286, .inl f_t_leafSymbols))] sz) [(h_t, .inr (8, [.ref h_t_weights, .ref h_t_parents, .ref h_t_depths, .ref h_t_leafSymbols, .ref h_t_shrunk, .int o.1, .int v_t_made, .int v_t_nextLeaf, .int v_t_nextJoined])), (h_t_shrunk, .inl (cI, 286, .inl f_t_shrunk)), (h_t_weights, .inl (cI, 572, .inl o.2.1)), (h_t_leafSymbols, .inl (cI, 286, .inl o.2.2))]) (va_A [(h_t, .inr (8, [.ref h_t_weights, .ref h_t_parents, .ref h_t_depths, .ref h_t_leafSymbols, .ref h_t_shrunk, .int v_t_leaves, .int v_t_made, .int v_t_nextLeaf, .int v_t_nextJoined])), (h_t_shrunk, .inl (cI, 286, .inl f_t_shrunk)), (h_t_weights, .inl (cI, 572, .inl f_t_weights)), (h_t_leafSymbols, .inl (cI, 286, .inl f_t_leafSymbols))] sz)) 0 0 (va_A [(h_t, .inr (8, [.ref h_t_weights, .ref h_t_parents, .ref h_t_depths, .ref h_t_leafSymbols, .ref h_t_shrunk, .int v_t_leaves, .int v_t_made, .int v_t_nextLeaf, .int v_t_nextJoined])), (h_t_shrunk, .inl (cI, 286, .inl f_t_shrunk)), (h_t_weights, .inl (cI, 572, .inl f_t_weights)), (h_t_leafSymbols, .inl (cI, 286, .inl f_t_leafSymbols))] sz) := by
  refine Met.ofW (cc := b_Trees_sortLeaves) (maxL := 3) (ret := none) (by decide) rfl ?_
  intro p e s m args below meth c s₁ B hml hv
  obtain ⟨rfl, hsz, hP, hK, hD0, hN⟩ := hv
  have hx := B.exec
  have hb := B.bytes
  have hr := B.returns
  have hts := atoms_spec (ws := w_Trees_sortLeaves) B.pre
  have ht : ∀ w ∈ TB, w.before ([.ref h_t, .int p1]).toArray s = true := fun w h => hts w (List.mem_cons_of_mem _ h)
  have hown : s.vm.findClass R_Trees = some m.cls := findClass_of_methodNamed B.named
  have hlocks := B.notSynchronized
  subst hsz
  have hD := hD0.self (sz := s.heap.size)
  generalize hAe : va_A [(h_t, .inr (8, [.ref h_t_weights, .ref h_t_parents, .ref h_t_depths, .ref h_t_leafSymbols, .ref h_t_shrunk, .int v_t_leaves, .int v_t_made, .int v_t_nextLeaf, .int v_t_nextJoined])), (h_t_shrunk, .inl (cI, 286, .inl f_t_shrunk)), (h_t_weights, .inl (cI, 572, .inl f_t_weights)), (h_t_leafSymbols, .inl (cI, 286, .inl f_t_leafSymbols))] s.heap.size = A at hD ⊢
  have hA : ∀ q : Nat, s.heap.size ≤ q → A q := fun q h => by rw [← hAe]; exact Or.inr h
  have hS : va_S A s.heap s.heap [] := va_S.rf
  have hP : va_P (dC, dI) vwCl [(h_t, .inr (8, [.ref h_t_weights, .ref h_t_parents, .ref h_t_depths, .ref h_t_leafSymbols, .ref h_t_shrunk, .int v_t_leaves, .int v_t_made, .int v_t_nextLeaf, .int v_t_nextJoined])), (h_t_shrunk, .inl (cI, 286, .inl f_t_shrunk)), (h_t_weights, .inl (cI, 572, .inl f_t_weights)), (h_t_leafSymbols, .inl (cI, 286, .inl f_t_leafSymbols))] s.heap := hP
  have C : CX p s m ([.ref h_t, .int p1]).toArray c b_Trees_sortLeaves 3 R_Trees A (dC, dI) [(cB, .byte), (cI, .int), (cJ, .long)] := ⟨hx, hb, hml, hown, ht, hA, hK, hN⟩
  have hl := lv_entry ([.ref h_t, .int p1]) (n := 3) (Nat.le_of_ble_eq_true rfl)
  rw [lg_entry_eq]
  generalize (lg_sl ([.ref h_t, .int p1]) ++ List.replicate (3 - (lg_sl ([.ref h_t, .int p1])).length) Slot.unset).toArray = ls at hl ⊢
  have hl : lv_has ls 3 [(0, .ref h_t), (1, .int p1)] := hl
  refine lv_aload_n hx hb d_Trees_sortLeaves_0 rfl (lv_at hl 0 rfl) ?_
  refine lv_iconst (v := (0 : Int32)) hx hb d_Trees_sortLeaves_1 (by decide) ?_
  refine va_put (D := (dC, dI)) (ci := 8) (v := .int (0 : Int32)) (ty := .int) (C := R_Trees) (T := F_Trees) (N := 9) hx hb ht in_Trees t_Trees t_Trees_ok n_Trees hown hK hP hD hS 0 rfl rfl 5 (by decide) (ht _ k_137) (fun _ h9 => h9) rfl (by decide +kernel) rfl rfl (Nat.le_of_ble_eq_true rfl) d_Trees_sortLeaves_2 (fun H locs hP hD hS => ?_)
  have hP : va_P (dC, dI) vwCl [(h_t, .inr (8, [.ref h_t_weights, .ref h_t_parents, .ref h_t_depths, .ref h_t_leafSymbols, .ref h_t_shrunk, .int (0 : Int32), .int v_t_made, .int v_t_nextLeaf, .int v_t_nextJoined])), (h_t_shrunk, .inl (cI, 286, .inl f_t_shrunk)), (h_t_weights, .inl (cI, 572, .inl f_t_weights)), (h_t_leafSymbols, .inl (cI, 286, .inl f_t_leafSymbols))] H := hP
  have hD : va_D A [(h_t, .inr (8, [.ref h_t_weights, .ref h_t_parents, .ref h_t_depths, .ref h_t_leafSymbols, .ref h_t_shrunk, .int (0 : Int32), .int v_t_made, .int v_t_nextLeaf, .int v_t_nextJoined])), (h_t_shrunk, .inl (cI, 286, .inl f_t_shrunk)), (h_t_weights, .inl (cI, 572, .inl f_t_weights)), (h_t_leafSymbols, .inl (cI, 286, .inl f_t_leafSymbols))] := hD
  refine lv_iconst (v := (0 : Int32)) hx hb d_Trees_sortLeaves_5 (by decide) ?_
  refine lv_istore_n (lv' := [(2, .int (0 : Int32)), (0, .ref h_t), (1, .int p1)]) hx hb d_Trees_sortLeaves_6 rfl hl (by decide) rfl (fun ls hl => ?_)
  obtain ⟨y5, hy5, h⟩ := bd h
  refine wTrees_sortLeaves_7 h_t h_t_weights h_t_parents h_t_depths h_t_leafSymbols h_t_shrunk cB cI cJ N v_t_made v_t_nextLeaf v_t_nextJoined f_t_shrunk p1 C N (0 : Int32) (0 : Int32) f_t_weights f_t_leafSymbols _ _ _ _ hP hD hS (lv_sub hl [1, 2, 0] rfl) hy5 (fun H locs ls hP hD hS hl => ?_)
  obtain rfl := Option.some.inj h
  exact W.vret hx hb hr (fun t ht hW => ⟨⟨(), rfl, trivial, by rw [ht]; exact hP, va_K.moved hW.alike hK, hD⟩, hS.F ht⟩) hS.2.2 d_Trees_sortLeaves_32
/-! PackedBytes$Trees.takeLeast()I -/
def fTrees_takeLeast (N : Nat) (v_t_leaves : Int32) (v_t_made : Int32) (v_t_nextLeaf : Int32) (v_t_nextJoined : Int32) (f_t_weights : Nat → Int32) : Option (Int32 × Int32 × Int32) :=
    if v_t_leaves ≤ v_t_nextLeaf then
      some (v_t_nextJoined, v_t_nextLeaf, v_t_nextJoined + (1 : Int32))
    else
      if v_t_made ≤ v_t_nextJoined then
        some (v_t_nextLeaf, v_t_nextLeaf + (1 : Int32), v_t_nextJoined)
      else
        if ¬ (v_t_nextLeaf < 0 ∨ 572 ≤ v_t_nextLeaf.toNatClampNeg) then
          if ¬ (v_t_nextJoined < 0 ∨ 572 ≤ v_t_nextJoined.toNatClampNeg) then
            if (if (f_t_weights v_t_nextJoined.toNatClampNeg) < (f_t_weights v_t_nextLeaf.toNatClampNeg) then (0 : Int32) else (1 : Int32)) = 0 then
              some (if (if (f_t_weights v_t_nextJoined.toNatClampNeg) < (f_t_weights v_t_nextLeaf.toNatClampNeg) then (0 : Int32) else (1 : Int32)) = 0 then v_t_nextJoined else v_t_nextLeaf, v_t_nextLeaf, v_t_nextJoined + (1 : Int32))
            else
              some (if (if (f_t_weights v_t_nextJoined.toNatClampNeg) < (f_t_weights v_t_nextLeaf.toNatClampNeg) then (0 : Int32) else (1 : Int32)) = 0 then v_t_nextJoined else v_t_nextLeaf, v_t_nextLeaf + (1 : Int32), v_t_nextJoined)
          else none
        else none
set_option maxHeartbeats 4000000 in
set_option maxRecDepth 100000 in
theorem cTrees_takeLeast (l : Launch) (dC : Nat → ClassId) (dI : Nat → Nat → Nat) (h_t h_t_weights h_t_parents h_t_depths h_t_leafSymbols h_t_shrunk : Nat) (cB cI cJ : ClassId) (sz : Nat) (N : Nat) (v_t_leaves : Int32) (v_t_made : Int32) (v_t_nextLeaf : Int32) (v_t_nextJoined : Int32) (f_t_weights : Nat → Int32) (o : Int32 × Int32 × Int32) (h : fTrees_takeLeast N v_t_leaves v_t_made v_t_nextLeaf v_t_nextJoined f_t_weights = some o) : Met l y_Trees_takeLeast w_Trees_takeLeast ({ frames := 0, cells := 0, slots := 0, locals := 0 } : Room) (va_Pc [.ref h_t] (fun U => U.heap.size = sz ∧ va_P (dC, dI) vwCl [(h_t, .inr (8, [.ref h_t_weights, .ref h_t_parents, .ref h_t_depths, .ref h_t_leafSymbols, .ref h_t_shrunk, .int v_t_leaves, .int v_t_made, .int v_t_nextLeaf, .int v_t_nextJoined])), (h_t_weights, .inl (cI, 572, .inl f_t_weights))] U.heap ∧ va_K (dC, dI) vwCl [(cB, .byte), (cI, .int), (cJ, .long)] U ∧ va_D (fun _ => True) [(h_t, .inr (8, [.ref h_t_weights, .ref h_t_parents, .ref h_t_depths, .ref h_t_leafSymbols, .ref h_t_shrunk, .int v_t_leaves, .int v_t_made, .int v_t_nextLeaf, .int v_t_nextJoined])), (h_t_weights, .inl (cI, 572, .inl f_t_weights))] ∧ NW U)) (va_Qi (fun r (_ : Unit) => r = o.1) (fun _ t => va_P (dC, dI) vwCl [(h_t, .inr (8, [.ref h_t_weights, .ref h_t_parents, .ref h_t_depths, .ref h_t_leafSymbols, .ref h_t_shrunk, .int v_t_leaves, .int v_t_made, .int o.2.1, .int o.2.2])), (h_t_weights, .inl (cI, 572, .inl f_t_weights))] t.heap ∧ va_K (dC, dI) vwCl [(cB, .byte), (cI, .int), (cJ, .long)] t ∧ va_D (va_A [(h_t, .inr (8, [.ref h_t_weights, .ref h_t_parents, .ref h_t_depths, .ref h_t_leafSymbols, .ref h_t_shrunk, .int v_t_leaves, .int v_t_made, .int v_t_nextLeaf, .int v_t_nextJoined])), (h_t_weights, .inl (cI, 572, .inl f_t_weights))] sz) [(h_t, .inr (8, [.ref h_t_weights, .ref h_t_parents, .ref h_t_depths, .ref h_t_leafSymbols, .ref h_t_shrunk, .int v_t_leaves, .int v_t_made, .int o.2.1, .int o.2.2])), (h_t_weights, .inl (cI, 572, .inl f_t_weights))]) (va_A [(h_t, .inr (8, [.ref h_t_weights, .ref h_t_parents, .ref h_t_depths, .ref h_t_leafSymbols, .ref h_t_shrunk, .int v_t_leaves, .int v_t_made, .int v_t_nextLeaf, .int v_t_nextJoined])), (h_t_weights, .inl (cI, 572, .inl f_t_weights))] sz)) 0 0 (va_A [(h_t, .inr (8, [.ref h_t_weights, .ref h_t_parents, .ref h_t_depths, .ref h_t_leafSymbols, .ref h_t_shrunk, .int v_t_leaves, .int v_t_made, .int v_t_nextLeaf, .int v_t_nextJoined])), (h_t_weights, .inl (cI, 572, .inl f_t_weights))] sz) := by
  refine Met.ofW (cc := b_Trees_takeLeast) (maxL := 3) (ret := (some .int)) (by decide) rfl ?_
  intro p e s m args below meth c s₁ B hml hv
  obtain ⟨rfl, hsz, hP, hK, hD0, hN⟩ := hv
  have hx := B.exec
  have hb := B.bytes
  have hr := B.returns
  have hts := atoms_spec (ws := w_Trees_takeLeast) B.pre
  have ht : ∀ w ∈ TB, w.before ([.ref h_t]).toArray s = true := fun w h => hts w (List.mem_cons_of_mem _ h)
  have hown : s.vm.findClass R_Trees = some m.cls := findClass_of_methodNamed B.named
  have hlocks := B.notSynchronized
  subst hsz
  have hD := hD0.self (sz := s.heap.size)
  generalize hAe : va_A [(h_t, .inr (8, [.ref h_t_weights, .ref h_t_parents, .ref h_t_depths, .ref h_t_leafSymbols, .ref h_t_shrunk, .int v_t_leaves, .int v_t_made, .int v_t_nextLeaf, .int v_t_nextJoined])), (h_t_weights, .inl (cI, 572, .inl f_t_weights))] s.heap.size = A at hD ⊢
  have hA : ∀ q : Nat, s.heap.size ≤ q → A q := fun q h => by rw [← hAe]; exact Or.inr h
  have hS : va_S A s.heap s.heap [] := va_S.rf
  have hP : va_P (dC, dI) vwCl [(h_t, .inr (8, [.ref h_t_weights, .ref h_t_parents, .ref h_t_depths, .ref h_t_leafSymbols, .ref h_t_shrunk, .int v_t_leaves, .int v_t_made, .int v_t_nextLeaf, .int v_t_nextJoined])), (h_t_weights, .inl (cI, 572, .inl f_t_weights))] s.heap := hP
  skip
  have hl := lv_entry ([.ref h_t]) (n := 3) (Nat.le_of_ble_eq_true rfl)
  rw [lg_entry_eq]
  generalize (lg_sl ([.ref h_t]) ++ List.replicate (3 - (lg_sl ([.ref h_t])).length) Slot.unset).toArray = ls at hl ⊢
  have hl : lv_has ls 3 [(0, .ref h_t)] := hl
  refine lv_aload_n hx hb d_Trees_takeLeast_0 rfl (lv_at hl 0 rfl) ?_
  refine va_get (D := (dC, dI)) (ci := 8) (v := .int v_t_nextLeaf) (C := R_Trees) (T := F_Trees) (N := 9) hx hb ht in_Trees hown hK hP 0 rfl rfl 7 (by decide) (ht _ k_139) (fun _ h9 => h9) rfl d_Trees_takeLeast_1 ?_
  refine lv_aload_n hx hb d_Trees_takeLeast_4 rfl (lv_at hl 0 rfl) ?_
  refine va_get (D := (dC, dI)) (ci := 8) (v := .int v_t_leaves) (C := R_Trees) (T := F_Trees) (N := 9) hx hb ht in_Trees hown hK hP 0 rfl rfl 5 (by decide) (ht _ k_137) (fun _ h9 => h9) rfl d_Trees_takeLeast_5 ?_
  refine lv_icmp_ge (tgt := 47) hx hb d_Trees_takeLeast_8 (by decide) (fun c1 => ?_) (fun c1 => ?_)
  · replace h := ip_p c1 h
    refine lv_iconst (v := (0 : Int32)) hx hb d_Trees_takeLeast_47 (by decide) ?_
    refine lv_istore_n (lv' := [(1, .int (0 : Int32)), (0, .ref h_t)]) hx hb d_Trees_takeLeast_48 rfl hl (by decide) rfl (fun ls hl => ?_)
    refine lv_iload_n hx hb d_Trees_takeLeast_49 rfl (lv_at hl 0 rfl) ?_
    refine lv_if_eq (tgt := 60) hx hb d_Trees_takeLeast_50 (by decide) (fun c3 => ?_) (fun c3 => ?_)
    rotate_left
    · exact absurd (by decide) c3
    refine lv_aload_n hx hb d_Trees_takeLeast_60 rfl (lv_at hl 1 rfl) ?_
    refine va_get (D := (dC, dI)) (ci := 8) (v := .int v_t_nextJoined) (C := R_Trees) (T := F_Trees) (N := 9) hx hb ht in_Trees hown hK hP 0 rfl rfl 8 (by decide) (ht _ k_140) (fun _ h9 => h9) rfl d_Trees_takeLeast_61 ?_
    refine lv_istore_n (lv' := [(2, .int v_t_nextJoined), (1, .int (0 : Int32)), (0, .ref h_t)]) hx hb d_Trees_takeLeast_64 rfl hl (by decide) rfl (fun ls hl => ?_)
    refine lv_iload_n hx hb d_Trees_takeLeast_65 rfl (lv_at hl 1 rfl) ?_
    refine lv_if_eq (tgt := 82) hx hb d_Trees_takeLeast_66 (by decide) (fun c4 => ?_) (fun c4 => ?_)
    rotate_left
    · exact absurd (by decide) c4
    refine lv_aload_n hx hb d_Trees_takeLeast_82 rfl (lv_at hl 2 rfl) ?_
    refine lv_dup hx hb d_Trees_takeLeast_83 rfl ?_
    refine va_get (D := (dC, dI)) (ci := 8) (v := .int v_t_nextJoined) (C := R_Trees) (T := F_Trees) (N := 9) hx hb ht in_Trees hown hK hP 0 rfl rfl 8 (by decide) (ht _ k_140) (fun _ h9 => h9) rfl d_Trees_takeLeast_84 ?_
    refine lv_iconst (v := (1 : Int32)) hx hb d_Trees_takeLeast_87 (by decide) ?_
    refine lv_iadd hx hb d_Trees_takeLeast_88 ?_
    refine va_put (D := (dC, dI)) (ci := 8) (v := .int (v_t_nextJoined + (1 : Int32))) (ty := .int) (C := R_Trees) (T := F_Trees) (N := 9) hx hb ht in_Trees t_Trees t_Trees_ok n_Trees hown hK hP hD hS 0 rfl rfl 8 (by decide) (ht _ k_140) (fun _ h9 => h9) rfl (by decide +kernel) rfl rfl (Nat.le_of_ble_eq_true rfl) d_Trees_takeLeast_89 (fun H locs hP hD hS => ?_)
    have hP : va_P (dC, dI) vwCl [(h_t, .inr (8, [.ref h_t_weights, .ref h_t_parents, .ref h_t_depths, .ref h_t_leafSymbols, .ref h_t_shrunk, .int v_t_leaves, .int v_t_made, .int v_t_nextLeaf, .int (v_t_nextJoined + (1 : Int32))])), (h_t_weights, .inl (cI, 572, .inl f_t_weights))] H := hP
    have hD : va_D A [(h_t, .inr (8, [.ref h_t_weights, .ref h_t_parents, .ref h_t_depths, .ref h_t_leafSymbols, .ref h_t_shrunk, .int v_t_leaves, .int v_t_made, .int v_t_nextLeaf, .int (v_t_nextJoined + (1 : Int32))])), (h_t_weights, .inl (cI, 572, .inl f_t_weights))] := hD
    refine lv_iload_n hx hb d_Trees_takeLeast_92 rfl (lv_at hl 0 rfl) ?_
    obtain rfl := Option.some.inj h
    exact W.iret (v := v_t_nextJoined) hx hb hr (fun t ht hW => ⟨⟨_, (), rfl, rfl, by rw [ht]; exact hP, va_K.moved hW.alike hK, hD⟩, hS.F ht⟩) hS.2.2 d_Trees_takeLeast_93
  · replace h := ip_n c1 h
    refine lv_aload_n hx hb d_Trees_takeLeast_11 rfl (lv_at hl 0 rfl) ?_
    refine va_get (D := (dC, dI)) (ci := 8) (v := .int v_t_nextJoined) (C := R_Trees) (T := F_Trees) (N := 9) hx hb ht in_Trees hown hK hP 0 rfl rfl 8 (by decide) (ht _ k_140) (fun _ h9 => h9) rfl d_Trees_takeLeast_12 ?_
    refine lv_aload_n hx hb d_Trees_takeLeast_15 rfl (lv_at hl 0 rfl) ?_
    refine va_get (D := (dC, dI)) (ci := 8) (v := .int v_t_made) (C := R_Trees) (T := F_Trees) (N := 9) hx hb ht in_Trees hown hK hP 0 rfl rfl 6 (by decide) (ht _ k_138) (fun _ h9 => h9) rfl d_Trees_takeLeast_16 ?_
    refine lv_icmp_ge (tgt := 43) hx hb d_Trees_takeLeast_19 (by decide) (fun c5 => ?_) (fun c5 => ?_)
    · replace h := ip_p c5 h
      refine lv_iconst (v := (1 : Int32)) hx hb d_Trees_takeLeast_43 (by decide) ?_
      refine lv_goto (tgt := 48) hx hb d_Trees_takeLeast_44 (by decide) ?_
      refine lv_istore_n (lv' := [(1, .int (1 : Int32)), (0, .ref h_t)]) hx hb d_Trees_takeLeast_48 rfl hl (by decide) rfl (fun ls hl => ?_)
      refine lv_iload_n hx hb d_Trees_takeLeast_49 rfl (lv_at hl 0 rfl) ?_
      refine lv_if_eq (tgt := 60) hx hb d_Trees_takeLeast_50 (by decide) (fun c6 => ?_) (fun c6 => ?_)
      skip
      · exact absurd c6 (by decide)
      refine lv_aload_n hx hb d_Trees_takeLeast_53 rfl (lv_at hl 1 rfl) ?_
      refine va_get (D := (dC, dI)) (ci := 8) (v := .int v_t_nextLeaf) (C := R_Trees) (T := F_Trees) (N := 9) hx hb ht in_Trees hown hK hP 0 rfl rfl 7 (by decide) (ht _ k_139) (fun _ h9 => h9) rfl d_Trees_takeLeast_54 ?_
      refine lv_goto (tgt := 64) hx hb d_Trees_takeLeast_57 (by decide) ?_
      refine lv_istore_n (lv' := [(2, .int v_t_nextLeaf), (1, .int (1 : Int32)), (0, .ref h_t)]) hx hb d_Trees_takeLeast_64 rfl hl (by decide) rfl (fun ls hl => ?_)
      refine lv_iload_n hx hb d_Trees_takeLeast_65 rfl (lv_at hl 1 rfl) ?_
      refine lv_if_eq (tgt := 82) hx hb d_Trees_takeLeast_66 (by decide) (fun c7 => ?_) (fun c7 => ?_)
      skip
      · exact absurd c7 (by decide)
      refine lv_aload_n hx hb d_Trees_takeLeast_69 rfl (lv_at hl 2 rfl) ?_
      refine lv_dup hx hb d_Trees_takeLeast_70 rfl ?_
      refine va_get (D := (dC, dI)) (ci := 8) (v := .int v_t_nextLeaf) (C := R_Trees) (T := F_Trees) (N := 9) hx hb ht in_Trees hown hK hP 0 rfl rfl 7 (by decide) (ht _ k_139) (fun _ h9 => h9) rfl d_Trees_takeLeast_71 ?_
      refine lv_iconst (v := (1 : Int32)) hx hb d_Trees_takeLeast_74 (by decide) ?_
      refine lv_iadd hx hb d_Trees_takeLeast_75 ?_
      refine va_put (D := (dC, dI)) (ci := 8) (v := .int (v_t_nextLeaf + (1 : Int32))) (ty := .int) (C := R_Trees) (T := F_Trees) (N := 9) hx hb ht in_Trees t_Trees t_Trees_ok n_Trees hown hK hP hD hS 0 rfl rfl 7 (by decide) (ht _ k_139) (fun _ h9 => h9) rfl (by decide +kernel) rfl rfl (Nat.le_of_ble_eq_true rfl) d_Trees_takeLeast_76 (fun H locs hP hD hS => ?_)
      have hP : va_P (dC, dI) vwCl [(h_t, .inr (8, [.ref h_t_weights, .ref h_t_parents, .ref h_t_depths, .ref h_t_leafSymbols, .ref h_t_shrunk, .int v_t_leaves, .int v_t_made, .int (v_t_nextLeaf + (1 : Int32)), .int v_t_nextJoined])), (h_t_weights, .inl (cI, 572, .inl f_t_weights))] H := hP
      have hD : va_D A [(h_t, .inr (8, [.ref h_t_weights, .ref h_t_parents, .ref h_t_depths, .ref h_t_leafSymbols, .ref h_t_shrunk, .int v_t_leaves, .int v_t_made, .int (v_t_nextLeaf + (1 : Int32)), .int v_t_nextJoined])), (h_t_weights, .inl (cI, 572, .inl f_t_weights))] := hD
      refine lv_goto (tgt := 92) hx hb d_Trees_takeLeast_79 (by decide) ?_
      refine lv_iload_n hx hb d_Trees_takeLeast_92 rfl (lv_at hl 0 rfl) ?_
      obtain rfl := Option.some.inj h
      exact W.iret (v := v_t_nextLeaf) hx hb hr (fun t ht hW => ⟨⟨_, (), rfl, rfl, by rw [ht]; exact hP, va_K.moved hW.alike hK, hD⟩, hS.F ht⟩) hS.2.2 d_Trees_takeLeast_93
    · replace h := ip_n c5 h
      refine lv_aload_n hx hb d_Trees_takeLeast_22 rfl (lv_at hl 0 rfl) ?_
      refine va_get (D := (dC, dI)) (ci := 8) (v := .ref h_t_weights) (C := R_Trees) (T := F_Trees) (N := 9) hx hb ht in_Trees hown hK hP 0 rfl rfl 0 (by decide) (ht _ k_132) (fun _ h9 => h9) rfl d_Trees_takeLeast_23 ?_
      refine lv_aload_n hx hb d_Trees_takeLeast_26 rfl (lv_at hl 0 rfl) ?_
      refine va_get (D := (dC, dI)) (ci := 8) (v := .int v_t_nextLeaf) (C := R_Trees) (T := F_Trees) (N := 9) hx hb ht in_Trees hown hK hP 0 rfl rfl 7 (by decide) (ht _ k_139) (fun _ h9 => h9) rfl d_Trees_takeLeast_27 ?_
      obtain ⟨g8, h⟩ := gd h
      refine va_iald hx hb hK hP 1 1 rfl rfl g8 d_Trees_takeLeast_30 ?_
      refine lv_aload_n hx hb d_Trees_takeLeast_31 rfl (lv_at hl 0 rfl) ?_
      refine va_get (D := (dC, dI)) (ci := 8) (v := .ref h_t_weights) (C := R_Trees) (T := F_Trees) (N := 9) hx hb ht in_Trees hown hK hP 0 rfl rfl 0 (by decide) (ht _ k_132) (fun _ h9 => h9) rfl d_Trees_takeLeast_32 ?_
      refine lv_aload_n hx hb d_Trees_takeLeast_35 rfl (lv_at hl 0 rfl) ?_
      refine va_get (D := (dC, dI)) (ci := 8) (v := .int v_t_nextJoined) (C := R_Trees) (T := F_Trees) (N := 9) hx hb ht in_Trees hown hK hP 0 rfl rfl 8 (by decide) (ht _ k_140) (fun _ h9 => h9) rfl d_Trees_takeLeast_36 ?_
      obtain ⟨g9, h⟩ := gd h
      refine va_iald hx hb hK hP 1 1 rfl rfl g9 d_Trees_takeLeast_39 ?_
      refine lv_tern (J := 48) (cd := (f_t_weights v_t_nextJoined.toNatClampNeg) < (f_t_weights v_t_nextLeaf.toNatClampNeg)) (a := (0 : Int32)) (b := (1 : Int32)) (rest := []) (fun k11 k12 => ?_) ?_
      · refine lv_icmp_gt (tgt := 47) hx hb d_Trees_takeLeast_40 (by decide) (fun c10 => ?_) (fun c10 => ?_)
        · refine lv_iconst (v := (0 : Int32)) hx hb d_Trees_takeLeast_47 (by decide) ?_
          exact k11 c10
        · refine lv_iconst (v := (1 : Int32)) hx hb d_Trees_takeLeast_43 (by decide) ?_
          refine lv_goto (tgt := 48) hx hb d_Trees_takeLeast_44 (by decide) ?_
          exact k12 c10
      refine lv_istore_n (lv' := [(1, .int (if (f_t_weights v_t_nextJoined.toNatClampNeg) < (f_t_weights v_t_nextLeaf.toNatClampNeg) then (0 : Int32) else (1 : Int32))), (0, .ref h_t)]) hx hb d_Trees_takeLeast_48 rfl hl (by decide) rfl (fun ls hl => ?_)
      refine lv_iload_n hx hb d_Trees_takeLeast_49 rfl (lv_at hl 0 rfl) ?_
      refine lv_tern (J := 64) (cd := (if (f_t_weights v_t_nextJoined.toNatClampNeg) < (f_t_weights v_t_nextLeaf.toNatClampNeg) then (0 : Int32) else (1 : Int32)) = 0) (a := v_t_nextJoined) (b := v_t_nextLeaf) (rest := []) (fun k14 k15 => ?_) ?_
      · refine lv_if_eq (tgt := 60) hx hb d_Trees_takeLeast_50 (by decide) (fun c13 => ?_) (fun c13 => ?_)
        · refine lv_aload_n hx hb d_Trees_takeLeast_60 rfl (lv_at hl 1 rfl) ?_
          refine va_get (D := (dC, dI)) (ci := 8) (v := .int v_t_nextJoined) (C := R_Trees) (T := F_Trees) (N := 9) hx hb ht in_Trees hown hK hP 0 rfl rfl 8 (by decide) (ht _ k_140) (fun _ h9 => h9) rfl d_Trees_takeLeast_61 ?_
          exact k14 c13
        · refine lv_aload_n hx hb d_Trees_takeLeast_53 rfl (lv_at hl 1 rfl) ?_
          refine va_get (D := (dC, dI)) (ci := 8) (v := .int v_t_nextLeaf) (C := R_Trees) (T := F_Trees) (N := 9) hx hb ht in_Trees hown hK hP 0 rfl rfl 7 (by decide) (ht _ k_139) (fun _ h9 => h9) rfl d_Trees_takeLeast_54 ?_
          refine lv_goto (tgt := 64) hx hb d_Trees_takeLeast_57 (by decide) ?_
          exact k15 c13
      refine lv_istore_n (lv' := [(2, .int (if (if (f_t_weights v_t_nextJoined.toNatClampNeg) < (f_t_weights v_t_nextLeaf.toNatClampNeg) then (0 : Int32) else (1 : Int32)) = 0 then v_t_nextJoined else v_t_nextLeaf)), (1, .int (if (f_t_weights v_t_nextJoined.toNatClampNeg) < (f_t_weights v_t_nextLeaf.toNatClampNeg) then (0 : Int32) else (1 : Int32))), (0, .ref h_t)]) hx hb d_Trees_takeLeast_64 rfl hl (by decide) rfl (fun ls hl => ?_)
      refine lv_iload_n hx hb d_Trees_takeLeast_65 rfl (lv_at hl 1 rfl) ?_
      refine lv_if_eq (tgt := 82) hx hb d_Trees_takeLeast_66 (by decide) (fun c16 => ?_) (fun c16 => ?_)
      · replace h := ip_p c16 h
        refine lv_aload_n hx hb d_Trees_takeLeast_82 rfl (lv_at hl 2 rfl) ?_
        refine lv_dup hx hb d_Trees_takeLeast_83 rfl ?_
        refine va_get (D := (dC, dI)) (ci := 8) (v := .int v_t_nextJoined) (C := R_Trees) (T := F_Trees) (N := 9) hx hb ht in_Trees hown hK hP 0 rfl rfl 8 (by decide) (ht _ k_140) (fun _ h9 => h9) rfl d_Trees_takeLeast_84 ?_
        refine lv_iconst (v := (1 : Int32)) hx hb d_Trees_takeLeast_87 (by decide) ?_
        refine lv_iadd hx hb d_Trees_takeLeast_88 ?_
        refine va_put (D := (dC, dI)) (ci := 8) (v := .int (v_t_nextJoined + (1 : Int32))) (ty := .int) (C := R_Trees) (T := F_Trees) (N := 9) hx hb ht in_Trees t_Trees t_Trees_ok n_Trees hown hK hP hD hS 0 rfl rfl 8 (by decide) (ht _ k_140) (fun _ h9 => h9) rfl (by decide +kernel) rfl rfl (Nat.le_of_ble_eq_true rfl) d_Trees_takeLeast_89 (fun H locs hP hD hS => ?_)
        have hP : va_P (dC, dI) vwCl [(h_t, .inr (8, [.ref h_t_weights, .ref h_t_parents, .ref h_t_depths, .ref h_t_leafSymbols, .ref h_t_shrunk, .int v_t_leaves, .int v_t_made, .int v_t_nextLeaf, .int (v_t_nextJoined + (1 : Int32))])), (h_t_weights, .inl (cI, 572, .inl f_t_weights))] H := hP
        have hD : va_D A [(h_t, .inr (8, [.ref h_t_weights, .ref h_t_parents, .ref h_t_depths, .ref h_t_leafSymbols, .ref h_t_shrunk, .int v_t_leaves, .int v_t_made, .int v_t_nextLeaf, .int (v_t_nextJoined + (1 : Int32))])), (h_t_weights, .inl (cI, 572, .inl f_t_weights))] := hD
        refine lv_iload_n hx hb d_Trees_takeLeast_92 rfl (lv_at hl 0 rfl) ?_
        obtain rfl := Option.some.inj h
        exact W.iret (v := if (if (f_t_weights v_t_nextJoined.toNatClampNeg) < (f_t_weights v_t_nextLeaf.toNatClampNeg) then (0 : Int32) else (1 : Int32)) = 0 then v_t_nextJoined else v_t_nextLeaf) hx hb hr (fun t ht hW => ⟨⟨_, (), rfl, rfl, by rw [ht]; exact hP, va_K.moved hW.alike hK, hD⟩, hS.F ht⟩) hS.2.2 d_Trees_takeLeast_93
      · replace h := ip_n c16 h
        refine lv_aload_n hx hb d_Trees_takeLeast_69 rfl (lv_at hl 2 rfl) ?_
        refine lv_dup hx hb d_Trees_takeLeast_70 rfl ?_
        refine va_get (D := (dC, dI)) (ci := 8) (v := .int v_t_nextLeaf) (C := R_Trees) (T := F_Trees) (N := 9) hx hb ht in_Trees hown hK hP 0 rfl rfl 7 (by decide) (ht _ k_139) (fun _ h9 => h9) rfl d_Trees_takeLeast_71 ?_
        refine lv_iconst (v := (1 : Int32)) hx hb d_Trees_takeLeast_74 (by decide) ?_
        refine lv_iadd hx hb d_Trees_takeLeast_75 ?_
        refine va_put (D := (dC, dI)) (ci := 8) (v := .int (v_t_nextLeaf + (1 : Int32))) (ty := .int) (C := R_Trees) (T := F_Trees) (N := 9) hx hb ht in_Trees t_Trees t_Trees_ok n_Trees hown hK hP hD hS 0 rfl rfl 7 (by decide) (ht _ k_139) (fun _ h9 => h9) rfl (by decide +kernel) rfl rfl (Nat.le_of_ble_eq_true rfl) d_Trees_takeLeast_76 (fun H locs hP hD hS => ?_)
        have hP : va_P (dC, dI) vwCl [(h_t, .inr (8, [.ref h_t_weights, .ref h_t_parents, .ref h_t_depths, .ref h_t_leafSymbols, .ref h_t_shrunk, .int v_t_leaves, .int v_t_made, .int (v_t_nextLeaf + (1 : Int32)), .int v_t_nextJoined])), (h_t_weights, .inl (cI, 572, .inl f_t_weights))] H := hP
        have hD : va_D A [(h_t, .inr (8, [.ref h_t_weights, .ref h_t_parents, .ref h_t_depths, .ref h_t_leafSymbols, .ref h_t_shrunk, .int v_t_leaves, .int v_t_made, .int (v_t_nextLeaf + (1 : Int32)), .int v_t_nextJoined])), (h_t_weights, .inl (cI, 572, .inl f_t_weights))] := hD
        refine lv_goto (tgt := 92) hx hb d_Trees_takeLeast_79 (by decide) ?_
        refine lv_iload_n hx hb d_Trees_takeLeast_92 rfl (lv_at hl 0 rfl) ?_
        obtain rfl := Option.some.inj h
        exact W.iret (v := if (if (f_t_weights v_t_nextJoined.toNatClampNeg) < (f_t_weights v_t_nextLeaf.toNatClampNeg) then (0 : Int32) else (1 : Int32)) = 0 then v_t_nextJoined else v_t_nextLeaf) hx hb hr (fun t ht hW => ⟨⟨_, (), rfl, rfl, by rw [ht]; exact hP, va_K.moved hW.alike hK, hD⟩, hS.F ht⟩) hS.2.2 d_Trees_takeLeast_93
/-! PackedBytes$Trees.joinAll()V -/
def fTrees_joinAll_30 (N : Nat) (v_t_leaves : Int32) (x1 : Int32) : Nat → (Int32) → (Int32) → (Int32) → (Nat → Int32) → (Nat → Int32) → Option (Int32 × Int32 × Int32 × (Nat → Int32) × (Nat → Int32))
  | 0, _, _, _, _, _ => none
  | k + 1, v_t_made, v_t_nextLeaf, v_t_nextJoined, f_t_weights, f_t_parents =>
    if x1 ≤ v_t_made then
      some (v_t_made, v_t_nextLeaf, v_t_nextJoined, f_t_weights, f_t_parents)
    else
      (fTrees_takeLeast N v_t_leaves v_t_made v_t_nextLeaf v_t_nextJoined f_t_weights).bind (fun y2 =>
        (fTrees_takeLeast N v_t_leaves v_t_made y2.2.1 y2.2.2 f_t_weights).bind (fun y3 =>
          if ¬ (y2.1 < 0 ∨ 572 ≤ y2.1.toNatClampNeg) then
            if ¬ (y3.1 < 0 ∨ 572 ≤ y3.1.toNatClampNeg) then
              if ¬ (v_t_made < 0 ∨ 572 ≤ v_t_made.toNatClampNeg) then
                if ¬ (y2.1 < 0 ∨ 572 ≤ y2.1.toNatClampNeg) then
                  if ¬ (y3.1 < 0 ∨ 572 ≤ y3.1.toNatClampNeg) then
                    fTrees_joinAll_30 N v_t_leaves x1 k (v_t_made + (1 : Int32)) y3.2.1 y3.2.2 (upd f_t_weights v_t_made.toNatClampNeg ((f_t_weights y2.1.toNatClampNeg) + (f_t_weights y3.1.toNatClampNeg))) (upd (upd f_t_parents y2.1.toNatClampNeg v_t_made) y3.1.toNatClampNeg v_t_made)
                  else none
                else none
              else none
            else none
          else none))
def fTrees_joinAll_120 (N : Nat) (f_t_parents : Nat → Int32) : Nat → (Int32) → (Nat → Int32) → Option ((Nat → Int32))
  | 0, _, _ => none
  | k + 1, x2, f_t_depths =>
    if x2 < 0 then
      some f_t_depths
    else
      if ¬ (x2 < 0 ∨ 572 ≤ x2.toNatClampNeg) then
        if ¬ ((f_t_parents x2.toNatClampNeg) < 0 ∨ 572 ≤ (f_t_parents x2.toNatClampNeg).toNatClampNeg) then
          if ¬ (x2 < 0 ∨ 572 ≤ x2.toNatClampNeg) then
            fTrees_joinAll_120 N f_t_parents k (x2 + (-1 : Int32)) (upd f_t_depths x2.toNatClampNeg ((f_t_depths (f_t_parents x2.toNatClampNeg).toNatClampNeg) + (1 : Int32)))
          else none
        else none
      else none
def fTrees_joinAll (N : Nat) (v_t_leaves : Int32) (f_t_weights : Nat → Int32) (f_t_parents : Nat → Int32) (f_t_depths : Nat → Int32) : Option (Int32 × Int32 × Int32 × (Nat → Int32) × (Nat → Int32) × (Nat → Int32)) :=
    (fTrees_joinAll_30 N v_t_leaves (((2 : Int32) * v_t_leaves) - (1 : Int32)) N v_t_leaves (0 : Int32) v_t_leaves f_t_weights f_t_parents).bind (fun y9 =>
      if (((2 : Int32) * v_t_leaves) - (1 : Int32)) ≤ 0 then
        (fTrees_joinAll_120 N y9.2.2.2.2 N ((((2 : Int32) * v_t_leaves) - (1 : Int32)) - (2 : Int32)) f_t_depths).bind (fun y15 =>
          some (y9.1, y9.2.1, y9.2.2.1, y9.2.2.2.1, y9.2.2.2.2, y15))
      else
        if ¬ (((((2 : Int32) * v_t_leaves) - (1 : Int32)) - (1 : Int32)) < 0 ∨ 572 ≤ ((((2 : Int32) * v_t_leaves) - (1 : Int32)) - (1 : Int32)).toNatClampNeg) then
          (fTrees_joinAll_120 N y9.2.2.2.2 N ((((2 : Int32) * v_t_leaves) - (1 : Int32)) - (2 : Int32)) (upd f_t_depths ((((2 : Int32) * v_t_leaves) - (1 : Int32)) - (1 : Int32)).toNatClampNeg (0 : Int32))).bind (fun y17 =>
            some (y9.1, y9.2.1, y9.2.2.1, y9.2.2.2.1, y9.2.2.2.2, y17))
        else none)
set_option maxHeartbeats 4000000 in
set_option maxRecDepth 100000 in
theorem wTrees_joinAll_30 {p : Program} {l : Launch} {e : Env} {s : State} {m : MethodId} {args : Array Value} {below : List Frame} {meth : Method} {c : Code} {Q : State → Prop} {A : Nat → Prop} {dC : Nat → ClassId} {dI : Nat → Nat → Nat} (h_t h_t_weights h_t_parents h_t_depths h_t_leafSymbols h_t_shrunk : Nat) (cB cI cJ : ClassId) (N : Nat) (v_t_leaves : Int32) (f_t_depths : Nat → Int32) (x1 : Int32) (C : CX p s m args c b_Trees_joinAll 4 R_Trees A (dC, dI) [(cB, .byte), (cI, .int), (cJ, .long)]) :
    ∀ (n : Nat) (v_t_made : Int32) (v_t_nextLeaf : Int32) (v_t_nextJoined : Int32) (f_t_weights : Nat → Int32) (f_t_parents : Nat → Int32) (H : Heap) (locs : List Loc) (ls : Array Slot) (o : Int32 × Int32 × Int32 × (Nat → Int32) × (Nat → Int32)), va_P (dC, dI) vwCl [(h_t, .inr (8, [.ref h_t_weights, .ref h_t_parents, .ref h_t_depths, .ref h_t_leafSymbols, .ref h_t_shrunk, .int v_t_leaves, .int v_t_made, .int v_t_nextLeaf, .int v_t_nextJoined])), (h_t_weights, .inl (cI, 572, .inl f_t_weights)), (h_t_parents, .inl (cI, 572, .inl f_t_parents)), (h_t_depths, .inl (cI, 572, .inl f_t_depths))] H → va_D A [(h_t, .inr (8, [.ref h_t_weights, .ref h_t_parents, .ref h_t_depths, .ref h_t_leafSymbols, .ref h_t_shrunk, .int v_t_leaves, .int v_t_made, .int v_t_nextLeaf, .int v_t_nextJoined])), (h_t_weights, .inl (cI, 572, .inl f_t_weights)), (h_t_parents, .inl (cI, 572, .inl f_t_parents)), (h_t_depths, .inl (cI, 572, .inl f_t_depths))] → va_S A s.heap H locs → lv_has ls 4 [(0, .ref h_t), (1, .int x1)] → fTrees_joinAll_30 N v_t_leaves x1 n v_t_made v_t_nextLeaf v_t_nextJoined f_t_weights f_t_parents = some o → (∀ (H : Heap) (locs : List Loc) (ls : Array Slot), va_P (dC, dI) vwCl [(h_t, .inr (8, [.ref h_t_weights, .ref h_t_parents, .ref h_t_depths, .ref h_t_leafSymbols, .ref h_t_shrunk, .int v_t_leaves, .int o.1, .int o.2.1, .int o.2.2.1])), (h_t_weights, .inl (cI, 572, .inl o.2.2.2.1)), (h_t_parents, .inl (cI, 572, .inl o.2.2.2.2)), (h_t_depths, .inl (cI, 572, .inl f_t_depths))] H → va_D A [(h_t, .inr (8, [.ref h_t_weights, .ref h_t_parents, .ref h_t_depths, .ref h_t_leafSymbols, .ref h_t_shrunk, .int v_t_leaves, .int o.1, .int o.2.1, .int o.2.2.1])), (h_t_weights, .inl (cI, 572, .inl o.2.2.2.1)), (h_t_parents, .inl (cI, 572, .inl o.2.2.2.2)), (h_t_depths, .inl (cI, 572, .inl f_t_depths))] → va_S A s.heap H locs → lv_has ls 4 [(0, .ref h_t), (1, .int x1)] → W p l e ({ frames := 1, cells := 0, slots := 0, locals := 22 } : Room) s m args below meth c H locs 0 0 Q (F0 m 103 ls [])) → W p l e ({ frames := 1, cells := 0, slots := 0, locals := 22 } : Room) s m args below meth c H locs 0 0 Q (F0 m 30 ls []) := by
  obtain ⟨hx, hb, hml, hown, ht, hA, hK, hN⟩ := id C
  intro n
  induction n with
  | zero => intro v_t_made v_t_nextLeaf v_t_nextJoined f_t_weights f_t_parents H locs ls o _ _ _ _ h; exact nomatch h
  | succ k ih =>
    intro v_t_made v_t_nextLeaf v_t_nextJoined f_t_weights f_t_parents H locs ls o hP hD hS hl h kx
    refine lv_aload_n hx hb d_Trees_joinAll_30 rfl (lv_at hl 0 rfl) ?_
    refine va_get (D := (dC, dI)) (ci := 8) (v := .int v_t_made) (C := R_Trees) (T := F_Trees) (N := 9) hx hb ht in_Trees hown hK hP 0 rfl rfl 6 (by decide) (ht _ k_138) (fun _ h9 => h9) rfl d_Trees_joinAll_31 ?_
    refine lv_iload_n hx hb d_Trees_joinAll_34 rfl (lv_at hl 1 rfl) ?_
    refine lv_icmp_ge (tgt := 103) hx hb d_Trees_joinAll_35 (by decide) (fun c1 => ?_) (fun c1 => ?_)
    · replace h := ip_p c1 h
      obtain rfl := Option.some.inj h
      exact kx _ _ _ hP hD hS (lv_sub hl [0, 1] rfl)
    · replace h := ip_n c1 h
      refine lv_aload_n hx hb d_Trees_joinAll_38 rfl (lv_at hl 0 rfl) ?_
      obtain ⟨y2, hy2, h⟩ := bd h
      have hPc := hP.sub (ws' := [(h_t, .inr (8, [.ref h_t_weights, .ref h_t_parents, .ref h_t_depths, .ref h_t_leafSymbols, .ref h_t_shrunk, .int v_t_leaves, .int v_t_made, .int v_t_nextLeaf, .int v_t_nextJoined])), (h_t_weights, .inl (cI, 572, .inl f_t_weights))]) [0, 1] rfl
      have hDc := hD.sub (ws' := [(h_t, .inr (8, [.ref h_t_weights, .ref h_t_parents, .ref h_t_depths, .ref h_t_leafSymbols, .ref h_t_shrunk, .int v_t_leaves, .int v_t_made, .int v_t_nextLeaf, .int v_t_nextJoined])), (h_t_weights, .inl (cI, 572, .inl f_t_weights))]) [0, 1] (by decide) rfl
      have hFc := va_free (wc := [(h_t, .inr (8, [.ref h_t_weights, .ref h_t_parents, .ref h_t_depths, .ref h_t_leafSymbols, .ref h_t_shrunk, .int v_t_leaves, .int v_t_made, .int v_t_nextLeaf, .int v_t_nextJoined])), (h_t_weights, .inl (cI, 572, .inl f_t_weights))]) hD hS hA [0, 1] rfl
      refine va_calli (va_runV (As := []) (rest := []) ⟨hx, hb, hml, hown, ht⟩ (cTrees_takeLeast l dC dI h_t h_t_weights h_t_parents h_t_depths h_t_leafSymbols h_t_shrunk cB cI cJ _ N v_t_leaves v_t_made v_t_nextLeaf v_t_nextJoined f_t_weights y2 hy2) (⟨callB_of 0 ht (gTB (k_527)) rfl rfl rfl (ht _ k_68) (ht _ k_524) (by decide +kernel) ⟨Nat.le_of_ble_eq_true rfl, Nat.le_of_ble_eq_true rfl⟩, ht _ k_526, ht _ k_10⟩) ⟨fun a U g mk q => by obtain ⟨q0, q1, qP, qK, qD, qN⟩ := q; exact ⟨q0, q1, qP, va_K.moved (u := U) (U := U.calling g mk a) (Vm.Alike.refl U.vm) qK, qD, NW_same (u := U) rfl qN⟩, va_recv hK hPc (ci := 8) (q0 := 0) rfl rfl, fun U hU hW => ⟨rfl, by rw [hU], by rw [hU]; exact hPc, va_K.moved hW.alike hK, hDc.weaken (fun _ _ _ _ => trivial), NW_warm hW hN⟩⟩ rfl rfl hl.1 rfl (lv_room (Nat.le_of_ble_eq_true rfl)) d_Trees_joinAll_39 ⟨Nat.le_of_ble_eq_true rfl, Nat.le_of_ble_eq_true rfl⟩) hS (fun q _ h => hFc q h) hFc (fun ry2 u t H1 locs htH hvm hw hB hz1 hk1 hS => ?_)
      obtain ⟨hP1, hK1, hD1⟩ := hB
      rw [htH] at hP1
      obtain ⟨hP, hD⟩ := va_join (wr := [(h_t_parents, .inl (cI, 572, .inl f_t_parents)), (h_t_depths, .inl (cI, 572, .inl f_t_depths))]) (w1 := [(h_t, .inr (8, [.ref h_t_weights, .ref h_t_parents, .ref h_t_depths, .ref h_t_leafSymbols, .ref h_t_shrunk, .int v_t_leaves, .int v_t_made, .int y2.2.1, .int y2.2.2])), (h_t_weights, .inl (cI, 572, .inl f_t_weights))]) hP hD [0, 1] [2, 3] rfl rfl (by decide) (by decide) hk1 hFc hP1 hD1
      generalize H1 = H at hP hS ⊢
      have hP : va_P (dC, dI) vwCl [(h_t, .inr (8, [.ref h_t_weights, .ref h_t_parents, .ref h_t_depths, .ref h_t_leafSymbols, .ref h_t_shrunk, .int v_t_leaves, .int v_t_made, .int y2.2.1, .int y2.2.2])), (h_t_weights, .inl (cI, 572, .inl f_t_weights)), (h_t_parents, .inl (cI, 572, .inl f_t_parents)), (h_t_depths, .inl (cI, 572, .inl f_t_depths))] H := hP.sub [2, 3, 0, 1] rfl
      have hD : va_D A [(h_t, .inr (8, [.ref h_t_weights, .ref h_t_parents, .ref h_t_depths, .ref h_t_leafSymbols, .ref h_t_shrunk, .int v_t_leaves, .int v_t_made, .int y2.2.1, .int y2.2.2])), (h_t_weights, .inl (cI, 572, .inl f_t_weights)), (h_t_parents, .inl (cI, 572, .inl f_t_parents)), (h_t_depths, .inl (cI, 572, .inl f_t_depths))] := hD.sub [2, 3, 0, 1] (by decide) rfl
      replace hw := hw.symm
      subst hw
      refine lv_istore_n (lv' := [(2, .int y2.1), (0, .ref h_t), (1, .int x1)]) hx hb d_Trees_joinAll_42 rfl hl (by decide) rfl (fun ls hl => ?_)
      refine lv_aload_n hx hb d_Trees_joinAll_43 rfl (lv_at hl 1 rfl) ?_
      obtain ⟨y3, hy3, h⟩ := bd h
      have hPc := hP.sub (ws' := [(h_t, .inr (8, [.ref h_t_weights, .ref h_t_parents, .ref h_t_depths, .ref h_t_leafSymbols, .ref h_t_shrunk, .int v_t_leaves, .int v_t_made, .int y2.2.1, .int y2.2.2])), (h_t_weights, .inl (cI, 572, .inl f_t_weights))]) [0, 1] rfl
      have hDc := hD.sub (ws' := [(h_t, .inr (8, [.ref h_t_weights, .ref h_t_parents, .ref h_t_depths, .ref h_t_leafSymbols, .ref h_t_shrunk, .int v_t_leaves, .int v_t_made, .int y2.2.1, .int y2.2.2])), (h_t_weights, .inl (cI, 572, .inl f_t_weights))]) [0, 1] (by decide) rfl
      have hFc := va_free (wc := [(h_t, .inr (8, [.ref h_t_weights, .ref h_t_parents, .ref h_t_depths, .ref h_t_leafSymbols, .ref h_t_shrunk, .int v_t_leaves, .int v_t_made, .int y2.2.1, .int y2.2.2])), (h_t_weights, .inl (cI, 572, .inl f_t_weights))]) hD hS hA [0, 1] rfl
      refine va_calli (va_runV (As := []) (rest := []) ⟨hx, hb, hml, hown, ht⟩ (cTrees_takeLeast l dC dI h_t h_t_weights h_t_parents h_t_depths h_t_leafSymbols h_t_shrunk cB cI cJ _ N v_t_leaves v_t_made y2.2.1 y2.2.2 f_t_weights y3 hy3) (⟨callB_of 0 ht (gTB (k_527)) rfl rfl rfl (ht _ k_68) (ht _ k_524) (by decide +kernel) ⟨Nat.le_of_ble_eq_true rfl, Nat.le_of_ble_eq_true rfl⟩, ht _ k_526, ht _ k_10⟩) ⟨fun a U g mk q => by obtain ⟨q0, q1, qP, qK, qD, qN⟩ := q; exact ⟨q0, q1, qP, va_K.moved (u := U) (U := U.calling g mk a) (Vm.Alike.refl U.vm) qK, qD, NW_same (u := U) rfl qN⟩, va_recv hK hPc (ci := 8) (q0 := 0) rfl rfl, fun U hU hW => ⟨rfl, by rw [hU], by rw [hU]; exact hPc, va_K.moved hW.alike hK, hDc.weaken (fun _ _ _ _ => trivial), NW_warm hW hN⟩⟩ rfl rfl hl.1 rfl (lv_room (Nat.le_of_ble_eq_true rfl)) d_Trees_joinAll_44 ⟨Nat.le_of_ble_eq_true rfl, Nat.le_of_ble_eq_true rfl⟩) hS (fun q _ h => hFc q h) hFc (fun ry3 u t H1 locs htH hvm hw hB hz1 hk1 hS => ?_)
      obtain ⟨hP1, hK1, hD1⟩ := hB
      rw [htH] at hP1
      obtain ⟨hP, hD⟩ := va_join (wr := [(h_t_parents, .inl (cI, 572, .inl f_t_parents)), (h_t_depths, .inl (cI, 572, .inl f_t_depths))]) (w1 := [(h_t, .inr (8, [.ref h_t_weights, .ref h_t_parents, .ref h_t_depths, .ref h_t_leafSymbols, .ref h_t_shrunk, .int v_t_leaves, .int v_t_made, .int y3.2.1, .int y3.2.2])), (h_t_weights, .inl (cI, 572, .inl f_t_weights))]) hP hD [0, 1] [2, 3] rfl rfl (by decide) (by decide) hk1 hFc hP1 hD1
      generalize H1 = H at hP hS ⊢
      have hP : va_P (dC, dI) vwCl [(h_t, .inr (8, [.ref h_t_weights, .ref h_t_parents, .ref h_t_depths, .ref h_t_leafSymbols, .ref h_t_shrunk, .int v_t_leaves, .int v_t_made, .int y3.2.1, .int y3.2.2])), (h_t_weights, .inl (cI, 572, .inl f_t_weights)), (h_t_parents, .inl (cI, 572, .inl f_t_parents)), (h_t_depths, .inl (cI, 572, .inl f_t_depths))] H := hP.sub [2, 3, 0, 1] rfl
      have hD : va_D A [(h_t, .inr (8, [.ref h_t_weights, .ref h_t_parents, .ref h_t_depths, .ref h_t_leafSymbols, .ref h_t_shrunk, .int v_t_leaves, .int v_t_made, .int y3.2.1, .int y3.2.2])), (h_t_weights, .inl (cI, 572, .inl f_t_weights)), (h_t_parents, .inl (cI, 572, .inl f_t_parents)), (h_t_depths, .inl (cI, 572, .inl f_t_depths))] := hD.sub [2, 3, 0, 1] (by decide) rfl
      replace hw := hw.symm
      subst hw
      refine lv_istore_n (lv' := [(3, .int y3.1), (2, .int y2.1), (0, .ref h_t), (1, .int x1)]) hx hb d_Trees_joinAll_47 rfl hl (by decide) rfl (fun ls hl => ?_)
      refine lv_aload_n hx hb d_Trees_joinAll_48 rfl (lv_at hl 2 rfl) ?_
      refine va_get (D := (dC, dI)) (ci := 8) (v := .ref h_t_weights) (C := R_Trees) (T := F_Trees) (N := 9) hx hb ht in_Trees hown hK hP 0 rfl rfl 0 (by decide) (ht _ k_132) (fun _ h9 => h9) rfl d_Trees_joinAll_49 ?_
      refine lv_aload_n hx hb d_Trees_joinAll_52 rfl (lv_at hl 2 rfl) ?_
      refine va_get (D := (dC, dI)) (ci := 8) (v := .int v_t_made) (C := R_Trees) (T := F_Trees) (N := 9) hx hb ht in_Trees hown hK hP 0 rfl rfl 6 (by decide) (ht _ k_138) (fun _ h9 => h9) rfl d_Trees_joinAll_53 ?_
      refine lv_aload_n hx hb d_Trees_joinAll_56 rfl (lv_at hl 2 rfl) ?_
      refine va_get (D := (dC, dI)) (ci := 8) (v := .ref h_t_weights) (C := R_Trees) (T := F_Trees) (N := 9) hx hb ht in_Trees hown hK hP 0 rfl rfl 0 (by decide) (ht _ k_132) (fun _ h9 => h9) rfl d_Trees_joinAll_57 ?_
      refine lv_iload_n hx hb d_Trees_joinAll_60 rfl (lv_at hl 1 rfl) ?_
      obtain ⟨g4, h⟩ := gd h
      refine va_iald hx hb hK hP 1 1 rfl rfl g4 d_Trees_joinAll_61 ?_
      refine lv_aload_n hx hb d_Trees_joinAll_62 rfl (lv_at hl 2 rfl) ?_
      refine va_get (D := (dC, dI)) (ci := 8) (v := .ref h_t_weights) (C := R_Trees) (T := F_Trees) (N := 9) hx hb ht in_Trees hown hK hP 0 rfl rfl 0 (by decide) (ht _ k_132) (fun _ h9 => h9) rfl d_Trees_joinAll_63 ?_
      refine lv_iload_n hx hb d_Trees_joinAll_66 rfl (lv_at hl 0 rfl) ?_
      obtain ⟨g5, h⟩ := gd h
      refine va_iald hx hb hK hP 1 1 rfl rfl g5 d_Trees_joinAll_67 ?_
      refine lv_iadd hx hb d_Trees_joinAll_68 ?_
      obtain ⟨g6, h⟩ := gd h
      refine va_iast hx hb hK hP hD hS 1 1 rfl rfl g6 d_Trees_joinAll_69 (fun H locs hP hD hS => ?_)
      have hP : va_P (dC, dI) vwCl [(h_t, .inr (8, [.ref h_t_weights, .ref h_t_parents, .ref h_t_depths, .ref h_t_leafSymbols, .ref h_t_shrunk, .int v_t_leaves, .int v_t_made, .int y3.2.1, .int y3.2.2])), (h_t_weights, .inl (cI, 572, .inl (upd f_t_weights v_t_made.toNatClampNeg ((f_t_weights y2.1.toNatClampNeg) + (f_t_weights y3.1.toNatClampNeg))))), (h_t_parents, .inl (cI, 572, .inl f_t_parents)), (h_t_depths, .inl (cI, 572, .inl f_t_depths))] H := hP
      have hD : va_D A [(h_t, .inr (8, [.ref h_t_weights, .ref h_t_parents, .ref h_t_depths, .ref h_t_leafSymbols, .ref h_t_shrunk, .int v_t_leaves, .int v_t_made, .int y3.2.1, .int y3.2.2])), (h_t_weights, .inl (cI, 572, .inl (upd f_t_weights v_t_made.toNatClampNeg ((f_t_weights y2.1.toNatClampNeg) + (f_t_weights y3.1.toNatClampNeg))))), (h_t_parents, .inl (cI, 572, .inl f_t_parents)), (h_t_depths, .inl (cI, 572, .inl f_t_depths))] := hD
      refine lv_aload_n hx hb d_Trees_joinAll_70 rfl (lv_at hl 2 rfl) ?_
      refine va_get (D := (dC, dI)) (ci := 8) (v := .ref h_t_parents) (C := R_Trees) (T := F_Trees) (N := 9) hx hb ht in_Trees hown hK hP 0 rfl rfl 1 (by decide) (ht _ k_133) (fun _ h9 => h9) rfl d_Trees_joinAll_71 ?_
      refine lv_iload_n hx hb d_Trees_joinAll_74 rfl (lv_at hl 1 rfl) ?_
      refine lv_aload_n hx hb d_Trees_joinAll_75 rfl (lv_at hl 2 rfl) ?_
      refine va_get (D := (dC, dI)) (ci := 8) (v := .int v_t_made) (C := R_Trees) (T := F_Trees) (N := 9) hx hb ht in_Trees hown hK hP 0 rfl rfl 6 (by decide) (ht _ k_138) (fun _ h9 => h9) rfl d_Trees_joinAll_76 ?_
      obtain ⟨g7, h⟩ := gd h
      refine va_iast hx hb hK hP hD hS 2 1 rfl rfl g7 d_Trees_joinAll_79 (fun H locs hP hD hS => ?_)
      have hP : va_P (dC, dI) vwCl [(h_t, .inr (8, [.ref h_t_weights, .ref h_t_parents, .ref h_t_depths, .ref h_t_leafSymbols, .ref h_t_shrunk, .int v_t_leaves, .int v_t_made, .int y3.2.1, .int y3.2.2])), (h_t_weights, .inl (cI, 572, .inl (upd f_t_weights v_t_made.toNatClampNeg ((f_t_weights y2.1.toNatClampNeg) + (f_t_weights y3.1.toNatClampNeg))))), (h_t_parents, .inl (cI, 572, .inl (upd f_t_parents y2.1.toNatClampNeg v_t_made))), (h_t_depths, .inl (cI, 572, .inl f_t_depths))] H := hP
      have hD : va_D A [(h_t, .inr (8, [.ref h_t_weights, .ref h_t_parents, .ref h_t_depths, .ref h_t_leafSymbols, .ref h_t_shrunk, .int v_t_leaves, .int v_t_made, .int y3.2.1, .int y3.2.2])), (h_t_weights, .inl (cI, 572, .inl (upd f_t_weights v_t_made.toNatClampNeg ((f_t_weights y2.1.toNatClampNeg) + (f_t_weights y3.1.toNatClampNeg))))), (h_t_parents, .inl (cI, 572, .inl (upd f_t_parents y2.1.toNatClampNeg v_t_made))), (h_t_depths, .inl (cI, 572, .inl f_t_depths))] := hD
      refine lv_aload_n hx hb d_Trees_joinAll_80 rfl (lv_at hl 2 rfl) ?_
      refine va_get (D := (dC, dI)) (ci := 8) (v := .ref h_t_parents) (C := R_Trees) (T := F_Trees) (N := 9) hx hb ht in_Trees hown hK hP 0 rfl rfl 1 (by decide) (ht _ k_133) (fun _ h9 => h9) rfl d_Trees_joinAll_81 ?_
      refine lv_iload_n hx hb d_Trees_joinAll_84 rfl (lv_at hl 0 rfl) ?_
      refine lv_aload_n hx hb d_Trees_joinAll_85 rfl (lv_at hl 2 rfl) ?_
      refine va_get (D := (dC, dI)) (ci := 8) (v := .int v_t_made) (C := R_Trees) (T := F_Trees) (N := 9) hx hb ht in_Trees hown hK hP 0 rfl rfl 6 (by decide) (ht _ k_138) (fun _ h9 => h9) rfl d_Trees_joinAll_86 ?_
      obtain ⟨g8, h⟩ := gd h
      refine va_iast hx hb hK hP hD hS 2 1 rfl rfl g8 d_Trees_joinAll_89 (fun H locs hP hD hS => ?_)
      have hP : va_P (dC, dI) vwCl [(h_t, .inr (8, [.ref h_t_weights, .ref h_t_parents, .ref h_t_depths, .ref h_t_leafSymbols, .ref h_t_shrunk, .int v_t_leaves, .int v_t_made, .int y3.2.1, .int y3.2.2])), (h_t_weights, .inl (cI, 572, .inl (upd f_t_weights v_t_made.toNatClampNeg ((f_t_weights y2.1.toNatClampNeg) + (f_t_weights y3.1.toNatClampNeg))))), (h_t_parents, .inl (cI, 572, .inl (upd (upd f_t_parents y2.1.toNatClampNeg v_t_made) y3.1.toNatClampNeg v_t_made))), (h_t_depths, .inl (cI, 572, .inl f_t_depths))] H := hP
      have hD : va_D A [(h_t, .inr (8, [.ref h_t_weights, .ref h_t_parents, .ref h_t_depths, .ref h_t_leafSymbols, .ref h_t_shrunk, .int v_t_leaves, .int v_t_made, .int y3.2.1, .int y3.2.2])), (h_t_weights, .inl (cI, 572, .inl (upd f_t_weights v_t_made.toNatClampNeg ((f_t_weights y2.1.toNatClampNeg) + (f_t_weights y3.1.toNatClampNeg))))), (h_t_parents, .inl (cI, 572, .inl (upd (upd f_t_parents y2.1.toNatClampNeg v_t_made) y3.1.toNatClampNeg v_t_made))), (h_t_depths, .inl (cI, 572, .inl f_t_depths))] := hD
      refine lv_aload_n hx hb d_Trees_joinAll_90 rfl (lv_at hl 2 rfl) ?_
      refine lv_dup hx hb d_Trees_joinAll_91 rfl ?_
      refine va_get (D := (dC, dI)) (ci := 8) (v := .int v_t_made) (C := R_Trees) (T := F_Trees) (N := 9) hx hb ht in_Trees hown hK hP 0 rfl rfl 6 (by decide) (ht _ k_138) (fun _ h9 => h9) rfl d_Trees_joinAll_92 ?_
      refine lv_iconst (v := (1 : Int32)) hx hb d_Trees_joinAll_95 (by decide) ?_
      refine lv_iadd hx hb d_Trees_joinAll_96 ?_
      refine va_put (D := (dC, dI)) (ci := 8) (v := .int (v_t_made + (1 : Int32))) (ty := .int) (C := R_Trees) (T := F_Trees) (N := 9) hx hb ht in_Trees t_Trees t_Trees_ok n_Trees hown hK hP hD hS 0 rfl rfl 6 (by decide) (ht _ k_138) (fun _ h9 => h9) rfl (by decide +kernel) rfl rfl (Nat.le_of_ble_eq_true rfl) d_Trees_joinAll_97 (fun H locs hP hD hS => ?_)
      have hP : va_P (dC, dI) vwCl [(h_t, .inr (8, [.ref h_t_weights, .ref h_t_parents, .ref h_t_depths, .ref h_t_leafSymbols, .ref h_t_shrunk, .int v_t_leaves, .int (v_t_made + (1 : Int32)), .int y3.2.1, .int y3.2.2])), (h_t_weights, .inl (cI, 572, .inl (upd f_t_weights v_t_made.toNatClampNeg ((f_t_weights y2.1.toNatClampNeg) + (f_t_weights y3.1.toNatClampNeg))))), (h_t_parents, .inl (cI, 572, .inl (upd (upd f_t_parents y2.1.toNatClampNeg v_t_made) y3.1.toNatClampNeg v_t_made))), (h_t_depths, .inl (cI, 572, .inl f_t_depths))] H := hP
      have hD : va_D A [(h_t, .inr (8, [.ref h_t_weights, .ref h_t_parents, .ref h_t_depths, .ref h_t_leafSymbols, .ref h_t_shrunk, .int v_t_leaves, .int (v_t_made + (1 : Int32)), .int y3.2.1, .int y3.2.2])), (h_t_weights, .inl (cI, 572, .inl (upd f_t_weights v_t_made.toNatClampNeg ((f_t_weights y2.1.toNatClampNeg) + (f_t_weights y3.1.toNatClampNeg))))), (h_t_parents, .inl (cI, 572, .inl (upd (upd f_t_parents y2.1.toNatClampNeg v_t_made) y3.1.toNatClampNeg v_t_made))), (h_t_depths, .inl (cI, 572, .inl f_t_depths))] := hD
      refine lv_goto (tgt := 30) hx hb d_Trees_joinAll_100 (by decide) ?_
      exact ih (v_t_made + (1 : Int32)) y3.2.1 y3.2.2 (upd f_t_weights v_t_made.toNatClampNeg ((f_t_weights y2.1.toNatClampNeg) + (f_t_weights y3.1.toNatClampNeg))) (upd (upd f_t_parents y2.1.toNatClampNeg v_t_made) y3.1.toNatClampNeg v_t_made) _ _ _ _ hP hD hS (lv_sub hl [2, 3] rfl) h kx
set_option maxHeartbeats 4000000 in
set_option maxRecDepth 100000 in
theorem wTrees_joinAll_120 {p : Program} {l : Launch} {e : Env} {s : State} {m : MethodId} {args : Array Value} {below : List Frame} {meth : Method} {c : Code} {Q : State → Prop} {A : Nat → Prop} {dC : Nat → ClassId} {dI : Nat → Nat → Nat} (h_t h_t_weights h_t_parents h_t_depths h_t_leafSymbols h_t_shrunk : Nat) (cB cI cJ : ClassId) (N : Nat) (v_t_leaves : Int32) (v_t_made : Int32) (v_t_nextLeaf : Int32) (v_t_nextJoined : Int32) (f_t_weights : Nat → Int32) (f_t_parents : Nat → Int32) (C : CX p s m args c b_Trees_joinAll 4 R_Trees A (dC, dI) [(cB, .byte), (cI, .int), (cJ, .long)]) :
    ∀ (n : Nat) (x2 : Int32) (f_t_depths : Nat → Int32) (H : Heap) (locs : List Loc) (ls : Array Slot) (o : (Nat → Int32)), va_P (dC, dI) vwCl [(h_t, .inr (8, [.ref h_t_weights, .ref h_t_parents, .ref h_t_depths, .ref h_t_leafSymbols, .ref h_t_shrunk, .int v_t_leaves, .int v_t_made, .int v_t_nextLeaf, .int v_t_nextJoined])), (h_t_weights, .inl (cI, 572, .inl f_t_weights)), (h_t_parents, .inl (cI, 572, .inl f_t_parents)), (h_t_depths, .inl (cI, 572, .inl f_t_depths))] H → va_D A [(h_t, .inr (8, [.ref h_t_weights, .ref h_t_parents, .ref h_t_depths, .ref h_t_leafSymbols, .ref h_t_shrunk, .int v_t_leaves, .int v_t_made, .int v_t_nextLeaf, .int v_t_nextJoined])), (h_t_weights, .inl (cI, 572, .inl f_t_weights)), (h_t_parents, .inl (cI, 572, .inl f_t_parents)), (h_t_depths, .inl (cI, 572, .inl f_t_depths))] → va_S A s.heap H locs → lv_has ls 4 [(0, .ref h_t), (2, .int x2)] → fTrees_joinAll_120 N f_t_parents n x2 f_t_depths = some o → (∀ (H : Heap) (locs : List Loc) (ls : Array Slot), va_P (dC, dI) vwCl [(h_t, .inr (8, [.ref h_t_weights, .ref h_t_parents, .ref h_t_depths, .ref h_t_leafSymbols, .ref h_t_shrunk, .int v_t_leaves, .int v_t_made, .int v_t_nextLeaf, .int v_t_nextJoined])), (h_t_weights, .inl (cI, 572, .inl f_t_weights)), (h_t_parents, .inl (cI, 572, .inl f_t_parents)), (h_t_depths, .inl (cI, 572, .inl o))] H → va_D A [(h_t, .inr (8, [.ref h_t_weights, .ref h_t_parents, .ref h_t_depths, .ref h_t_leafSymbols, .ref h_t_shrunk, .int v_t_leaves, .int v_t_made, .int v_t_nextLeaf, .int v_t_nextJoined])), (h_t_weights, .inl (cI, 572, .inl f_t_weights)), (h_t_parents, .inl (cI, 572, .inl f_t_parents)), (h_t_depths, .inl (cI, 572, .inl o))] → va_S A s.heap H locs → lv_has ls 4 [] → W p l e ({ frames := 1, cells := 0, slots := 0, locals := 22 } : Room) s m args below meth c H locs 0 0 Q (F0 m 149 ls [])) → W p l e ({ frames := 1, cells := 0, slots := 0, locals := 22 } : Room) s m args below meth c H locs 0 0 Q (F0 m 120 ls []) := by
  obtain ⟨hx, hb, hml, hown, ht, hA, hK, hN⟩ := id C
  intro n
  induction n with
  | zero => intro x2 f_t_depths H locs ls o _ _ _ _ h; exact nomatch h
  | succ k ih =>
    intro x2 f_t_depths H locs ls o hP hD hS hl h kx
    refine lv_iload_n hx hb d_Trees_joinAll_120 rfl (lv_at hl 1 rfl) ?_
    refine lv_if_lt (tgt := 149) hx hb d_Trees_joinAll_121 (by decide) (fun c11 => ?_) (fun c11 => ?_)
    · replace h := ip_p c11 h
      obtain rfl := Option.some.inj h
      exact kx _ _ _ hP hD hS (lv_sub hl [] rfl)
    · replace h := ip_n c11 h
      refine lv_aload_n hx hb d_Trees_joinAll_124 rfl (lv_at hl 0 rfl) ?_
      refine va_get (D := (dC, dI)) (ci := 8) (v := .ref h_t_depths) (C := R_Trees) (T := F_Trees) (N := 9) hx hb ht in_Trees hown hK hP 0 rfl rfl 2 (by decide) (ht _ k_134) (fun _ h9 => h9) rfl d_Trees_joinAll_125 ?_
      refine lv_iload_n hx hb d_Trees_joinAll_128 rfl (lv_at hl 1 rfl) ?_
      refine lv_aload_n hx hb d_Trees_joinAll_129 rfl (lv_at hl 0 rfl) ?_
      refine va_get (D := (dC, dI)) (ci := 8) (v := .ref h_t_depths) (C := R_Trees) (T := F_Trees) (N := 9) hx hb ht in_Trees hown hK hP 0 rfl rfl 2 (by decide) (ht _ k_134) (fun _ h9 => h9) rfl d_Trees_joinAll_130 ?_
      refine lv_aload_n hx hb d_Trees_joinAll_133 rfl (lv_at hl 0 rfl) ?_
      refine va_get (D := (dC, dI)) (ci := 8) (v := .ref h_t_parents) (C := R_Trees) (T := F_Trees) (N := 9) hx hb ht in_Trees hown hK hP 0 rfl rfl 1 (by decide) (ht _ k_133) (fun _ h9 => h9) rfl d_Trees_joinAll_134 ?_
      refine lv_iload_n hx hb d_Trees_joinAll_137 rfl (lv_at hl 1 rfl) ?_
      obtain ⟨g12, h⟩ := gd h
      refine va_iald hx hb hK hP 2 1 rfl rfl g12 d_Trees_joinAll_138 ?_
      obtain ⟨g13, h⟩ := gd h
      refine va_iald hx hb hK hP 3 1 rfl rfl g13 d_Trees_joinAll_139 ?_
      refine lv_iconst (v := (1 : Int32)) hx hb d_Trees_joinAll_140 (by decide) ?_
      refine lv_iadd hx hb d_Trees_joinAll_141 ?_
      obtain ⟨g14, h⟩ := gd h
      refine va_iast hx hb hK hP hD hS 3 1 rfl rfl g14 d_Trees_joinAll_142 (fun H locs hP hD hS => ?_)
      have hP : va_P (dC, dI) vwCl [(h_t, .inr (8, [.ref h_t_weights, .ref h_t_parents, .ref h_t_depths, .ref h_t_leafSymbols, .ref h_t_shrunk, .int v_t_leaves, .int v_t_made, .int v_t_nextLeaf, .int v_t_nextJoined])), (h_t_weights, .inl (cI, 572, .inl f_t_weights)), (h_t_parents, .inl (cI, 572, .inl f_t_parents)), (h_t_depths, .inl (cI, 572, .inl (upd f_t_depths x2.toNatClampNeg ((f_t_depths (f_t_parents x2.toNatClampNeg).toNatClampNeg) + (1 : Int32)))))] H := hP
      have hD : va_D A [(h_t, .inr (8, [.ref h_t_weights, .ref h_t_parents, .ref h_t_depths, .ref h_t_leafSymbols, .ref h_t_shrunk, .int v_t_leaves, .int v_t_made, .int v_t_nextLeaf, .int v_t_nextJoined])), (h_t_weights, .inl (cI, 572, .inl f_t_weights)), (h_t_parents, .inl (cI, 572, .inl f_t_parents)), (h_t_depths, .inl (cI, 572, .inl (upd f_t_depths x2.toNatClampNeg ((f_t_depths (f_t_parents x2.toNatClampNeg).toNatClampNeg) + (1 : Int32)))))] := hD
      refine lv_iinc (v := x2 + (-1 : Int32)) (lv' := [(2, .int (x2 + (-1 : Int32))), (0, .ref h_t)]) hx hb d_Trees_joinAll_143 hl (k := 1) rfl rfl (by decide) rfl (fun ls hl => ?_)
      refine lv_goto (tgt := 120) hx hb d_Trees_joinAll_146 (by decide) ?_
      exact ih (x2 + (-1 : Int32)) (upd f_t_depths x2.toNatClampNeg ((f_t_depths (f_t_parents x2.toNatClampNeg).toNatClampNeg) + (1 : Int32))) _ _ _ _ hP hD hS (lv_sub hl [1, 0] rfl) h kx
set_option maxHeartbeats 4000000 in
set_option maxRecDepth 100000 in
theorem cTrees_joinAll (l : Launch) (dC : Nat → ClassId) (dI : Nat → Nat → Nat) (h_t h_t_weights h_t_parents h_t_depths h_t_leafSymbols h_t_shrunk : Nat) (cB cI cJ : ClassId) (sz : Nat) (N : Nat) (v_t_leaves : Int32) (v_t_made : Int32) (v_t_nextLeaf : Int32) (v_t_nextJoined : Int32) (f_t_weights : Nat → Int32) (f_t_parents : Nat → Int32) (f_t_depths : Nat → Int32) (o : Int32 × Int32 × Int32 × (Nat → Int32) × (Nat → Int32) × (Nat → Int32)) (h : fTrees_joinAll N v_t_leaves f_t_weights f_t_parents f_t_depths = some o) : Met l y_Trees_joinAll w_Trees_joinAll ({ frames := 1, cells := 0, slots := 0, locals := 22 } : Room) (va_Pc [.ref h_t] (fun U => U.heap.size = sz ∧ va_P (dC, dI) vwCl [(h_t, .inr (8, [.ref h_t_weights, .ref h_t_parents, .ref h_t_depths, .ref h_t_leafSymbols, .ref h_t_shrunk, .int v_t_leaves, .int v_t_made, .int v_t_nextLeaf, .int v_t_nextJoined])), (h_t_weights, .inl (cI, 572, .inl f_t_weights)), (h_t_parents, .inl (cI, 572, .inl f_t_parents)), (h_t_depths, .inl (cI, 572, .inl f_t_depths))] U.heap ∧ va_K (dC, dI) vwCl [(cB, .byte), (cI, .int), (cJ, .long)] U ∧ va_D (fun _ => True) [(h_t, .inr (8, [.ref h_t_weights, .ref h_t_parents, .ref h_t_depths, .ref h_t_leafSymbols, .ref h_t_shrunk, .int v_t_leaves, .int v_t_made, .int v_t_nextLeaf, .int v_t_nextJoined])), (h_t_weights, .inl (cI, 572, .inl f_t_weights)), (h_t_parents, .inl (cI, 572, .inl f_t_parents)), (h_t_depths, .inl (cI, 572, .inl f_t_depths))] ∧ NW U)) (va_Qv (fun _ : Unit => True) (fun _ t => va_P (dC, dI) vwCl [(h_t, .inr (8, [.ref h_t_weights, .ref h_t_parents, .ref h_t_depths, .ref h_t_leafSymbols, .ref h_t_shrunk, .int v_t_leaves, .int o.1, .int o.2.1, .int o.2.2.1])), (h_t_weights, .inl (cI, 572, .inl o.2.2.2.1)), (h_t_parents, .inl (cI, 572, .inl o.2.2.2.2.1)), (h_t_depths, .inl (cI, 572, .inl o.2.2.2.2.2))] t.heap ∧ va_K (dC, dI) vwCl [(cB, .byte), (cI, .int), (cJ, .long)] t ∧ va_D (va_A [(h_t, .inr (8, [.ref h_t_weights, .ref h_t_parents, .ref h_t_depths, .ref h_t_leafSymbols, .ref h_t_shrunk, .int v_t_leaves, .int v_t_made, .int v_t_nextLeaf, .int v_t_nextJoined])), (h_t_weights, .inl (cI, 572, .inl f_t_weights)), (h_t_parents, .inl (cI, 572, .inl f_t_parents)), (h_t_depths, .inl (cI, 572, .inl f_t_depths))] sz) [(h_t, .inr (8, [.ref h_t_weights, .ref h_t_parents, .ref h_t_depths, .ref h_t_leafSymbols, .ref h_t_shrunk, .int v_t_leaves, .int o.1, .int o.2.1, .int o.2.2.1])), (h_t_weights, .inl (cI, 572, .inl o.2.2.2.1)), (h_t_parents, .inl (cI, 572, .inl o.2.2.2.2.1)), (h_t_depths, .inl (cI, 572, .inl o.2.2.2.2.2))]) (va_A [(h_t, .inr (8, [.ref h_t_weights, .ref h_t_parents, .ref h_t_depths, .ref h_t_leafSymbols, .ref h_t_shrunk, .int v_t_leaves, .int v_t_made, .int v_t_nextLeaf, .int v_t_nextJoined])), (h_t_weights, .inl (cI, 572, .inl f_t_weights)), (h_t_parents, .inl (cI, 572, .inl f_t_parents)), (h_t_depths, .inl (cI, 572, .inl f_t_depths))] sz)) 0 0 (va_A [(h_t, .inr (8, [.ref h_t_weights, .ref h_t_parents, .ref h_t_depths, .ref h_t_leafSymbols, .ref h_t_shrunk, .int v_t_leaves, .int v_t_made, .int v_t_nextLeaf, .int v_t_nextJoined])), (h_t_weights, .inl (cI, 572, .inl f_t_weights)), (h_t_parents, .inl (cI, 572, .inl f_t_parents)), (h_t_depths, .inl (cI, 572, .inl f_t_depths))] sz) := by
  refine Met.ofW (cc := b_Trees_joinAll) (maxL := 4) (ret := none) (by decide) rfl ?_
  intro p e s m args below meth c s₁ B hml hv
  obtain ⟨rfl, hsz, hP, hK, hD0, hN⟩ := hv
  have hx := B.exec
  have hb := B.bytes
  have hr := B.returns
  have hts := atoms_spec (ws := w_Trees_joinAll) B.pre
  have ht : ∀ w ∈ TB, w.before ([.ref h_t]).toArray s = true := fun w h => hts w (List.mem_cons_of_mem _ h)
  have hown : s.vm.findClass R_Trees = some m.cls := findClass_of_methodNamed B.named
  have hlocks := B.notSynchronized
  subst hsz
  have hD := hD0.self (sz := s.heap.size)
  generalize hAe : va_A [(h_t, .inr (8, [.ref h_t_weights, .ref h_t_parents, .ref h_t_depths, .ref h_t_leafSymbols, .ref h_t_shrunk, .int v_t_leaves, .int v_t_made, .int v_t_nextLeaf, .int v_t_nextJoined])), (h_t_weights, .inl (cI, 572, .inl f_t_weights)), (h_t_parents, .inl (cI, 572, .inl f_t_parents)), (h_t_depths, .inl (cI, 572, .inl f_t_depths))] s.heap.size = A at hD ⊢
  have hA : ∀ q : Nat, s.heap.size ≤ q → A q := fun q h => by rw [← hAe]; exact Or.inr h
  have hS : va_S A s.heap s.heap [] := va_S.rf
  have hP : va_P (dC, dI) vwCl [(h_t, .inr (8, [.ref h_t_weights, .ref h_t_parents, .ref h_t_depths, .ref h_t_leafSymbols, .ref h_t_shrunk, .int v_t_leaves, .int v_t_made, .int v_t_nextLeaf, .int v_t_nextJoined])), (h_t_weights, .inl (cI, 572, .inl f_t_weights)), (h_t_parents, .inl (cI, 572, .inl f_t_parents)), (h_t_depths, .inl (cI, 572, .inl f_t_depths))] s.heap := hP
  have C : CX p s m ([.ref h_t]).toArray c b_Trees_joinAll 4 R_Trees A (dC, dI) [(cB, .byte), (cI, .int), (cJ, .long)] := ⟨hx, hb, hml, hown, ht, hA, hK, hN⟩
  have hl := lv_entry ([.ref h_t]) (n := 4) (Nat.le_of_ble_eq_true rfl)
  rw [lg_entry_eq]
  generalize (lg_sl ([.ref h_t]) ++ List.replicate (4 - (lg_sl ([.ref h_t])).length) Slot.unset).toArray = ls at hl ⊢
  have hl : lv_has ls 4 [(0, .ref h_t)] := hl
  refine lv_aload_n hx hb d_Trees_joinAll_0 rfl (lv_at hl 0 rfl) ?_
  refine lv_aload_n hx hb d_Trees_joinAll_1 rfl (lv_at hl 0 rfl) ?_
  refine va_get (D := (dC, dI)) (ci := 8) (v := .int v_t_leaves) (C := R_Trees) (T := F_Trees) (N := 9) hx hb ht in_Trees hown hK hP 0 rfl rfl 5 (by decide) (ht _ k_137) (fun _ h9 => h9) rfl d_Trees_joinAll_2 ?_
  refine va_put (D := (dC, dI)) (ci := 8) (v := .int v_t_leaves) (ty := .int) (C := R_Trees) (T := F_Trees) (N := 9) hx hb ht in_Trees t_Trees t_Trees_ok n_Trees hown hK hP hD hS 0 rfl rfl 6 (by decide) (ht _ k_138) (fun _ h9 => h9) rfl (by decide +kernel) rfl rfl (Nat.le_of_ble_eq_true rfl) d_Trees_joinAll_5 (fun H locs hP hD hS => ?_)
  have hP : va_P (dC, dI) vwCl [(h_t, .inr (8, [.ref h_t_weights, .ref h_t_parents, .ref h_t_depths, .ref h_t_leafSymbols, .ref h_t_shrunk, .int v_t_leaves, .int v_t_leaves, .int v_t_nextLeaf, .int v_t_nextJoined])), (h_t_weights, .inl (cI, 572, .inl f_t_weights)), (h_t_parents, .inl (cI, 572, .inl f_t_parents)), (h_t_depths, .inl (cI, 572, .inl f_t_depths))] H := hP
  have hD : va_D A [(h_t, .inr (8, [.ref h_t_weights, .ref h_t_parents, .ref h_t_depths, .ref h_t_leafSymbols, .ref h_t_shrunk, .int v_t_leaves, .int v_t_leaves, .int v_t_nextLeaf, .int v_t_nextJoined])), (h_t_weights, .inl (cI, 572, .inl f_t_weights)), (h_t_parents, .inl (cI, 572, .inl f_t_parents)), (h_t_depths, .inl (cI, 572, .inl f_t_depths))] := hD
  refine lv_aload_n hx hb d_Trees_joinAll_8 rfl (lv_at hl 0 rfl) ?_
  refine lv_iconst (v := (0 : Int32)) hx hb d_Trees_joinAll_9 (by decide) ?_
  refine va_put (D := (dC, dI)) (ci := 8) (v := .int (0 : Int32)) (ty := .int) (C := R_Trees) (T := F_Trees) (N := 9) hx hb ht in_Trees t_Trees t_Trees_ok n_Trees hown hK hP hD hS 0 rfl rfl 7 (by decide) (ht _ k_139) (fun _ h9 => h9) rfl (by decide +kernel) rfl rfl (Nat.le_of_ble_eq_true rfl) d_Trees_joinAll_10 (fun H locs hP hD hS => ?_)
  have hP : va_P (dC, dI) vwCl [(h_t, .inr (8, [.ref h_t_weights, .ref h_t_parents, .ref h_t_depths, .ref h_t_leafSymbols, .ref h_t_shrunk, .int v_t_leaves, .int v_t_leaves, .int (0 : Int32), .int v_t_nextJoined])), (h_t_weights, .inl (cI, 572, .inl f_t_weights)), (h_t_parents, .inl (cI, 572, .inl f_t_parents)), (h_t_depths, .inl (cI, 572, .inl f_t_depths))] H := hP
  have hD : va_D A [(h_t, .inr (8, [.ref h_t_weights, .ref h_t_parents, .ref h_t_depths, .ref h_t_leafSymbols, .ref h_t_shrunk, .int v_t_leaves, .int v_t_leaves, .int (0 : Int32), .int v_t_nextJoined])), (h_t_weights, .inl (cI, 572, .inl f_t_weights)), (h_t_parents, .inl (cI, 572, .inl f_t_parents)), (h_t_depths, .inl (cI, 572, .inl f_t_depths))] := hD
  refine lv_aload_n hx hb d_Trees_joinAll_13 rfl (lv_at hl 0 rfl) ?_
  refine lv_aload_n hx hb d_Trees_joinAll_14 rfl (lv_at hl 0 rfl) ?_
  refine va_get (D := (dC, dI)) (ci := 8) (v := .int v_t_leaves) (C := R_Trees) (T := F_Trees) (N := 9) hx hb ht in_Trees hown hK hP 0 rfl rfl 5 (by decide) (ht _ k_137) (fun _ h9 => h9) rfl d_Trees_joinAll_15 ?_
  refine va_put (D := (dC, dI)) (ci := 8) (v := .int v_t_leaves) (ty := .int) (C := R_Trees) (T := F_Trees) (N := 9) hx hb ht in_Trees t_Trees t_Trees_ok n_Trees hown hK hP hD hS 0 rfl rfl 8 (by decide) (ht _ k_140) (fun _ h9 => h9) rfl (by decide +kernel) rfl rfl (Nat.le_of_ble_eq_true rfl) d_Trees_joinAll_18 (fun H locs hP hD hS => ?_)
  have hP : va_P (dC, dI) vwCl [(h_t, .inr (8, [.ref h_t_weights, .ref h_t_parents, .ref h_t_depths, .ref h_t_leafSymbols, .ref h_t_shrunk, .int v_t_leaves, .int v_t_leaves, .int (0 : Int32), .int v_t_leaves])), (h_t_weights, .inl (cI, 572, .inl f_t_weights)), (h_t_parents, .inl (cI, 572, .inl f_t_parents)), (h_t_depths, .inl (cI, 572, .inl f_t_depths))] H := hP
  have hD : va_D A [(h_t, .inr (8, [.ref h_t_weights, .ref h_t_parents, .ref h_t_depths, .ref h_t_leafSymbols, .ref h_t_shrunk, .int v_t_leaves, .int v_t_leaves, .int (0 : Int32), .int v_t_leaves])), (h_t_weights, .inl (cI, 572, .inl f_t_weights)), (h_t_parents, .inl (cI, 572, .inl f_t_parents)), (h_t_depths, .inl (cI, 572, .inl f_t_depths))] := hD
  refine lv_iconst (v := (2 : Int32)) hx hb d_Trees_joinAll_21 (by decide) ?_
  refine lv_aload_n hx hb d_Trees_joinAll_22 rfl (lv_at hl 0 rfl) ?_
  refine va_get (D := (dC, dI)) (ci := 8) (v := .int v_t_leaves) (C := R_Trees) (T := F_Trees) (N := 9) hx hb ht in_Trees hown hK hP 0 rfl rfl 5 (by decide) (ht _ k_137) (fun _ h9 => h9) rfl d_Trees_joinAll_23 ?_
  refine lv_imul hx hb d_Trees_joinAll_26 ?_
  refine lv_iconst (v := (1 : Int32)) hx hb d_Trees_joinAll_27 (by decide) ?_
  refine lv_isub hx hb d_Trees_joinAll_28 ?_
  refine lv_istore_n (lv' := [(1, .int (((2 : Int32) * v_t_leaves) - (1 : Int32))), (0, .ref h_t)]) hx hb d_Trees_joinAll_29 rfl hl (by decide) rfl (fun ls hl => ?_)
  obtain ⟨y9, hy9, h⟩ := bd h
  refine wTrees_joinAll_30 h_t h_t_weights h_t_parents h_t_depths h_t_leafSymbols h_t_shrunk cB cI cJ N v_t_leaves f_t_depths (((2 : Int32) * v_t_leaves) - (1 : Int32)) C N v_t_leaves (0 : Int32) v_t_leaves f_t_weights f_t_parents _ _ _ _ hP hD hS (lv_sub hl [1, 0] rfl) hy9 (fun H locs ls hP hD hS hl => ?_)
  refine lv_iload_n hx hb d_Trees_joinAll_103 rfl (lv_at hl 1 rfl) ?_
  refine lv_if_le (tgt := 116) hx hb d_Trees_joinAll_104 (by decide) (fun c10 => ?_) (fun c10 => ?_)
  · replace h := ip_p c10 h
    refine lv_iload_n hx hb d_Trees_joinAll_116 rfl (lv_at hl 1 rfl) ?_
    refine lv_iconst (v := (2 : Int32)) hx hb d_Trees_joinAll_117 (by decide) ?_
    refine lv_isub hx hb d_Trees_joinAll_118 ?_
    refine lv_istore_n (lv' := [(2, .int ((((2 : Int32) * v_t_leaves) - (1 : Int32)) - (2 : Int32))), (0, .ref h_t), (1, .int (((2 : Int32) * v_t_leaves) - (1 : Int32)))]) hx hb d_Trees_joinAll_119 rfl hl (by decide) rfl (fun ls hl => ?_)
    obtain ⟨y15, hy15, h⟩ := bd h
    refine wTrees_joinAll_120 h_t h_t_weights h_t_parents h_t_depths h_t_leafSymbols h_t_shrunk cB cI cJ N v_t_leaves y9.1 y9.2.1 y9.2.2.1 y9.2.2.2.1 y9.2.2.2.2 C N ((((2 : Int32) * v_t_leaves) - (1 : Int32)) - (2 : Int32)) f_t_depths _ _ _ _ hP hD hS (lv_sub hl [1, 0] rfl) hy15 (fun H locs ls hP hD hS hl => ?_)
    obtain rfl := Option.some.inj h
    exact W.vret hx hb hr (fun t ht hW => ⟨⟨(), rfl, trivial, by rw [ht]; exact hP, va_K.moved hW.alike hK, hD⟩, hS.F ht⟩) hS.2.2 d_Trees_joinAll_149
  · replace h := ip_n c10 h
    refine lv_aload_n hx hb d_Trees_joinAll_107 rfl (lv_at hl 0 rfl) ?_
    refine va_get (D := (dC, dI)) (ci := 8) (v := .ref h_t_depths) (C := R_Trees) (T := F_Trees) (N := 9) hx hb ht in_Trees hown hK hP 0 rfl rfl 2 (by decide) (ht _ k_134) (fun _ h9 => h9) rfl d_Trees_joinAll_108 ?_
    refine lv_iload_n hx hb d_Trees_joinAll_111 rfl (lv_at hl 1 rfl) ?_
    refine lv_iconst (v := (1 : Int32)) hx hb d_Trees_joinAll_112 (by decide) ?_
    refine lv_isub hx hb d_Trees_joinAll_113 ?_
    refine lv_iconst (v := (0 : Int32)) hx hb d_Trees_joinAll_114 (by decide) ?_
    obtain ⟨g16, h⟩ := gd h
    refine va_iast hx hb hK hP hD hS 3 1 rfl rfl g16 d_Trees_joinAll_115 (fun H locs hP hD hS => ?_)
    have hP : va_P (dC, dI) vwCl [(h_t, .inr (8, [.ref h_t_weights, .ref h_t_parents, .ref h_t_depths, .ref h_t_leafSymbols, .ref h_t_shrunk, .int v_t_leaves, .int y9.1, .int y9.2.1, .int y9.2.2.1])), (h_t_weights, .inl (cI, 572, .inl y9.2.2.2.1)), (h_t_parents, .inl (cI, 572, .inl y9.2.2.2.2)), (h_t_depths, .inl (cI, 572, .inl (upd f_t_depths ((((2 : Int32) * v_t_leaves) - (1 : Int32)) - (1 : Int32)).toNatClampNeg (0 : Int32))))] H := hP
    have hD : va_D A [(h_t, .inr (8, [.ref h_t_weights, .ref h_t_parents, .ref h_t_depths, .ref h_t_leafSymbols, .ref h_t_shrunk, .int v_t_leaves, .int y9.1, .int y9.2.1, .int y9.2.2.1])), (h_t_weights, .inl (cI, 572, .inl y9.2.2.2.1)), (h_t_parents, .inl (cI, 572, .inl y9.2.2.2.2)), (h_t_depths, .inl (cI, 572, .inl (upd f_t_depths ((((2 : Int32) * v_t_leaves) - (1 : Int32)) - (1 : Int32)).toNatClampNeg (0 : Int32))))] := hD
    refine lv_iload_n hx hb d_Trees_joinAll_116 rfl (lv_at hl 1 rfl) ?_
    refine lv_iconst (v := (2 : Int32)) hx hb d_Trees_joinAll_117 (by decide) ?_
    refine lv_isub hx hb d_Trees_joinAll_118 ?_
    refine lv_istore_n (lv' := [(2, .int ((((2 : Int32) * v_t_leaves) - (1 : Int32)) - (2 : Int32))), (0, .ref h_t), (1, .int (((2 : Int32) * v_t_leaves) - (1 : Int32)))]) hx hb d_Trees_joinAll_119 rfl hl (by decide) rfl (fun ls hl => ?_)
    obtain ⟨y17, hy17, h⟩ := bd h
    refine wTrees_joinAll_120 h_t h_t_weights h_t_parents h_t_depths h_t_leafSymbols h_t_shrunk cB cI cJ N v_t_leaves y9.1 y9.2.1 y9.2.2.1 y9.2.2.2.1 y9.2.2.2.2 C N ((((2 : Int32) * v_t_leaves) - (1 : Int32)) - (2 : Int32)) (upd f_t_depths ((((2 : Int32) * v_t_leaves) - (1 : Int32)) - (1 : Int32)).toNatClampNeg (0 : Int32)) _ _ _ _ hP hD hS (lv_sub hl [1, 0] rfl) hy17 (fun H locs ls hP hD hS hl => ?_)
    obtain rfl := Option.some.inj h
    exact W.vret hx hb hr (fun t ht hW => ⟨⟨(), rfl, trivial, by rw [ht]; exact hP, va_K.moved hW.alike hK, hD⟩, hS.F ht⟩) hS.2.2 d_Trees_joinAll_149
/-! PackedBytes$Trees.deepest()I -/
def fTrees_deepest_4 (N : Nat) (v_t_leaves : Int32) (f_t_depths : Nat → Int32) : Nat → (Int32) → (Int32) → Option (Int32)
  | 0, _, _ => none
  | k + 1, x1, x2 =>
    if v_t_leaves ≤ x2 then
      some x1
    else
      if ¬ (x2 < 0 ∨ 572 ≤ x2.toNatClampNeg) then
        fTrees_deepest_4 N v_t_leaves f_t_depths k (if x1 < (f_t_depths x2.toNatClampNeg) then (f_t_depths x2.toNatClampNeg) else x1) (x2 + (1 : Int32))
      else none
def fTrees_deepest (N : Nat) (v_t_leaves : Int32) (f_t_depths : Nat → Int32) : Option (Int32) :=
    (fTrees_deepest_4 N v_t_leaves f_t_depths N (0 : Int32) (0 : Int32)).bind (fun y3 =>
      some y3)
set_option maxHeartbeats 4000000 in
set_option maxRecDepth 100000 in
theorem wTrees_deepest_4 {p : Program} {l : Launch} {e : Env} {s : State} {m : MethodId} {args : Array Value} {below : List Frame} {meth : Method} {c : Code} {Q : State → Prop} {A : Nat → Prop} {dC : Nat → ClassId} {dI : Nat → Nat → Nat} (h_t h_t_weights h_t_parents h_t_depths h_t_leafSymbols h_t_shrunk : Nat) (cB cI cJ : ClassId) (N : Nat) (v_t_leaves : Int32) (v_t_made : Int32) (v_t_nextLeaf : Int32) (v_t_nextJoined : Int32) (f_t_depths : Nat → Int32) (C : CX p s m args c b_Trees_deepest 3 R_Trees A (dC, dI) [(cB, .byte), (cI, .int), (cJ, .long)]) :
    ∀ (n : Nat) (x1 : Int32) (x2 : Int32) (H : Heap) (locs : List Loc) (ls : Array Slot) (o : Int32), va_P (dC, dI) vwCl [(h_t, .inr (8, [.ref h_t_weights, .ref h_t_parents, .ref h_t_depths, .ref h_t_leafSymbols, .ref h_t_shrunk, .int v_t_leaves, .int v_t_made, .int v_t_nextLeaf, .int v_t_nextJoined])), (h_t_depths, .inl (cI, 572, .inl f_t_depths))] H → va_D A [(h_t, .inr (8, [.ref h_t_weights, .ref h_t_parents, .ref h_t_depths, .ref h_t_leafSymbols, .ref h_t_shrunk, .int v_t_leaves, .int v_t_made, .int v_t_nextLeaf, .int v_t_nextJoined])), (h_t_depths, .inl (cI, 572, .inl f_t_depths))] → va_S A s.heap H locs → lv_has ls 3 [(0, .ref h_t), (1, .int x1), (2, .int x2)] → fTrees_deepest_4 N v_t_leaves f_t_depths n x1 x2 = some o → (∀ (H : Heap) (locs : List Loc) (ls : Array Slot), va_P (dC, dI) vwCl [(h_t, .inr (8, [.ref h_t_weights, .ref h_t_parents, .ref h_t_depths, .ref h_t_leafSymbols, .ref h_t_shrunk, .int v_t_leaves, .int v_t_made, .int v_t_nextLeaf, .int v_t_nextJoined])), (h_t_depths, .inl (cI, 572, .inl f_t_depths))] H → va_D A [(h_t, .inr (8, [.ref h_t_weights, .ref h_t_parents, .ref h_t_depths, .ref h_t_leafSymbols, .ref h_t_shrunk, .int v_t_leaves, .int v_t_made, .int v_t_nextLeaf, .int v_t_nextJoined])), (h_t_depths, .inl (cI, 572, .inl f_t_depths))] → va_S A s.heap H locs → lv_has ls 3 [(1, .int o)] → W p l e ({ frames := 1, cells := 0, slots := 0, locals := 14 } : Room) s m args below meth c H locs 0 0 Q (F0 m 29 ls [])) → W p l e ({ frames := 1, cells := 0, slots := 0, locals := 14 } : Room) s m args below meth c H locs 0 0 Q (F0 m 4 ls []) := by
  obtain ⟨hx, hb, hml, hown, ht, hA, hK, hN⟩ := id C
  intro n
  induction n with
  | zero => intro x1 x2 H locs ls o _ _ _ _ h; exact nomatch h
  | succ k ih =>
    intro x1 x2 H locs ls o hP hD hS hl h kx
    refine lv_iload_n hx hb d_Trees_deepest_4 rfl (lv_at hl 2 rfl) ?_
    refine lv_aload_n hx hb d_Trees_deepest_5 rfl (lv_at hl 0 rfl) ?_
    refine va_get (D := (dC, dI)) (ci := 8) (v := .int v_t_leaves) (C := R_Trees) (T := F_Trees) (N := 9) hx hb ht in_Trees hown hK hP 0 rfl rfl 5 (by decide) (ht _ k_137) (fun _ h9 => h9) rfl d_Trees_deepest_6 ?_
    refine lv_icmp_ge (tgt := 29) hx hb d_Trees_deepest_9 (by decide) (fun c1 => ?_) (fun c1 => ?_)
    · replace h := ip_p c1 h
      obtain rfl := Option.some.inj h
      exact kx _ _ _ hP hD hS (lv_sub hl [1] rfl)
    · replace h := ip_n c1 h
      refine lv_iload_n hx hb d_Trees_deepest_12 rfl (lv_at hl 1 rfl) ?_
      refine lv_aload_n hx hb d_Trees_deepest_13 rfl (lv_at hl 0 rfl) ?_
      refine va_get (D := (dC, dI)) (ci := 8) (v := .ref h_t_depths) (C := R_Trees) (T := F_Trees) (N := 9) hx hb ht in_Trees hown hK hP 0 rfl rfl 2 (by decide) (ht _ k_134) (fun _ h9 => h9) rfl d_Trees_deepest_14 ?_
      refine lv_iload_n hx hb d_Trees_deepest_17 rfl (lv_at hl 2 rfl) ?_
      obtain ⟨g2, h⟩ := gd h
      refine va_iald hx hb hK hP 1 1 rfl rfl g2 d_Trees_deepest_18 ?_
      refine va_mmax hx hb (hml.trans hl.1.symm) hown (ht _ k_532) (ht _ k_482) (ht _ k_83) (ht _ k_483) (Nat.le_of_ble_eq_true rfl) (Nat.le_of_ble_eq_true rfl) (Nat.le_of_ble_eq_true rfl) (Nat.le_of_ble_eq_true rfl) d_Trees_deepest_19 ?_
      refine lv_istore_n (lv' := [(1, .int (if x1 < (f_t_depths x2.toNatClampNeg) then (f_t_depths x2.toNatClampNeg) else x1)), (0, .ref h_t), (2, .int x2)]) hx hb d_Trees_deepest_22 rfl hl (by decide) rfl (fun ls hl => ?_)
      refine lv_iinc (v := x2 + (1 : Int32)) (lv' := [(2, .int (x2 + (1 : Int32))), (1, .int (if x1 < (f_t_depths x2.toNatClampNeg) then (f_t_depths x2.toNatClampNeg) else x1)), (0, .ref h_t)]) hx hb d_Trees_deepest_23 hl (k := 2) rfl rfl (by decide) rfl (fun ls hl => ?_)
      refine lv_goto (tgt := 4) hx hb d_Trees_deepest_26 (by decide) ?_
      exact ih (if x1 < (f_t_depths x2.toNatClampNeg) then (f_t_depths x2.toNatClampNeg) else x1) (x2 + (1 : Int32)) _ _ _ _ hP hD hS (lv_sub hl [2, 1, 0] rfl) h kx
set_option maxHeartbeats 4000000 in
set_option maxRecDepth 100000 in
theorem cTrees_deepest (l : Launch) (dC : Nat → ClassId) (dI : Nat → Nat → Nat) (h_t h_t_weights h_t_parents h_t_depths h_t_leafSymbols h_t_shrunk : Nat) (cB cI cJ : ClassId) (sz : Nat) (N : Nat) (v_t_leaves : Int32) (v_t_made : Int32) (v_t_nextLeaf : Int32) (v_t_nextJoined : Int32) (f_t_depths : Nat → Int32) (o : Int32) (h : fTrees_deepest N v_t_leaves f_t_depths = some o) : Met l y_Trees_deepest w_Trees_deepest ({ frames := 1, cells := 0, slots := 0, locals := 14 } : Room) (va_Pc [.ref h_t] (fun U => U.heap.size = sz ∧ va_P (dC, dI) vwCl [(h_t, .inr (8, [.ref h_t_weights, .ref h_t_parents, .ref h_t_depths, .ref h_t_leafSymbols, .ref h_t_shrunk, .int v_t_leaves, .int v_t_made, .int v_t_nextLeaf, .int v_t_nextJoined])), (h_t_depths, .inl (cI, 572, .inl f_t_depths))] U.heap ∧ va_K (dC, dI) vwCl [(cB, .byte), (cI, .int), (cJ, .long)] U ∧ va_D (fun _ => True) [(h_t, .inr (8, [.ref h_t_weights, .ref h_t_parents, .ref h_t_depths, .ref h_t_leafSymbols, .ref h_t_shrunk, .int v_t_leaves, .int v_t_made, .int v_t_nextLeaf, .int v_t_nextJoined])), (h_t_depths, .inl (cI, 572, .inl f_t_depths))] ∧ NW U)) (va_Qi (fun r (_ : Unit) => r = o) (fun _ t => va_P (dC, dI) vwCl [(h_t, .inr (8, [.ref h_t_weights, .ref h_t_parents, .ref h_t_depths, .ref h_t_leafSymbols, .ref h_t_shrunk, .int v_t_leaves, .int v_t_made, .int v_t_nextLeaf, .int v_t_nextJoined])), (h_t_depths, .inl (cI, 572, .inl f_t_depths))] t.heap ∧ va_K (dC, dI) vwCl [(cB, .byte), (cI, .int), (cJ, .long)] t ∧ va_D (va_A [(h_t, .inr (8, [.ref h_t_weights, .ref h_t_parents, .ref h_t_depths, .ref h_t_leafSymbols, .ref h_t_shrunk, .int v_t_leaves, .int v_t_made, .int v_t_nextLeaf, .int v_t_nextJoined])), (h_t_depths, .inl (cI, 572, .inl f_t_depths))] sz) [(h_t, .inr (8, [.ref h_t_weights, .ref h_t_parents, .ref h_t_depths, .ref h_t_leafSymbols, .ref h_t_shrunk, .int v_t_leaves, .int v_t_made, .int v_t_nextLeaf, .int v_t_nextJoined])), (h_t_depths, .inl (cI, 572, .inl f_t_depths))]) (va_A [(h_t, .inr (8, [.ref h_t_weights, .ref h_t_parents, .ref h_t_depths, .ref h_t_leafSymbols, .ref h_t_shrunk, .int v_t_leaves, .int v_t_made, .int v_t_nextLeaf, .int v_t_nextJoined])), (h_t_depths, .inl (cI, 572, .inl f_t_depths))] sz)) 0 0 (va_A [(h_t, .inr (8, [.ref h_t_weights, .ref h_t_parents, .ref h_t_depths, .ref h_t_leafSymbols, .ref h_t_shrunk, .int v_t_leaves, .int v_t_made, .int v_t_nextLeaf, .int v_t_nextJoined])), (h_t_depths, .inl (cI, 572, .inl f_t_depths))] sz) := by
  refine Met.ofW (cc := b_Trees_deepest) (maxL := 3) (ret := (some .int)) (by decide) rfl ?_
  intro p e s m args below meth c s₁ B hml hv
  obtain ⟨rfl, hsz, hP, hK, hD0, hN⟩ := hv
  have hx := B.exec
  have hb := B.bytes
  have hr := B.returns
  have hts := atoms_spec (ws := w_Trees_deepest) B.pre
  have ht : ∀ w ∈ TB, w.before ([.ref h_t]).toArray s = true := fun w h => hts w (List.mem_cons_of_mem _ h)
  have hown : s.vm.findClass R_Trees = some m.cls := findClass_of_methodNamed B.named
  have hlocks := B.notSynchronized
  subst hsz
  have hD := hD0.self (sz := s.heap.size)
  generalize hAe : va_A [(h_t, .inr (8, [.ref h_t_weights, .ref h_t_parents, .ref h_t_depths, .ref h_t_leafSymbols, .ref h_t_shrunk, .int v_t_leaves, .int v_t_made, .int v_t_nextLeaf, .int v_t_nextJoined])), (h_t_depths, .inl (cI, 572, .inl f_t_depths))] s.heap.size = A at hD ⊢
  have hA : ∀ q : Nat, s.heap.size ≤ q → A q := fun q h => by rw [← hAe]; exact Or.inr h
  have hS : va_S A s.heap s.heap [] := va_S.rf
  have hP : va_P (dC, dI) vwCl [(h_t, .inr (8, [.ref h_t_weights, .ref h_t_parents, .ref h_t_depths, .ref h_t_leafSymbols, .ref h_t_shrunk, .int v_t_leaves, .int v_t_made, .int v_t_nextLeaf, .int v_t_nextJoined])), (h_t_depths, .inl (cI, 572, .inl f_t_depths))] s.heap := hP
  have C : CX p s m ([.ref h_t]).toArray c b_Trees_deepest 3 R_Trees A (dC, dI) [(cB, .byte), (cI, .int), (cJ, .long)] := ⟨hx, hb, hml, hown, ht, hA, hK, hN⟩
  have hl := lv_entry ([.ref h_t]) (n := 3) (Nat.le_of_ble_eq_true rfl)
  rw [lg_entry_eq]
  generalize (lg_sl ([.ref h_t]) ++ List.replicate (3 - (lg_sl ([.ref h_t])).length) Slot.unset).toArray = ls at hl ⊢
  have hl : lv_has ls 3 [(0, .ref h_t)] := hl
  refine lv_iconst (v := (0 : Int32)) hx hb d_Trees_deepest_0 (by decide) ?_
  refine lv_istore_n (lv' := [(1, .int (0 : Int32)), (0, .ref h_t)]) hx hb d_Trees_deepest_1 rfl hl (by decide) rfl (fun ls hl => ?_)
  refine lv_iconst (v := (0 : Int32)) hx hb d_Trees_deepest_2 (by decide) ?_
  refine lv_istore_n (lv' := [(2, .int (0 : Int32)), (1, .int (0 : Int32)), (0, .ref h_t)]) hx hb d_Trees_deepest_3 rfl hl (by decide) rfl (fun ls hl => ?_)
  obtain ⟨y3, hy3, h⟩ := bd h
  refine wTrees_deepest_4 h_t h_t_weights h_t_parents h_t_depths h_t_leafSymbols h_t_shrunk cB cI cJ N v_t_leaves v_t_made v_t_nextLeaf v_t_nextJoined f_t_depths C N (0 : Int32) (0 : Int32) _ _ _ _ hP hD hS (lv_sub hl [2, 1, 0] rfl) hy3 (fun H locs ls hP hD hS hl => ?_)
  refine lv_iload_n hx hb d_Trees_deepest_29 rfl (lv_at hl 0 rfl) ?_
  obtain rfl := Option.some.inj h
  exact W.iret (v := y3) hx hb hr (fun t ht hW => ⟨⟨_, (), rfl, rfl, by rw [ht]; exact hP, va_K.moved hW.alike hK, hD⟩, hS.F ht⟩) hS.2.2 d_Trees_deepest_30
/-! PackedBytes$Trees.halve(I)V -/
def fTrees_halve_2 (N : Nat) (x1 : Int32) : Nat → (Int32) → (Nat → Int32) → Option ((Nat → Int32))
  | 0, _, _ => none
  | k + 1, x2, f_t_shrunk =>
    if x1 ≤ x2 then
      some f_t_shrunk
    else
      if ¬ (x2 < 0 ∨ 286 ≤ x2.toNatClampNeg) then
        if ¬ (x2 < 0 ∨ 286 ≤ x2.toNatClampNeg) then
          fTrees_halve_2 N x1 k (x2 + (1 : Int32)) (upd f_t_shrunk x2.toNatClampNeg (((f_t_shrunk x2.toNatClampNeg) + (1 : Int32)) / (2 : Int32)))
        else none
      else none
def fTrees_halve (N : Nat) (p1 : Int32) (f_t_shrunk : Nat → Int32) : Option ((Nat → Int32)) :=
    (fTrees_halve_2 N p1 N (0 : Int32) f_t_shrunk).bind (fun y4 =>
      some y4)
set_option maxHeartbeats 4000000 in
set_option maxRecDepth 100000 in
theorem wTrees_halve_2 {p : Program} {l : Launch} {e : Env} {s : State} {m : MethodId} {args : Array Value} {below : List Frame} {meth : Method} {c : Code} {Q : State → Prop} {A : Nat → Prop} {dC : Nat → ClassId} {dI : Nat → Nat → Nat} (h_t h_t_weights h_t_parents h_t_depths h_t_leafSymbols h_t_shrunk : Nat) (cB cI cJ : ClassId) (N : Nat) (v_t_leaves : Int32) (v_t_made : Int32) (v_t_nextLeaf : Int32) (v_t_nextJoined : Int32) (x1 : Int32) (C : CX p s m args c b_Trees_halve 3 R_Trees A (dC, dI) [(cB, .byte), (cI, .int), (cJ, .long)]) :
    ∀ (n : Nat) (x2 : Int32) (f_t_shrunk : Nat → Int32) (H : Heap) (locs : List Loc) (ls : Array Slot) (o : (Nat → Int32)), va_P (dC, dI) vwCl [(h_t, .inr (8, [.ref h_t_weights, .ref h_t_parents, .ref h_t_depths, .ref h_t_leafSymbols, .ref h_t_shrunk, .int v_t_leaves, .int v_t_made, .int v_t_nextLeaf, .int v_t_nextJoined])), (h_t_shrunk, .inl (cI, 286, .inl f_t_shrunk))] H → va_D A [(h_t, .inr (8, [.ref h_t_weights, .ref h_t_parents, .ref h_t_depths, .ref h_t_leafSymbols, .ref h_t_shrunk, .int v_t_leaves, .int v_t_made, .int v_t_nextLeaf, .int v_t_nextJoined])), (h_t_shrunk, .inl (cI, 286, .inl f_t_shrunk))] → va_S A s.heap H locs → lv_has ls 3 [(0, .ref h_t), (1, .int x1), (2, .int x2)] → fTrees_halve_2 N x1 n x2 f_t_shrunk = some o → (∀ (H : Heap) (locs : List Loc) (ls : Array Slot), va_P (dC, dI) vwCl [(h_t, .inr (8, [.ref h_t_weights, .ref h_t_parents, .ref h_t_depths, .ref h_t_leafSymbols, .ref h_t_shrunk, .int v_t_leaves, .int v_t_made, .int v_t_nextLeaf, .int v_t_nextJoined])), (h_t_shrunk, .inl (cI, 286, .inl o))] H → va_D A [(h_t, .inr (8, [.ref h_t_weights, .ref h_t_parents, .ref h_t_depths, .ref h_t_leafSymbols, .ref h_t_shrunk, .int v_t_leaves, .int v_t_made, .int v_t_nextLeaf, .int v_t_nextJoined])), (h_t_shrunk, .inl (cI, 286, .inl o))] → va_S A s.heap H locs → lv_has ls 3 [] → W p l e ({ frames := 0, cells := 0, slots := 0, locals := 0 } : Room) s m args below meth c H locs 0 0 Q (F0 m 29 ls [])) → W p l e ({ frames := 0, cells := 0, slots := 0, locals := 0 } : Room) s m args below meth c H locs 0 0 Q (F0 m 2 ls []) := by
  obtain ⟨hx, hb, hml, hown, ht, hA, hK, hN⟩ := id C
  intro n
  induction n with
  | zero => intro x2 f_t_shrunk H locs ls o _ _ _ _ h; exact nomatch h
  | succ k ih =>
    intro x2 f_t_shrunk H locs ls o hP hD hS hl h kx
    refine lv_iload_n hx hb d_Trees_halve_2 rfl (lv_at hl 2 rfl) ?_
    refine lv_iload_n hx hb d_Trees_halve_3 rfl (lv_at hl 1 rfl) ?_
    refine lv_icmp_ge (tgt := 29) hx hb d_Trees_halve_4 (by decide) (fun c1 => ?_) (fun c1 => ?_)
    · replace h := ip_p c1 h
      obtain rfl := Option.some.inj h
      exact kx _ _ _ hP hD hS (lv_sub hl [] rfl)
    · replace h := ip_n c1 h
      refine lv_aload_n hx hb d_Trees_halve_7 rfl (lv_at hl 0 rfl) ?_
      refine va_get (D := (dC, dI)) (ci := 8) (v := .ref h_t_shrunk) (C := R_Trees) (T := F_Trees) (N := 9) hx hb ht in_Trees hown hK hP 0 rfl rfl 4 (by decide) (ht _ k_136) (fun _ h9 => h9) rfl d_Trees_halve_8 ?_
      refine lv_iload_n hx hb d_Trees_halve_11 rfl (lv_at hl 2 rfl) ?_
      refine lv_aload_n hx hb d_Trees_halve_12 rfl (lv_at hl 0 rfl) ?_
      refine va_get (D := (dC, dI)) (ci := 8) (v := .ref h_t_shrunk) (C := R_Trees) (T := F_Trees) (N := 9) hx hb ht in_Trees hown hK hP 0 rfl rfl 4 (by decide) (ht _ k_136) (fun _ h9 => h9) rfl d_Trees_halve_13 ?_
      refine lv_iload_n hx hb d_Trees_halve_16 rfl (lv_at hl 2 rfl) ?_
      obtain ⟨g2, h⟩ := gd h
      refine va_iald hx hb hK hP 1 1 rfl rfl g2 d_Trees_halve_17 ?_
      refine lv_iconst (v := (1 : Int32)) hx hb d_Trees_halve_18 (by decide) ?_
      refine lv_iadd hx hb d_Trees_halve_19 ?_
      refine lv_iconst (v := (2 : Int32)) hx hb d_Trees_halve_20 (by decide) ?_
      refine lv_idiv hx hb d_Trees_halve_21 (by decide) ?_
      obtain ⟨g3, h⟩ := gd h
      refine va_iast hx hb hK hP hD hS 1 1 rfl rfl g3 d_Trees_halve_22 (fun H locs hP hD hS => ?_)
      have hP : va_P (dC, dI) vwCl [(h_t, .inr (8, [.ref h_t_weights, .ref h_t_parents, .ref h_t_depths, .ref h_t_leafSymbols, .ref h_t_shrunk, .int v_t_leaves, .int v_t_made, .int v_t_nextLeaf, .int v_t_nextJoined])), (h_t_shrunk, .inl (cI, 286, .inl (upd f_t_shrunk x2.toNatClampNeg (((f_t_shrunk x2.toNatClampNeg) + (1 : Int32)) / (2 : Int32)))))] H := hP
      have hD : va_D A [(h_t, .inr (8, [.ref h_t_weights, .ref h_t_parents, .ref h_t_depths, .ref h_t_leafSymbols, .ref h_t_shrunk, .int v_t_leaves, .int v_t_made, .int v_t_nextLeaf, .int v_t_nextJoined])), (h_t_shrunk, .inl (cI, 286, .inl (upd f_t_shrunk x2.toNatClampNeg (((f_t_shrunk x2.toNatClampNeg) + (1 : Int32)) / (2 : Int32)))))] := hD
      refine lv_iinc (v := x2 + (1 : Int32)) (lv' := [(2, .int (x2 + (1 : Int32))), (0, .ref h_t), (1, .int x1)]) hx hb d_Trees_halve_23 hl (k := 2) rfl rfl (by decide) rfl (fun ls hl => ?_)
      refine lv_goto (tgt := 2) hx hb d_Trees_halve_26 (by decide) ?_
      exact ih (x2 + (1 : Int32)) (upd f_t_shrunk x2.toNatClampNeg (((f_t_shrunk x2.toNatClampNeg) + (1 : Int32)) / (2 : Int32))) _ _ _ _ hP hD hS (lv_sub hl [1, 2, 0] rfl) h kx
set_option maxHeartbeats 4000000 in
set_option maxRecDepth 100000 in
theorem cTrees_halve (l : Launch) (dC : Nat → ClassId) (dI : Nat → Nat → Nat) (h_t h_t_weights h_t_parents h_t_depths h_t_leafSymbols h_t_shrunk : Nat) (cB cI cJ : ClassId) (sz : Nat) (N : Nat) (p1 : Int32) (v_t_leaves : Int32) (v_t_made : Int32) (v_t_nextLeaf : Int32) (v_t_nextJoined : Int32) (f_t_shrunk : Nat → Int32) (o : (Nat → Int32)) (h : fTrees_halve N p1 f_t_shrunk = some o) : Met l y_Trees_halve w_Trees_halve ({ frames := 0, cells := 0, slots := 0, locals := 0 } : Room) (va_Pc [.ref h_t, .int p1] (fun U => U.heap.size = sz ∧ va_P (dC, dI) vwCl [(h_t, .inr (8, [.ref h_t_weights, .ref h_t_parents, .ref h_t_depths, .ref h_t_leafSymbols, .ref h_t_shrunk, .int v_t_leaves, .int v_t_made, .int v_t_nextLeaf, .int v_t_nextJoined])), (h_t_shrunk, .inl (cI, 286, .inl f_t_shrunk))] U.heap ∧ va_K (dC, dI) vwCl [(cB, .byte), (cI, .int), (cJ, .long)] U ∧ va_D (fun _ => True) [(h_t, .inr (8, [.ref h_t_weights, .ref h_t_parents, .ref h_t_depths, .ref h_t_leafSymbols, .ref h_t_shrunk, .int v_t_leaves, .int v_t_made, .int v_t_nextLeaf, .int v_t_nextJoined])), (h_t_shrunk, .inl (cI, 286, .inl f_t_shrunk))] ∧ NW U)) (va_Qv (fun _ : Unit => True) (fun _ t => va_P (dC, dI) vwCl [(h_t, .inr (8, [.ref h_t_weights, .ref h_t_parents, .ref h_t_depths, .ref h_t_leafSymbols, .ref h_t_shrunk, .int v_t_leaves, .int v_t_made, .int v_t_nextLeaf, .int v_t_nextJoined])), (h_t_shrunk, .inl (cI, 286, .inl o))] t.heap ∧ va_K (dC, dI) vwCl [(cB, .byte), (cI, .int), (cJ, .long)] t ∧ va_D (va_A [(h_t, .inr (8, [.ref h_t_weights, .ref h_t_parents, .ref h_t_depths, .ref h_t_leafSymbols, .ref h_t_shrunk, .int v_t_leaves, .int v_t_made, .int v_t_nextLeaf, .int v_t_nextJoined])), (h_t_shrunk, .inl (cI, 286, .inl f_t_shrunk))] sz) [(h_t, .inr (8, [.ref h_t_weights, .ref h_t_parents, .ref h_t_depths, .ref h_t_leafSymbols, .ref h_t_shrunk, .int v_t_leaves, .int v_t_made, .int v_t_nextLeaf, .int v_t_nextJoined])), (h_t_shrunk, .inl (cI, 286, .inl o))]) (va_A [(h_t, .inr (8, [.ref h_t_weights, .ref h_t_parents, .ref h_t_depths, .ref h_t_leafSymbols, .ref h_t_shrunk, .int v_t_leaves, .int v_t_made, .int v_t_nextLeaf, .int v_t_nextJoined])), (h_t_shrunk, .inl (cI, 286, .inl f_t_shrunk))] sz)) 0 0 (va_A [(h_t, .inr (8, [.ref h_t_weights, .ref h_t_parents, .ref h_t_depths, .ref h_t_leafSymbols, .ref h_t_shrunk, .int v_t_leaves, .int v_t_made, .int v_t_nextLeaf, .int v_t_nextJoined])), (h_t_shrunk, .inl (cI, 286, .inl f_t_shrunk))] sz) := by
  refine Met.ofW (cc := b_Trees_halve) (maxL := 3) (ret := none) (by decide) rfl ?_
  intro p e s m args below meth c s₁ B hml hv
  obtain ⟨rfl, hsz, hP, hK, hD0, hN⟩ := hv
  have hx := B.exec
  have hb := B.bytes
  have hr := B.returns
  have hts := atoms_spec (ws := w_Trees_halve) B.pre
  have ht : ∀ w ∈ TB, w.before ([.ref h_t, .int p1]).toArray s = true := fun w h => hts w (List.mem_cons_of_mem _ h)
  have hown : s.vm.findClass R_Trees = some m.cls := findClass_of_methodNamed B.named
  have hlocks := B.notSynchronized
  subst hsz
  have hD := hD0.self (sz := s.heap.size)
  generalize hAe : va_A [(h_t, .inr (8, [.ref h_t_weights, .ref h_t_parents, .ref h_t_depths, .ref h_t_leafSymbols, .ref h_t_shrunk, .int v_t_leaves, .int v_t_made, .int v_t_nextLeaf, .int v_t_nextJoined])), (h_t_shrunk, .inl (cI, 286, .inl f_t_shrunk))] s.heap.size = A at hD ⊢
  have hA : ∀ q : Nat, s.heap.size ≤ q → A q := fun q h => by rw [← hAe]; exact Or.inr h
  have hS : va_S A s.heap s.heap [] := va_S.rf
  have hP : va_P (dC, dI) vwCl [(h_t, .inr (8, [.ref h_t_weights, .ref h_t_parents, .ref h_t_depths, .ref h_t_leafSymbols, .ref h_t_shrunk, .int v_t_leaves, .int v_t_made, .int v_t_nextLeaf, .int v_t_nextJoined])), (h_t_shrunk, .inl (cI, 286, .inl f_t_shrunk))] s.heap := hP
  have C : CX p s m ([.ref h_t, .int p1]).toArray c b_Trees_halve 3 R_Trees A (dC, dI) [(cB, .byte), (cI, .int), (cJ, .long)] := ⟨hx, hb, hml, hown, ht, hA, hK, hN⟩
  have hl := lv_entry ([.ref h_t, .int p1]) (n := 3) (Nat.le_of_ble_eq_true rfl)
  rw [lg_entry_eq]
  generalize (lg_sl ([.ref h_t, .int p1]) ++ List.replicate (3 - (lg_sl ([.ref h_t, .int p1])).length) Slot.unset).toArray = ls at hl ⊢
  have hl : lv_has ls 3 [(0, .ref h_t), (1, .int p1)] := hl
  refine lv_iconst (v := (0 : Int32)) hx hb d_Trees_halve_0 (by decide) ?_
  refine lv_istore_n (lv' := [(2, .int (0 : Int32)), (0, .ref h_t), (1, .int p1)]) hx hb d_Trees_halve_1 rfl hl (by decide) rfl (fun ls hl => ?_)
  obtain ⟨y4, hy4, h⟩ := bd h
  refine wTrees_halve_2 h_t h_t_weights h_t_parents h_t_depths h_t_leafSymbols h_t_shrunk cB cI cJ N v_t_leaves v_t_made v_t_nextLeaf v_t_nextJoined p1 C N (0 : Int32) f_t_shrunk _ _ _ _ hP hD hS (lv_sub hl [1, 2, 0] rfl) hy4 (fun H locs ls hP hD hS hl => ?_)
  obtain rfl := Option.some.inj h
  exact W.vret hx hb hr (fun t ht hW => ⟨⟨(), rfl, trivial, by rw [ht]; exact hP, va_K.moved hW.alike hK, hD⟩, hS.F ht⟩) hS.2.2 d_Trees_halve_29
/-! PackedBytes$Trees.findLengths([I[II)V -/
def fTrees_findLengths_40 (N : Nat) (x3 : Int32) (x4 : Int32) : Nat → (Int32) → (Int32) → (Int32) → (Int32) → (Int32) → (Nat → Int32) → (Nat → Int32) → (Nat → Int32) → (Nat → Int32) → (Nat → Int32) → Option (Int32 × Int32 × Int32 × Int32 × (Nat → Int32) × (Nat → Int32) × (Nat → Int32) × (Nat → Int32) × (Nat → Int32))
  | 0, _, _, _, _, _, _, _, _, _, _ => none
  | k + 1, x5, v_t_leaves, v_t_made, v_t_nextLeaf, v_t_nextJoined, f_t_shrunk, f_t_weights, f_t_leafSymbols, f_t_parents, f_t_depths =>
    if (32 : Int32) ≤ x5 then
      some (v_t_leaves, v_t_made, v_t_nextLeaf, v_t_nextJoined, f_t_shrunk, f_t_weights, f_t_leafSymbols, f_t_parents, f_t_depths)
    else
      (fTrees_deepest N v_t_leaves f_t_depths).bind (fun y9 =>
        if y9 ≤ x3 then
          some (v_t_leaves, v_t_made, v_t_nextLeaf, v_t_nextJoined, f_t_shrunk, f_t_weights, f_t_leafSymbols, f_t_parents, f_t_depths)
        else
          (fTrees_halve N x4 f_t_shrunk).bind (fun y11 =>
            (fTrees_sortLeaves N x4 y11 f_t_weights f_t_leafSymbols).bind (fun y12 =>
              (fTrees_joinAll N y12.1 y12.2.1 f_t_parents f_t_depths).bind (fun y13 =>
                fTrees_findLengths_40 N x3 x4 k (x5 + (1 : Int32)) y12.1 y13.1 y13.2.1 y13.2.2.1 y11 y13.2.2.2.1 y12.2.2 y13.2.2.2.2.1 y13.2.2.2.2.2))))
def fTrees_findLengths_85 (N : Nat) (v_t_leaves : Int32) (n_p2 : Nat) (f_t_leafSymbols : Nat → Int32) (f_t_depths : Nat → Int32) : Nat → (Int32) → (Nat → Int32) → Option ((Nat → Int32))
  | 0, _, _ => none
  | k + 1, x5, f_p2 =>
    if v_t_leaves ≤ x5 then
      some f_p2
    else
      if ¬ (x5 < 0 ∨ 286 ≤ x5.toNatClampNeg) then
        if v_t_leaves = (1 : Int32) then
          if ¬ ((f_t_leafSymbols x5.toNatClampNeg) < 0 ∨ n_p2 ≤ (f_t_leafSymbols x5.toNatClampNeg).toNatClampNeg) then
            fTrees_findLengths_85 N v_t_leaves n_p2 f_t_leafSymbols f_t_depths k (x5 + (1 : Int32)) (upd f_p2 (f_t_leafSymbols x5.toNatClampNeg).toNatClampNeg (1 : Int32))
          else none
        else
          if ¬ (x5 < 0 ∨ 572 ≤ x5.toNatClampNeg) then
            if ¬ ((f_t_leafSymbols x5.toNatClampNeg) < 0 ∨ n_p2 ≤ (f_t_leafSymbols x5.toNatClampNeg).toNatClampNeg) then
              fTrees_findLengths_85 N v_t_leaves n_p2 f_t_leafSymbols f_t_depths k (x5 + (1 : Int32)) (upd f_p2 (f_t_leafSymbols x5.toNatClampNeg).toNatClampNeg (f_t_depths x5.toNatClampNeg))
            else none
          else none
      else none
def fTrees_findLengths (N : Nat) (p3 : Int32) (n_p1 : Nat) (f_p1 : Nat → Int32) (n_p2 : Nat) (f_p2 : Nat → Int32) (f_t_shrunk : Nat → Int32) (f_t_weights : Nat → Int32) (f_t_leafSymbols : Nat → Int32) (f_t_parents : Nat → Int32) (f_t_depths : Nat → Int32) : Option (Int32 × Int32 × Int32 × Int32 × (Nat → Int32) × (Nat → Int32) × (Nat → Int32) × (Nat → Int32) × (Nat → Int32) × (Nat → Int32)) :=
    if ¬ (0 : Int32) < 0 then
      if ¬ (0 : Int32) < 0 then
        if ¬ (if (286 : Int32) < (if (nI n_p2) < (nI n_p1) then (nI n_p2) else (nI n_p1)) then (286 : Int32) else (if (nI n_p2) < (nI n_p1) then (nI n_p2) else (nI n_p1))) < 0 then
          if (0 : Int32).toNatClampNeg + (if (286 : Int32) < (if (nI n_p2) < (nI n_p1) then (nI n_p2) else (nI n_p1)) then (286 : Int32) else (if (nI n_p2) < (nI n_p1) then (nI n_p2) else (nI n_p1))).toNatClampNeg ≤ n_p1 then
            if (0 : Int32).toNatClampNeg + (if (286 : Int32) < (if (nI n_p2) < (nI n_p1) then (nI n_p2) else (nI n_p1)) then (286 : Int32) else (if (nI n_p2) < (nI n_p1) then (nI n_p2) else (nI n_p1))).toNatClampNeg ≤ 286 then
              (fTrees_sortLeaves N (if (286 : Int32) < (if (nI n_p2) < (nI n_p1) then (nI n_p2) else (nI n_p1)) then (286 : Int32) else (if (nI n_p2) < (nI n_p1) then (nI n_p2) else (nI n_p1))) (va_cpy f_p1 f_t_shrunk (0 : Int32).toNatClampNeg (0 : Int32).toNatClampNeg (if (286 : Int32) < (if (nI n_p2) < (nI n_p1) then (nI n_p2) else (nI n_p1)) then (286 : Int32) else (if (nI n_p2) < (nI n_p1) then (nI n_p2) else (nI n_p1))).toNatClampNeg) f_t_weights f_t_leafSymbols).bind (fun y6 =>
                (fTrees_joinAll N y6.1 y6.2.1 f_t_parents f_t_depths).bind (fun y7 =>
                  (fTrees_findLengths_40 N p3 (if (286 : Int32) < (if (nI n_p2) < (nI n_p1) then (nI n_p2) else (nI n_p1)) then (286 : Int32) else (if (nI n_p2) < (nI n_p1) then (nI n_p2) else (nI n_p1))) N (0 : Int32) y6.1 y7.1 y7.2.1 y7.2.2.1 (va_cpy f_p1 f_t_shrunk (0 : Int32).toNatClampNeg (0 : Int32).toNatClampNeg (if (286 : Int32) < (if (nI n_p2) < (nI n_p1) then (nI n_p2) else (nI n_p1)) then (286 : Int32) else (if (nI n_p2) < (nI n_p1) then (nI n_p2) else (nI n_p1))).toNatClampNeg) y7.2.2.2.1 y6.2.2 y7.2.2.2.2.1 y7.2.2.2.2.2).bind (fun y14 =>
                    (fJA_fill N (0 : Int32) n_p2 f_p2).bind (fun y15 =>
                      (fTrees_findLengths_85 N y14.1 n_p2 y14.2.2.2.2.2.2.1 y14.2.2.2.2.2.2.2.2 N (0 : Int32) y15).bind (fun y22 =>
                        some (y14.1, y14.2.1, y14.2.2.1, y14.2.2.2.1, y22, y14.2.2.2.2.1, y14.2.2.2.2.2.1, y14.2.2.2.2.2.2.1, y14.2.2.2.2.2.2.2.1, y14.2.2.2.2.2.2.2.2))))))
            else none
          else none
        else none
      else none
    else none
set_option maxHeartbeats 4000000 in
set_option maxRecDepth 100000 in
theorem wTrees_findLengths_40 {p : Program} {l : Launch} {e : Env} {s : State} {m : MethodId} {args : Array Value} {below : List Frame} {meth : Method} {c : Code} {Q : State → Prop} {A : Nat → Prop} {dC : Nat → ClassId} {dI : Nat → Nat → Nat} (h_t h_t_weights h_t_parents h_t_depths h_t_leafSymbols h_t_shrunk h_p1 h_p2 : Nat) (cB cI cJ : ClassId) (N : Nat) (n_p1 : Nat) (f_p1 : Nat → Int32) (n_p2 : Nat) (f_p2 : Nat → Int32) (x3 : Int32) (x4 : Int32) (C : CX p s m args c b_Trees_findLengths 6 R_Trees A (dC, dI) [(cB, .byte), (cI, .int), (cJ, .long)]) :
    ∀ (n : Nat) (x5 : Int32) (v_t_leaves : Int32) (v_t_made : Int32) (v_t_nextLeaf : Int32) (v_t_nextJoined : Int32) (f_t_shrunk : Nat → Int32) (f_t_weights : Nat → Int32) (f_t_leafSymbols : Nat → Int32) (f_t_parents : Nat → Int32) (f_t_depths : Nat → Int32) (H : Heap) (locs : List Loc) (ls : Array Slot) (o : Int32 × Int32 × Int32 × Int32 × (Nat → Int32) × (Nat → Int32) × (Nat → Int32) × (Nat → Int32) × (Nat → Int32)), va_P (dC, dI) vwCl [(h_t, .inr (8, [.ref h_t_weights, .ref h_t_parents, .ref h_t_depths, .ref h_t_leafSymbols, .ref h_t_shrunk, .int v_t_leaves, .int v_t_made, .int v_t_nextLeaf, .int v_t_nextJoined])), (h_p1, .inl (cI, n_p1, .inl f_p1)), (h_p2, .inl (cI, n_p2, .inl f_p2)), (h_t_shrunk, .inl (cI, 286, .inl f_t_shrunk)), (h_t_weights, .inl (cI, 572, .inl f_t_weights)), (h_t_leafSymbols, .inl (cI, 286, .inl f_t_leafSymbols)), (h_t_parents, .inl (cI, 572, .inl f_t_parents)), (h_t_depths, .inl (cI, 572, .inl f_t_depths))] H → va_D A [(h_t, .inr (8, [.ref h_t_weights, .ref h_t_parents, .ref h_t_depths, .ref h_t_leafSymbols, .ref h_t_shrunk, .int v_t_leaves, .int v_t_made, .int v_t_nextLeaf, .int v_t_nextJoined])), (h_p1, .inl (cI, n_p1, .inl f_p1)), (h_p2, .inl (cI, n_p2, .inl f_p2)), (h_t_shrunk, .inl (cI, 286, .inl f_t_shrunk)), (h_t_weights, .inl (cI, 572, .inl f_t_weights)), (h_t_leafSymbols, .inl (cI, 286, .inl f_t_leafSymbols)), (h_t_parents, .inl (cI, 572, .inl f_t_parents)), (h_t_depths, .inl (cI, 572, .inl f_t_depths))] → va_S A s.heap H locs → lv_has ls 6 [(0, .ref h_t), (2, .ref h_p2), (3, .int x3), (4, .int x4), (5, .int x5)] → fTrees_findLengths_40 N x3 x4 n x5 v_t_leaves v_t_made v_t_nextLeaf v_t_nextJoined f_t_shrunk f_t_weights f_t_leafSymbols f_t_parents f_t_depths = some o → (∀ (H : Heap) (locs : List Loc) (ls : Array Slot), va_P (dC, dI) vwCl [(h_t, .inr (8, [.ref h_t_weights, .ref h_t_parents, .ref h_t_depths, .ref h_t_leafSymbols, .ref h_t_shrunk, .int o.1, .int o.2.1, .int o.2.2.1, .int o.2.2.2.1])), (h_p1, .inl (cI, n_p1, .inl f_p1)), (h_p2, .inl (cI, n_p2, .inl f_p2)), (h_t_shrunk, .inl (cI, 286, .inl o.2.2.2.2.1)), (h_t_weights, .inl (cI, 572, .inl o.2.2.2.2.2.1)), (h_t_leafSymbols, .inl (cI, 286, .inl o.2.2.2.2.2.2.1)), (h_t_parents, .inl (cI, 572, .inl o.2.2.2.2.2.2.2.1)), (h_t_depths, .inl (cI, 572, .inl o.2.2.2.2.2.2.2.2))] H → va_D A [(h_t, .inr (8, [.ref h_t_weights, .ref h_t_parents, .ref h_t_depths, .ref h_t_leafSymbols, .ref h_t_shrunk, .int o.1, .int o.2.1, .int o.2.2.1, .int o.2.2.2.1])), (h_p1, .inl (cI, n_p1, .inl f_p1)), (h_p2, .inl (cI, n_p2, .inl f_p2)), (h_t_shrunk, .inl (cI, 286, .inl o.2.2.2.2.1)), (h_t_weights, .inl (cI, 572, .inl o.2.2.2.2.2.1)), (h_t_leafSymbols, .inl (cI, 286, .inl o.2.2.2.2.2.2.1)), (h_t_parents, .inl (cI, 572, .inl o.2.2.2.2.2.2.2.1)), (h_t_depths, .inl (cI, 572, .inl o.2.2.2.2.2.2.2.2))] → va_S A s.heap H locs → lv_has ls 6 [(0, .ref h_t), (2, .ref h_p2)] → W p l e ({ frames := 2, cells := 0, slots := 0, locals := 45 } : Room) s m args below meth c H locs 0 0 Q (F0 m 77 ls [])) → W p l e ({ frames := 2, cells := 0, slots := 0, locals := 45 } : Room) s m args below meth c H locs 0 0 Q (F0 m 40 ls []) := by
  obtain ⟨hx, hb, hml, hown, ht, hA, hK, hN⟩ := id C
  intro n
  induction n with
  | zero => intro x5 v_t_leaves v_t_made v_t_nextLeaf v_t_nextJoined f_t_shrunk f_t_weights f_t_leafSymbols f_t_parents f_t_depths H locs ls o _ _ _ _ h; exact nomatch h
  | succ k ih =>
    intro x5 v_t_leaves v_t_made v_t_nextLeaf v_t_nextJoined f_t_shrunk f_t_weights f_t_leafSymbols f_t_parents f_t_depths H locs ls o hP hD hS hl h kx
    refine lv_iload hx hb d_Trees_findLengths_40 (lv_at hl 4 rfl) ?_
    refine lv_bipush (v := (32 : Int32)) hx hb d_Trees_findLengths_42 (by decide) ?_
    refine lv_icmp_ge (tgt := 77) hx hb d_Trees_findLengths_44 (by decide) (fun c8 => ?_) (fun c8 => ?_)
    · replace h := ip_p c8 h
      obtain rfl := Option.some.inj h
      exact kx _ _ _ hP hD hS (lv_sub hl [0, 1] rfl)
    · replace h := ip_n c8 h
      refine lv_aload_n hx hb d_Trees_findLengths_47 rfl (lv_at hl 0 rfl) ?_
      obtain ⟨y9, hy9, h⟩ := bd h
      have hPc := hP.sub (ws' := [(h_t, .inr (8, [.ref h_t_weights, .ref h_t_parents, .ref h_t_depths, .ref h_t_leafSymbols, .ref h_t_shrunk, .int v_t_leaves, .int v_t_made, .int v_t_nextLeaf, .int v_t_nextJoined])), (h_t_depths, .inl (cI, 572, .inl f_t_depths))]) [0, 7] rfl
      have hDc := hD.sub (ws' := [(h_t, .inr (8, [.ref h_t_weights, .ref h_t_parents, .ref h_t_depths, .ref h_t_leafSymbols, .ref h_t_shrunk, .int v_t_leaves, .int v_t_made, .int v_t_nextLeaf, .int v_t_nextJoined])), (h_t_depths, .inl (cI, 572, .inl f_t_depths))]) [0, 7] (by decide) rfl
      have hFc := va_free (wc := [(h_t, .inr (8, [.ref h_t_weights, .ref h_t_parents, .ref h_t_depths, .ref h_t_leafSymbols, .ref h_t_shrunk, .int v_t_leaves, .int v_t_made, .int v_t_nextLeaf, .int v_t_nextJoined])), (h_t_depths, .inl (cI, 572, .inl f_t_depths))]) hD hS hA [0, 7] rfl
      refine va_calli (va_runV (As := []) (rest := []) ⟨hx, hb, hml, hown, ht⟩ (cTrees_deepest l dC dI h_t h_t_weights h_t_parents h_t_depths h_t_leafSymbols h_t_shrunk cB cI cJ _ N v_t_leaves v_t_made v_t_nextLeaf v_t_nextJoined f_t_depths y9 hy9) (⟨callB_of 0 ht (gTB (k_531)) rfl rfl rfl (ht _ k_68) (ht _ k_528) (by decide +kernel) ⟨Nat.le_of_ble_eq_true rfl, Nat.le_of_ble_eq_true rfl⟩, ht _ k_530, ht _ k_11⟩) ⟨fun a U g mk q => by obtain ⟨q0, q1, qP, qK, qD, qN⟩ := q; exact ⟨q0, q1, qP, va_K.moved (u := U) (U := U.calling g mk a) (Vm.Alike.refl U.vm) qK, qD, NW_same (u := U) rfl qN⟩, va_recv hK hPc (ci := 8) (q0 := 0) rfl rfl, fun U hU hW => ⟨rfl, by rw [hU], by rw [hU]; exact hPc, va_K.moved hW.alike hK, hDc.weaken (fun _ _ _ _ => trivial), NW_warm hW hN⟩⟩ rfl rfl hl.1 rfl (lv_room (Nat.le_of_ble_eq_true rfl)) d_Trees_findLengths_48 ⟨Nat.le_of_ble_eq_true rfl, Nat.le_of_ble_eq_true rfl⟩) hS (fun q _ h => hFc q h) hFc (fun ry9 u t H1 locs htH hvm hw hB hz1 hk1 hS => ?_)
      obtain ⟨hP1, hK1, hD1⟩ := hB
      rw [htH] at hP1
      obtain ⟨hP, hD⟩ := va_join (wr := [(h_p1, .inl (cI, n_p1, .inl f_p1)), (h_p2, .inl (cI, n_p2, .inl f_p2)), (h_t_shrunk, .inl (cI, 286, .inl f_t_shrunk)), (h_t_weights, .inl (cI, 572, .inl f_t_weights)), (h_t_leafSymbols, .inl (cI, 286, .inl f_t_leafSymbols)), (h_t_parents, .inl (cI, 572, .inl f_t_parents))]) (w1 := [(h_t, .inr (8, [.ref h_t_weights, .ref h_t_parents, .ref h_t_depths, .ref h_t_leafSymbols, .ref h_t_shrunk, .int v_t_leaves, .int v_t_made, .int v_t_nextLeaf, .int v_t_nextJoined])), (h_t_depths, .inl (cI, 572, .inl f_t_depths))]) hP hD [0, 7] [1, 2, 3, 4, 5, 6] rfl rfl (by decide) (by decide) hk1 hFc hP1 hD1
      generalize H1 = H at hP hS ⊢
      have hP : va_P (dC, dI) vwCl [(h_t, .inr (8, [.ref h_t_weights, .ref h_t_parents, .ref h_t_depths, .ref h_t_leafSymbols, .ref h_t_shrunk, .int v_t_leaves, .int v_t_made, .int v_t_nextLeaf, .int v_t_nextJoined])), (h_p1, .inl (cI, n_p1, .inl f_p1)), (h_p2, .inl (cI, n_p2, .inl f_p2)), (h_t_shrunk, .inl (cI, 286, .inl f_t_shrunk)), (h_t_weights, .inl (cI, 572, .inl f_t_weights)), (h_t_leafSymbols, .inl (cI, 286, .inl f_t_leafSymbols)), (h_t_parents, .inl (cI, 572, .inl f_t_parents)), (h_t_depths, .inl (cI, 572, .inl f_t_depths))] H := hP.sub [6, 0, 1, 2, 3, 4, 5, 7] rfl
      have hD : va_D A [(h_t, .inr (8, [.ref h_t_weights, .ref h_t_parents, .ref h_t_depths, .ref h_t_leafSymbols, .ref h_t_shrunk, .int v_t_leaves, .int v_t_made, .int v_t_nextLeaf, .int v_t_nextJoined])), (h_p1, .inl (cI, n_p1, .inl f_p1)), (h_p2, .inl (cI, n_p2, .inl f_p2)), (h_t_shrunk, .inl (cI, 286, .inl f_t_shrunk)), (h_t_weights, .inl (cI, 572, .inl f_t_weights)), (h_t_leafSymbols, .inl (cI, 286, .inl f_t_leafSymbols)), (h_t_parents, .inl (cI, 572, .inl f_t_parents)), (h_t_depths, .inl (cI, 572, .inl f_t_depths))] := hD.sub [6, 0, 1, 2, 3, 4, 5, 7] (by decide) rfl
      replace hw := hw.symm
      subst hw
      refine lv_iload_n hx hb d_Trees_findLengths_51 rfl (lv_at hl 2 rfl) ?_
      refine lv_icmp_le (tgt := 77) hx hb d_Trees_findLengths_52 (by decide) (fun c10 => ?_) (fun c10 => ?_)
      · replace h := ip_p c10 h
        obtain rfl := Option.some.inj h
        exact kx _ _ _ hP hD hS (lv_sub hl [0, 1] rfl)
      · replace h := ip_n c10 h
        refine lv_aload_n hx hb d_Trees_findLengths_55 rfl (lv_at hl 0 rfl) ?_
        refine lv_iload hx hb d_Trees_findLengths_56 (lv_at hl 3 rfl) ?_
        obtain ⟨y11, hy11, h⟩ := bd h
        have hPc := hP.sub (ws' := [(h_t, .inr (8, [.ref h_t_weights, .ref h_t_parents, .ref h_t_depths, .ref h_t_leafSymbols, .ref h_t_shrunk, .int v_t_leaves, .int v_t_made, .int v_t_nextLeaf, .int v_t_nextJoined])), (h_t_shrunk, .inl (cI, 286, .inl f_t_shrunk))]) [0, 3] rfl
        have hDc := hD.sub (ws' := [(h_t, .inr (8, [.ref h_t_weights, .ref h_t_parents, .ref h_t_depths, .ref h_t_leafSymbols, .ref h_t_shrunk, .int v_t_leaves, .int v_t_made, .int v_t_nextLeaf, .int v_t_nextJoined])), (h_t_shrunk, .inl (cI, 286, .inl f_t_shrunk))]) [0, 3] (by decide) rfl
        have hFc := va_free (wc := [(h_t, .inr (8, [.ref h_t_weights, .ref h_t_parents, .ref h_t_depths, .ref h_t_leafSymbols, .ref h_t_shrunk, .int v_t_leaves, .int v_t_made, .int v_t_nextLeaf, .int v_t_nextJoined])), (h_t_shrunk, .inl (cI, 286, .inl f_t_shrunk))]) hD hS hA [0, 3] rfl
        refine va_callv (va_runV (As := [.int x4]) (rest := []) ⟨hx, hb, hml, hown, ht⟩ (cTrees_halve l dC dI h_t h_t_weights h_t_parents h_t_depths h_t_leafSymbols h_t_shrunk cB cI cJ _ N x4 v_t_leaves v_t_made v_t_nextLeaf v_t_nextJoined f_t_shrunk y11 hy11) (⟨callB_of 1 ht (gTB (k_536)) rfl rfl rfl (ht _ k_68) (ht _ k_533) (by decide +kernel) ⟨Nat.le_of_ble_eq_true rfl, Nat.le_of_ble_eq_true rfl⟩, ht _ k_535, ht _ k_12⟩) ⟨fun a U g mk q => by obtain ⟨q0, q1, qP, qK, qD, qN⟩ := q; exact ⟨q0, q1, qP, va_K.moved (u := U) (U := U.calling g mk a) (Vm.Alike.refl U.vm) qK, qD, NW_same (u := U) rfl qN⟩, va_recv hK hPc (ci := 8) (q0 := 0) rfl rfl, fun U hU hW => ⟨rfl, by rw [hU], by rw [hU]; exact hPc, va_K.moved hW.alike hK, hDc.weaken (fun _ _ _ _ => trivial), NW_warm hW hN⟩⟩ rfl rfl hl.1 rfl (lv_room (Nat.le_of_ble_eq_true rfl)) d_Trees_findLengths_58 ⟨Nat.le_of_ble_eq_true rfl, Nat.le_of_ble_eq_true rfl⟩) hS (fun q _ h => hFc q h) hFc (fun u t H1 locs htH hvm hw hB hz1 hk1 hS => ?_)
        obtain ⟨hP1, hK1, hD1⟩ := hB
        rw [htH] at hP1
        obtain ⟨hP, hD⟩ := va_join (wr := [(h_p1, .inl (cI, n_p1, .inl f_p1)), (h_p2, .inl (cI, n_p2, .inl f_p2)), (h_t_weights, .inl (cI, 572, .inl f_t_weights)), (h_t_leafSymbols, .inl (cI, 286, .inl f_t_leafSymbols)), (h_t_parents, .inl (cI, 572, .inl f_t_parents)), (h_t_depths, .inl (cI, 572, .inl f_t_depths))]) (w1 := [(h_t, .inr (8, [.ref h_t_weights, .ref h_t_parents, .ref h_t_depths, .ref h_t_leafSymbols, .ref h_t_shrunk, .int v_t_leaves, .int v_t_made, .int v_t_nextLeaf, .int v_t_nextJoined])), (h_t_shrunk, .inl (cI, 286, .inl y11))]) hP hD [0, 3] [1, 2, 4, 5, 6, 7] rfl rfl (by decide) (by decide) hk1 hFc hP1 hD1
        generalize H1 = H at hP hS ⊢
        have hP : va_P (dC, dI) vwCl [(h_t, .inr (8, [.ref h_t_weights, .ref h_t_parents, .ref h_t_depths, .ref h_t_leafSymbols, .ref h_t_shrunk, .int v_t_leaves, .int v_t_made, .int v_t_nextLeaf, .int v_t_nextJoined])), (h_p1, .inl (cI, n_p1, .inl f_p1)), (h_p2, .inl (cI, n_p2, .inl f_p2)), (h_t_shrunk, .inl (cI, 286, .inl y11)), (h_t_weights, .inl (cI, 572, .inl f_t_weights)), (h_t_leafSymbols, .inl (cI, 286, .inl f_t_leafSymbols)), (h_t_parents, .inl (cI, 572, .inl f_t_parents)), (h_t_depths, .inl (cI, 572, .inl f_t_depths))] H := hP.sub [6, 0, 1, 7, 2, 3, 4, 5] rfl
        have hD : va_D A [(h_t, .inr (8, [.ref h_t_weights, .ref h_t_parents, .ref h_t_depths, .ref h_t_leafSymbols, .ref h_t_shrunk, .int v_t_leaves, .int v_t_made, .int v_t_nextLeaf, .int v_t_nextJoined])), (h_p1, .inl (cI, n_p1, .inl f_p1)), (h_p2, .inl (cI, n_p2, .inl f_p2)), (h_t_shrunk, .inl (cI, 286, .inl y11)), (h_t_weights, .inl (cI, 572, .inl f_t_weights)), (h_t_leafSymbols, .inl (cI, 286, .inl f_t_leafSymbols)), (h_t_parents, .inl (cI, 572, .inl f_t_parents)), (h_t_depths, .inl (cI, 572, .inl f_t_depths))] := hD.sub [6, 0, 1, 7, 2, 3, 4, 5] (by decide) rfl
        refine lv_aload_n hx hb d_Trees_findLengths_61 rfl (lv_at hl 0 rfl) ?_
        refine lv_iload hx hb d_Trees_findLengths_62 (lv_at hl 3 rfl) ?_
        obtain ⟨y12, hy12, h⟩ := bd h
        have hPc := hP.sub (ws' := [(h_t, .inr (8, [.ref h_t_weights, .ref h_t_parents, .ref h_t_depths, .ref h_t_leafSymbols, .ref h_t_shrunk, .int v_t_leaves, .int v_t_made, .int v_t_nextLeaf, .int v_t_nextJoined])), (h_t_shrunk, .inl (cI, 286, .inl y11)), (h_t_weights, .inl (cI, 572, .inl f_t_weights)), (h_t_leafSymbols, .inl (cI, 286, .inl f_t_leafSymbols))]) [0, 3, 4, 5] rfl
        have hDc := hD.sub (ws' := [(h_t, .inr (8, [.ref h_t_weights, .ref h_t_parents, .ref h_t_depths, .ref h_t_leafSymbols, .ref h_t_shrunk, .int v_t_leaves, .int v_t_made, .int v_t_nextLeaf, .int v_t_nextJoined])), (h_t_shrunk, .inl (cI, 286, .inl y11)), (h_t_weights, .inl (cI, 572, .inl f_t_weights)), (h_t_leafSymbols, .inl (cI, 286, .inl f_t_leafSymbols))]) [0, 3, 4, 5] (by decide) rfl
        have hFc := va_free (wc := [(h_t, .inr (8, [.ref h_t_weights, .ref h_t_parents, .ref h_t_depths, .ref h_t_leafSymbols, .ref h_t_shrunk, .int v_t_leaves, .int v_t_made, .int v_t_nextLeaf, .int v_t_nextJoined])), (h_t_shrunk, .inl (cI, 286, .inl y11)), (h_t_weights, .inl (cI, 572, .inl f_t_weights)), (h_t_leafSymbols, .inl (cI, 286, .inl f_t_leafSymbols))]) hD hS hA [0, 3, 4, 5] rfl
        refine va_callv (va_runV (As := [.int x4]) (rest := []) ⟨hx, hb, hml, hown, ht⟩ (cTrees_sortLeaves l dC dI h_t h_t_weights h_t_parents h_t_depths h_t_leafSymbols h_t_shrunk cB cI cJ _ N x4 v_t_leaves v_t_made v_t_nextLeaf v_t_nextJoined y11 f_t_weights f_t_leafSymbols y12 hy12) (⟨callB_of 1 ht (gTB (k_515)) rfl rfl rfl (ht _ k_68) (ht _ k_512) (by decide +kernel) ⟨Nat.le_of_ble_eq_true rfl, Nat.le_of_ble_eq_true rfl⟩, ht _ k_514, ht _ k_7⟩) ⟨fun a U g mk q => by obtain ⟨q0, q1, qP, qK, qD, qN⟩ := q; exact ⟨q0, q1, qP, va_K.moved (u := U) (U := U.calling g mk a) (Vm.Alike.refl U.vm) qK, qD, NW_same (u := U) rfl qN⟩, va_recv hK hPc (ci := 8) (q0 := 0) rfl rfl, fun U hU hW => ⟨rfl, by rw [hU], by rw [hU]; exact hPc, va_K.moved hW.alike hK, hDc.weaken (fun _ _ _ _ => trivial), NW_warm hW hN⟩⟩ rfl rfl hl.1 rfl (lv_room (Nat.le_of_ble_eq_true rfl)) d_Trees_findLengths_64 ⟨Nat.le_of_ble_eq_true rfl, Nat.le_of_ble_eq_true rfl⟩) hS (fun q _ h => hFc q h) hFc (fun u t H1 locs htH hvm hw hB hz1 hk1 hS => ?_)
        obtain ⟨hP1, hK1, hD1⟩ := hB
        rw [htH] at hP1
        obtain ⟨hP, hD⟩ := va_join (wr := [(h_p1, .inl (cI, n_p1, .inl f_p1)), (h_p2, .inl (cI, n_p2, .inl f_p2)), (h_t_parents, .inl (cI, 572, .inl f_t_parents)), (h_t_depths, .inl (cI, 572, .inl f_t_depths))]) (w1 := [(h_t, .inr (8, [.ref h_t_weights, .ref h_t_parents, .ref h_t_depths, .ref h_t_leafSymbols, .ref h_t_shrunk, .int y12.1, .int v_t_made, .int v_t_nextLeaf, .int v_t_nextJoined])), (h_t_shrunk, .inl (cI, 286, .inl y11)), (h_t_weights, .inl (cI, 572, .inl y12.2.1)), (h_t_leafSymbols, .inl (cI, 286, .inl y12.2.2))]) hP hD [0, 3, 4, 5] [1, 2, 6, 7] rfl rfl (by decide) (by decide) hk1 hFc hP1 hD1
        generalize H1 = H at hP hS ⊢
        have hP : va_P (dC, dI) vwCl [(h_t, .inr (8, [.ref h_t_weights, .ref h_t_parents, .ref h_t_depths, .ref h_t_leafSymbols, .ref h_t_shrunk, .int y12.1, .int v_t_made, .int v_t_nextLeaf, .int v_t_nextJoined])), (h_p1, .inl (cI, n_p1, .inl f_p1)), (h_p2, .inl (cI, n_p2, .inl f_p2)), (h_t_shrunk, .inl (cI, 286, .inl y11)), (h_t_weights, .inl (cI, 572, .inl y12.2.1)), (h_t_leafSymbols, .inl (cI, 286, .inl y12.2.2)), (h_t_parents, .inl (cI, 572, .inl f_t_parents)), (h_t_depths, .inl (cI, 572, .inl f_t_depths))] H := hP.sub [4, 0, 1, 5, 6, 7, 2, 3] rfl
        have hD : va_D A [(h_t, .inr (8, [.ref h_t_weights, .ref h_t_parents, .ref h_t_depths, .ref h_t_leafSymbols, .ref h_t_shrunk, .int y12.1, .int v_t_made, .int v_t_nextLeaf, .int v_t_nextJoined])), (h_p1, .inl (cI, n_p1, .inl f_p1)), (h_p2, .inl (cI, n_p2, .inl f_p2)), (h_t_shrunk, .inl (cI, 286, .inl y11)), (h_t_weights, .inl (cI, 572, .inl y12.2.1)), (h_t_leafSymbols, .inl (cI, 286, .inl y12.2.2)), (h_t_parents, .inl (cI, 572, .inl f_t_parents)), (h_t_depths, .inl (cI, 572, .inl f_t_depths))] := hD.sub [4, 0, 1, 5, 6, 7, 2, 3] (by decide) rfl
        refine lv_aload_n hx hb d_Trees_findLengths_67 rfl (lv_at hl 0 rfl) ?_
        obtain ⟨y13, hy13, h⟩ := bd h
        have hPc := hP.sub (ws' := [(h_t, .inr (8, [.ref h_t_weights, .ref h_t_parents, .ref h_t_depths, .ref h_t_leafSymbols, .ref h_t_shrunk, .int y12.1, .int v_t_made, .int v_t_nextLeaf, .int v_t_nextJoined])), (h_t_weights, .inl (cI, 572, .inl y12.2.1)), (h_t_parents, .inl (cI, 572, .inl f_t_parents)), (h_t_depths, .inl (cI, 572, .inl f_t_depths))]) [0, 4, 6, 7] rfl
        have hDc := hD.sub (ws' := [(h_t, .inr (8, [.ref h_t_weights, .ref h_t_parents, .ref h_t_depths, .ref h_t_leafSymbols, .ref h_t_shrunk, .int y12.1, .int v_t_made, .int v_t_nextLeaf, .int v_t_nextJoined])), (h_t_weights, .inl (cI, 572, .inl y12.2.1)), (h_t_parents, .inl (cI, 572, .inl f_t_parents)), (h_t_depths, .inl (cI, 572, .inl f_t_depths))]) [0, 4, 6, 7] (by decide) rfl
        have hFc := va_free (wc := [(h_t, .inr (8, [.ref h_t_weights, .ref h_t_parents, .ref h_t_depths, .ref h_t_leafSymbols, .ref h_t_shrunk, .int y12.1, .int v_t_made, .int v_t_nextLeaf, .int v_t_nextJoined])), (h_t_weights, .inl (cI, 572, .inl y12.2.1)), (h_t_parents, .inl (cI, 572, .inl f_t_parents)), (h_t_depths, .inl (cI, 572, .inl f_t_depths))]) hD hS hA [0, 4, 6, 7] rfl
        refine va_callv (va_runV (As := []) (rest := []) ⟨hx, hb, hml, hown, ht⟩ (cTrees_joinAll l dC dI h_t h_t_weights h_t_parents h_t_depths h_t_leafSymbols h_t_shrunk cB cI cJ _ N y12.1 v_t_made v_t_nextLeaf v_t_nextJoined y12.2.1 f_t_parents f_t_depths y13 hy13) (⟨callB_of 0 ht (gTB (k_523)) rfl rfl rfl (ht _ k_68) (ht _ k_520) (by decide +kernel) ⟨Nat.le_of_ble_eq_true rfl, Nat.le_of_ble_eq_true rfl⟩, ht _ k_522, ht _ k_9⟩) ⟨fun a U g mk q => by obtain ⟨q0, q1, qP, qK, qD, qN⟩ := q; exact ⟨q0, q1, qP, va_K.moved (u := U) (U := U.calling g mk a) (Vm.Alike.refl U.vm) qK, qD, NW_same (u := U) rfl qN⟩, va_recv hK hPc (ci := 8) (q0 := 0) rfl rfl, fun U hU hW => ⟨rfl, by rw [hU], by rw [hU]; exact hPc, va_K.moved hW.alike hK, hDc.weaken (fun _ _ _ _ => trivial), NW_warm hW hN⟩⟩ rfl rfl hl.1 rfl (lv_room (Nat.le_of_ble_eq_true rfl)) d_Trees_findLengths_68 ⟨Nat.le_of_ble_eq_true rfl, Nat.le_of_ble_eq_true rfl⟩) hS (fun q _ h => hFc q h) hFc (fun u t H1 locs htH hvm hw hB hz1 hk1 hS => ?_)
        obtain ⟨hP1, hK1, hD1⟩ := hB
        rw [htH] at hP1
        obtain ⟨hP, hD⟩ := va_join (wr := [(h_p1, .inl (cI, n_p1, .inl f_p1)), (h_p2, .inl (cI, n_p2, .inl f_p2)), (h_t_shrunk, .inl (cI, 286, .inl y11)), (h_t_leafSymbols, .inl (cI, 286, .inl y12.2.2))]) (w1 := [(h_t, .inr (8, [.ref h_t_weights, .ref h_t_parents, .ref h_t_depths, .ref h_t_leafSymbols, .ref h_t_shrunk, .int y12.1, .int y13.1, .int y13.2.1, .int y13.2.2.1])), (h_t_weights, .inl (cI, 572, .inl y13.2.2.2.1)), (h_t_parents, .inl (cI, 572, .inl y13.2.2.2.2.1)), (h_t_depths, .inl (cI, 572, .inl y13.2.2.2.2.2))]) hP hD [0, 4, 6, 7] [1, 2, 3, 5] rfl rfl (by decide) (by decide) hk1 hFc hP1 hD1
        generalize H1 = H at hP hS ⊢
        have hP : va_P (dC, dI) vwCl [(h_t, .inr (8, [.ref h_t_weights, .ref h_t_parents, .ref h_t_depths, .ref h_t_leafSymbols, .ref h_t_shrunk, .int y12.1, .int y13.1, .int y13.2.1, .int y13.2.2.1])), (h_p1, .inl (cI, n_p1, .inl f_p1)), (h_p2, .inl (cI, n_p2, .inl f_p2)), (h_t_shrunk, .inl (cI, 286, .inl y11)), (h_t_weights, .inl (cI, 572, .inl y13.2.2.2.1)), (h_t_leafSymbols, .inl (cI, 286, .inl y12.2.2)), (h_t_parents, .inl (cI, 572, .inl y13.2.2.2.2.1)), (h_t_depths, .inl (cI, 572, .inl y13.2.2.2.2.2))] H := hP.sub [4, 0, 1, 2, 5, 3, 6, 7] rfl
        have hD : va_D A [(h_t, .inr (8, [.ref h_t_weights, .ref h_t_parents, .ref h_t_depths, .ref h_t_leafSymbols, .ref h_t_shrunk, .int y12.1, .int y13.1, .int y13.2.1, .int y13.2.2.1])), (h_p1, .inl (cI, n_p1, .inl f_p1)), (h_p2, .inl (cI, n_p2, .inl f_p2)), (h_t_shrunk, .inl (cI, 286, .inl y11)), (h_t_weights, .inl (cI, 572, .inl y13.2.2.2.1)), (h_t_leafSymbols, .inl (cI, 286, .inl y12.2.2)), (h_t_parents, .inl (cI, 572, .inl y13.2.2.2.2.1)), (h_t_depths, .inl (cI, 572, .inl y13.2.2.2.2.2))] := hD.sub [4, 0, 1, 2, 5, 3, 6, 7] (by decide) rfl
        refine lv_iinc (v := x5 + (1 : Int32)) (lv' := [(5, .int (x5 + (1 : Int32))), (0, .ref h_t), (2, .ref h_p2), (3, .int x3), (4, .int x4)]) hx hb d_Trees_findLengths_71 hl (k := 4) rfl rfl (by decide) rfl (fun ls hl => ?_)
        refine lv_goto (tgt := 40) hx hb d_Trees_findLengths_74 (by decide) ?_
        exact ih (x5 + (1 : Int32)) y12.1 y13.1 y13.2.1 y13.2.2.1 y11 y13.2.2.2.1 y12.2.2 y13.2.2.2.2.1 y13.2.2.2.2.2 _ _ _ _ hP hD hS (lv_sub hl [1, 2, 3, 4, 0] rfl) h kx
set_option maxHeartbeats 4000000 in
set_option maxRecDepth 100000 in
theorem wTrees_findLengths_85 {p : Program} {l : Launch} {e : Env} {s : State} {m : MethodId} {args : Array Value} {below : List Frame} {meth : Method} {c : Code} {Q : State → Prop} {A : Nat → Prop} {dC : Nat → ClassId} {dI : Nat → Nat → Nat} (h_t h_t_weights h_t_parents h_t_depths h_t_leafSymbols h_t_shrunk h_p1 h_p2 : Nat) (cB cI cJ : ClassId) (N : Nat) (v_t_leaves : Int32) (v_t_made : Int32) (v_t_nextLeaf : Int32) (v_t_nextJoined : Int32) (n_p1 : Nat) (f_p1 : Nat → Int32) (n_p2 : Nat) (f_t_shrunk : Nat → Int32) (f_t_weights : Nat → Int32) (f_t_leafSymbols : Nat → Int32) (f_t_parents : Nat → Int32) (f_t_depths : Nat → Int32) (C : CX p s m args c b_Trees_findLengths 6 R_Trees A (dC, dI) [(cB, .byte), (cI, .int), (cJ, .long)]) :
    ∀ (n : Nat) (x5 : Int32) (f_p2 : Nat → Int32) (H : Heap) (locs : List Loc) (ls : Array Slot) (o : (Nat → Int32)), va_P (dC, dI) vwCl [(h_t, .inr (8, [.ref h_t_weights, .ref h_t_parents, .ref h_t_depths, .ref h_t_leafSymbols, .ref h_t_shrunk, .int v_t_leaves, .int v_t_made, .int v_t_nextLeaf, .int v_t_nextJoined])), (h_p1, .inl (cI, n_p1, .inl f_p1)), (h_p2, .inl (cI, n_p2, .inl f_p2)), (h_t_shrunk, .inl (cI, 286, .inl f_t_shrunk)), (h_t_weights, .inl (cI, 572, .inl f_t_weights)), (h_t_leafSymbols, .inl (cI, 286, .inl f_t_leafSymbols)), (h_t_parents, .inl (cI, 572, .inl f_t_parents)), (h_t_depths, .inl (cI, 572, .inl f_t_depths))] H → va_D A [(h_t, .inr (8, [.ref h_t_weights, .ref h_t_parents, .ref h_t_depths, .ref h_t_leafSymbols, .ref h_t_shrunk, .int v_t_leaves, .int v_t_made, .int v_t_nextLeaf, .int v_t_nextJoined])), (h_p1, .inl (cI, n_p1, .inl f_p1)), (h_p2, .inl (cI, n_p2, .inl f_p2)), (h_t_shrunk, .inl (cI, 286, .inl f_t_shrunk)), (h_t_weights, .inl (cI, 572, .inl f_t_weights)), (h_t_leafSymbols, .inl (cI, 286, .inl f_t_leafSymbols)), (h_t_parents, .inl (cI, 572, .inl f_t_parents)), (h_t_depths, .inl (cI, 572, .inl f_t_depths))] → va_S A s.heap H locs → lv_has ls 6 [(0, .ref h_t), (2, .ref h_p2), (5, .int x5)] → fTrees_findLengths_85 N v_t_leaves n_p2 f_t_leafSymbols f_t_depths n x5 f_p2 = some o → (∀ (H : Heap) (locs : List Loc) (ls : Array Slot), va_P (dC, dI) vwCl [(h_t, .inr (8, [.ref h_t_weights, .ref h_t_parents, .ref h_t_depths, .ref h_t_leafSymbols, .ref h_t_shrunk, .int v_t_leaves, .int v_t_made, .int v_t_nextLeaf, .int v_t_nextJoined])), (h_p1, .inl (cI, n_p1, .inl f_p1)), (h_p2, .inl (cI, n_p2, .inl o)), (h_t_shrunk, .inl (cI, 286, .inl f_t_shrunk)), (h_t_weights, .inl (cI, 572, .inl f_t_weights)), (h_t_leafSymbols, .inl (cI, 286, .inl f_t_leafSymbols)), (h_t_parents, .inl (cI, 572, .inl f_t_parents)), (h_t_depths, .inl (cI, 572, .inl f_t_depths))] H → va_D A [(h_t, .inr (8, [.ref h_t_weights, .ref h_t_parents, .ref h_t_depths, .ref h_t_leafSymbols, .ref h_t_shrunk, .int v_t_leaves, .int v_t_made, .int v_t_nextLeaf, .int v_t_nextJoined])), (h_p1, .inl (cI, n_p1, .inl f_p1)), (h_p2, .inl (cI, n_p2, .inl o)), (h_t_shrunk, .inl (cI, 286, .inl f_t_shrunk)), (h_t_weights, .inl (cI, 572, .inl f_t_weights)), (h_t_leafSymbols, .inl (cI, 286, .inl f_t_leafSymbols)), (h_t_parents, .inl (cI, 572, .inl f_t_parents)), (h_t_depths, .inl (cI, 572, .inl f_t_depths))] → va_S A s.heap H locs → lv_has ls 6 [] → W p l e ({ frames := 2, cells := 0, slots := 0, locals := 45 } : Room) s m args below meth c H locs 0 0 Q (F0 m 128 ls [])) → W p l e ({ frames := 2, cells := 0, slots := 0, locals := 45 } : Room) s m args below meth c H locs 0 0 Q (F0 m 85 ls []) := by
  obtain ⟨hx, hb, hml, hown, ht, hA, hK, hN⟩ := id C
  intro n
  induction n with
  | zero => intro x5 f_p2 H locs ls o _ _ _ _ h; exact nomatch h
  | succ k ih =>
    intro x5 f_p2 H locs ls o hP hD hS hl h kx
    refine lv_iload hx hb d_Trees_findLengths_85 (lv_at hl 2 rfl) ?_
    refine lv_aload_n hx hb d_Trees_findLengths_87 rfl (lv_at hl 0 rfl) ?_
    refine va_get (D := (dC, dI)) (ci := 8) (v := .int v_t_leaves) (C := R_Trees) (T := F_Trees) (N := 9) hx hb ht in_Trees hown hK hP 0 rfl rfl 5 (by decide) (ht _ k_137) (fun _ h9 => h9) rfl d_Trees_findLengths_88 ?_
    refine lv_icmp_ge (tgt := 128) hx hb d_Trees_findLengths_91 (by decide) (fun c16 => ?_) (fun c16 => ?_)
    · replace h := ip_p c16 h
      obtain rfl := Option.some.inj h
      exact kx _ _ _ hP hD hS (lv_sub hl [] rfl)
    · replace h := ip_n c16 h
      refine lv_aload_n hx hb d_Trees_findLengths_94 rfl (lv_at hl 1 rfl) ?_
      refine lv_aload_n hx hb d_Trees_findLengths_95 rfl (lv_at hl 0 rfl) ?_
      refine va_get (D := (dC, dI)) (ci := 8) (v := .ref h_t_leafSymbols) (C := R_Trees) (T := F_Trees) (N := 9) hx hb ht in_Trees hown hK hP 0 rfl rfl 3 (by decide) (ht _ k_135) (fun _ h9 => h9) rfl d_Trees_findLengths_96 ?_
      refine lv_iload hx hb d_Trees_findLengths_99 (lv_at hl 2 rfl) ?_
      obtain ⟨g17, h⟩ := gd h
      refine va_iald hx hb hK hP 5 1 rfl rfl g17 d_Trees_findLengths_101 ?_
      refine lv_aload_n hx hb d_Trees_findLengths_102 rfl (lv_at hl 0 rfl) ?_
      refine va_get (D := (dC, dI)) (ci := 8) (v := .int v_t_leaves) (C := R_Trees) (T := F_Trees) (N := 9) hx hb ht in_Trees hown hK hP 0 rfl rfl 5 (by decide) (ht _ k_137) (fun _ h9 => h9) rfl d_Trees_findLengths_103 ?_
      refine lv_iconst (v := (1 : Int32)) hx hb d_Trees_findLengths_106 (by decide) ?_
      refine lv_icmp_ne (tgt := 114) hx hb d_Trees_findLengths_107 (by decide) (fun c18 => ?_) (fun c18 => ?_)
      · replace h := ip_n c18 h
        refine lv_aload_n hx hb d_Trees_findLengths_114 rfl (lv_at hl 0 rfl) ?_
        refine va_get (D := (dC, dI)) (ci := 8) (v := .ref h_t_depths) (C := R_Trees) (T := F_Trees) (N := 9) hx hb ht in_Trees hown hK hP 0 rfl rfl 2 (by decide) (ht _ k_134) (fun _ h9 => h9) rfl d_Trees_findLengths_115 ?_
        refine lv_iload hx hb d_Trees_findLengths_118 (lv_at hl 2 rfl) ?_
        obtain ⟨g19, h⟩ := gd h
        refine va_iald hx hb hK hP 7 1 rfl rfl g19 d_Trees_findLengths_120 ?_
        obtain ⟨g20, h⟩ := gd h
        refine va_iast hx hb hK hP hD hS 2 1 rfl rfl g20 d_Trees_findLengths_121 (fun H locs hP hD hS => ?_)
        have hP : va_P (dC, dI) vwCl [(h_t, .inr (8, [.ref h_t_weights, .ref h_t_parents, .ref h_t_depths, .ref h_t_leafSymbols, .ref h_t_shrunk, .int v_t_leaves, .int v_t_made, .int v_t_nextLeaf, .int v_t_nextJoined])), (h_p1, .inl (cI, n_p1, .inl f_p1)), (h_p2, .inl (cI, n_p2, .inl (upd f_p2 (f_t_leafSymbols x5.toNatClampNeg).toNatClampNeg (f_t_depths x5.toNatClampNeg)))), (h_t_shrunk, .inl (cI, 286, .inl f_t_shrunk)), (h_t_weights, .inl (cI, 572, .inl f_t_weights)), (h_t_leafSymbols, .inl (cI, 286, .inl f_t_leafSymbols)), (h_t_parents, .inl (cI, 572, .inl f_t_parents)), (h_t_depths, .inl (cI, 572, .inl f_t_depths))] H := hP
        have hD : va_D A [(h_t, .inr (8, [.ref h_t_weights, .ref h_t_parents, .ref h_t_depths, .ref h_t_leafSymbols, .ref h_t_shrunk, .int v_t_leaves, .int v_t_made, .int v_t_nextLeaf, .int v_t_nextJoined])), (h_p1, .inl (cI, n_p1, .inl f_p1)), (h_p2, .inl (cI, n_p2, .inl (upd f_p2 (f_t_leafSymbols x5.toNatClampNeg).toNatClampNeg (f_t_depths x5.toNatClampNeg)))), (h_t_shrunk, .inl (cI, 286, .inl f_t_shrunk)), (h_t_weights, .inl (cI, 572, .inl f_t_weights)), (h_t_leafSymbols, .inl (cI, 286, .inl f_t_leafSymbols)), (h_t_parents, .inl (cI, 572, .inl f_t_parents)), (h_t_depths, .inl (cI, 572, .inl f_t_depths))] := hD
        refine lv_iinc (v := x5 + (1 : Int32)) (lv' := [(5, .int (x5 + (1 : Int32))), (0, .ref h_t), (2, .ref h_p2)]) hx hb d_Trees_findLengths_122 hl (k := 2) rfl rfl (by decide) rfl (fun ls hl => ?_)
        refine lv_goto (tgt := 85) hx hb d_Trees_findLengths_125 (by decide) ?_
        exact ih (x5 + (1 : Int32)) (upd f_p2 (f_t_leafSymbols x5.toNatClampNeg).toNatClampNeg (f_t_depths x5.toNatClampNeg)) _ _ _ _ hP hD hS (lv_sub hl [1, 2, 0] rfl) h kx
      · replace h := ip_p c18 h
        refine lv_iconst (v := (1 : Int32)) hx hb d_Trees_findLengths_110 (by decide) ?_
        refine lv_goto (tgt := 121) hx hb d_Trees_findLengths_111 (by decide) ?_
        obtain ⟨g21, h⟩ := gd h
        refine va_iast hx hb hK hP hD hS 2 1 rfl rfl g21 d_Trees_findLengths_121 (fun H locs hP hD hS => ?_)
        have hP : va_P (dC, dI) vwCl [(h_t, .inr (8, [.ref h_t_weights, .ref h_t_parents, .ref h_t_depths, .ref h_t_leafSymbols, .ref h_t_shrunk, .int v_t_leaves, .int v_t_made, .int v_t_nextLeaf, .int v_t_nextJoined])), (h_p1, .inl (cI, n_p1, .inl f_p1)), (h_p2, .inl (cI, n_p2, .inl (upd f_p2 (f_t_leafSymbols x5.toNatClampNeg).toNatClampNeg (1 : Int32)))), (h_t_shrunk, .inl (cI, 286, .inl f_t_shrunk)), (h_t_weights, .inl (cI, 572, .inl f_t_weights)), (h_t_leafSymbols, .inl (cI, 286, .inl f_t_leafSymbols)), (h_t_parents, .inl (cI, 572, .inl f_t_parents)), (h_t_depths, .inl (cI, 572, .inl f_t_depths))] H := hP
        have hD : va_D A [(h_t, .inr (8, [.ref h_t_weights, .ref h_t_parents, .ref h_t_depths, .ref h_t_leafSymbols, .ref h_t_shrunk, .int v_t_leaves, .int v_t_made, .int v_t_nextLeaf, .int v_t_nextJoined])), (h_p1, .inl (cI, n_p1, .inl f_p1)), (h_p2, .inl (cI, n_p2, .inl (upd f_p2 (f_t_leafSymbols x5.toNatClampNeg).toNatClampNeg (1 : Int32)))), (h_t_shrunk, .inl (cI, 286, .inl f_t_shrunk)), (h_t_weights, .inl (cI, 572, .inl f_t_weights)), (h_t_leafSymbols, .inl (cI, 286, .inl f_t_leafSymbols)), (h_t_parents, .inl (cI, 572, .inl f_t_parents)), (h_t_depths, .inl (cI, 572, .inl f_t_depths))] := hD
        refine lv_iinc (v := x5 + (1 : Int32)) (lv' := [(5, .int (x5 + (1 : Int32))), (0, .ref h_t), (2, .ref h_p2)]) hx hb d_Trees_findLengths_122 hl (k := 2) rfl rfl (by decide) rfl (fun ls hl => ?_)
        refine lv_goto (tgt := 85) hx hb d_Trees_findLengths_125 (by decide) ?_
        exact ih (x5 + (1 : Int32)) (upd f_p2 (f_t_leafSymbols x5.toNatClampNeg).toNatClampNeg (1 : Int32)) _ _ _ _ hP hD hS (lv_sub hl [1, 2, 0] rfl) h kx
set_option maxHeartbeats 4000000 in
set_option maxRecDepth 100000 in
theorem cTrees_findLengths (l : Launch) (dC : Nat → ClassId) (dI : Nat → Nat → Nat) (h_t h_t_weights h_t_parents h_t_depths h_t_leafSymbols h_t_shrunk h_p1 h_p2 : Nat) (cB cI cJ : ClassId) (sz : Nat) (N : Nat) (p3 : Int32) (v_t_leaves : Int32) (v_t_made : Int32) (v_t_nextLeaf : Int32) (v_t_nextJoined : Int32) (n_p1 : Nat) (f_p1 : Nat → Int32) (n_p2 : Nat) (f_p2 : Nat → Int32) (f_t_shrunk : Nat → Int32) (f_t_weights : Nat → Int32) (f_t_leafSymbols : Nat → Int32) (f_t_parents : Nat → Int32) (f_t_depths : Nat → Int32) (o : Int32 × Int32 × Int32 × Int32 × (Nat → Int32) × (Nat → Int32) × (Nat → Int32) × (Nat → Int32) × (Nat → Int32) × (Nat → Int32)) (h : fTrees_findLengths N p3 n_p1 f_p1 n_p2 f_p2 f_t_shrunk f_t_weights f_t_leafSymbols f_t_parents f_t_depths = some o) : Met l y_Trees_findLengths w_Trees_findLengths ({ frames := 2, cells := 0, slots := 0, locals := 45 } : Room) (va_Pc [.ref h_t, .ref h_p1, .ref h_p2, .int p3] (fun U => U.heap.size = sz ∧ va_P (dC, dI) vwCl [(h_t, .inr (8, [.ref h_t_weights, .ref h_t_parents, .ref h_t_depths, .ref h_t_leafSymbols, .ref h_t_shrunk, .int v_t_leaves, .int v_t_made, .int v_t_nextLeaf, .int v_t_nextJoined])), (h_p1, .inl (cI, n_p1, .inl f_p1)), (h_p2, .inl (cI, n_p2, .inl f_p2)), (h_t_shrunk, .inl (cI, 286, .inl f_t_shrunk)), (h_t_weights, .inl (cI, 572, .inl f_t_weights)), (h_t_leafSymbols, .inl (cI, 286, .inl f_t_leafSymbols)), (h_t_parents, .inl (cI, 572, .inl f_t_parents)), (h_t_depths, .inl (cI, 572, .inl f_t_depths))] U.heap ∧ va_K (dC, dI) vwCl [(cB, .byte), (cI, .int), (cJ, .long)] U ∧ va_D (fun _ => True) [(h_t, .inr (8, [.ref h_t_weights, .ref h_t_parents, .ref h_t_depths, .ref h_t_leafSymbols, .ref h_t_shrunk, .int v_t_leaves, .int v_t_made, .int v_t_nextLeaf, .int v_t_nextJoined])), (h_p1, .inl (cI, n_p1, .inl f_p1)), (h_p2, .inl (cI, n_p2, .inl f_p2)), (h_t_shrunk, .inl (cI, 286, .inl f_t_shrunk)), (h_t_weights, .inl (cI, 572, .inl f_t_weights)), (h_t_leafSymbols, .inl (cI, 286, .inl f_t_leafSymbols)), (h_t_parents, .inl (cI, 572, .inl f_t_parents)), (h_t_depths, .inl (cI, 572, .inl f_t_depths))] ∧ NW U)) (va_Qv (fun _ : Unit => True) (fun _ t => va_P (dC, dI) vwCl [(h_t, .inr (8, [.ref h_t_weights, .ref h_t_parents, .ref h_t_depths, .ref h_t_leafSymbols, .ref h_t_shrunk, .int o.1, .int o.2.1, .int o.2.2.1, .int o.2.2.2.1])), (h_p1, .inl (cI, n_p1, .inl f_p1)), (h_p2, .inl (cI, n_p2, .inl o.2.2.2.2.1)), (h_t_shrunk, .inl (cI, 286, .inl o.2.2.2.2.2.1)), (h_t_weights, .inl (cI, 572, .inl o.2.2.2.2.2.2.1)), (h_t_leafSymbols, .inl (cI, 286, .inl o.2.2.2.2.2.2.2.1)), (h_t_parents, .inl (cI, 572, .inl o.2.2.2.2.2.2.2.2.1)), (h_t_depths, .inl (cI, 572, .inl o.2.2.2.2.2.2.2.2.2))] t.heap ∧ va_K (dC, dI) vwCl [(cB, .byte), (cI, .int), (cJ, .long)] t ∧ va_D (va_A [(h_t, .inr (8, [.ref h_t_weights, .ref h_t_parents, .ref h_t_depths, .ref h_t_leafSymbols, .ref h_t_shrunk, .int v_t_leaves, .int v_t_made, .int v_t_nextLeaf, .int v_t_nextJoined])), (h_p1, .inl (cI, n_p1, .inl f_p1)), (h_p2, .inl (cI, n_p2, .inl f_p2)), (h_t_shrunk, .inl (cI, 286, .inl f_t_shrunk)), (h_t_weights, .inl (cI, 572, .inl f_t_weights)), (h_t_leafSymbols, .inl (cI, 286, .inl f_t_leafSymbols)), (h_t_parents, .inl (cI, 572, .inl f_t_parents)), (h_t_depths, .inl (cI, 572, .inl f_t_depths))] sz) [(h_t, .inr (8, [.ref h_t_weights, .ref h_t_parents, .ref h_t_depths, .ref h_t_leafSymbols, .ref h_t_shrunk, .int o.1, .int o.2.1, .int o.2.2.1, .int o.2.2.2.1])), (h_p1, .inl (cI, n_p1, .inl f_p1)), (h_p2, .inl (cI, n_p2, .inl o.2.2.2.2.1)), (h_t_shrunk, .inl (cI, 286, .inl o.2.2.2.2.2.1)), (h_t_weights, .inl (cI, 572, .inl o.2.2.2.2.2.2.1)), (h_t_leafSymbols, .inl (cI, 286, .inl o.2.2.2.2.2.2.2.1)), (h_t_parents, .inl (cI, 572, .inl o.2.2.2.2.2.2.2.2.1)), (h_t_depths, .inl (cI, 572, .inl o.2.2.2.2.2.2.2.2.2))]) (va_A [(h_t, .inr (8, [.ref h_t_weights, .ref h_t_parents, .ref h_t_depths, .ref h_t_leafSymbols, .ref h_t_shrunk, .int v_t_leaves, .int v_t_made, .int v_t_nextLeaf, .int v_t_nextJoined])), (h_p1, .inl (cI, n_p1, .inl f_p1)), (h_p2, .inl (cI, n_p2, .inl f_p2)), (h_t_shrunk, .inl (cI, 286, .inl f_t_shrunk)), (h_t_weights, .inl (cI, 572, .inl f_t_weights)), (h_t_leafSymbols, .inl (cI, 286, .inl f_t_leafSymbols)), (h_t_parents, .inl (cI, 572, .inl f_t_parents)), (h_t_depths, .inl (cI, 572, .inl f_t_depths))] sz)) 0 0 (va_A [(h_t, .inr (8, [.ref h_t_weights, .ref h_t_parents, .ref h_t_depths, .ref h_t_leafSymbols, .ref h_t_shrunk, .int v_t_leaves, .int v_t_made, .int v_t_nextLeaf, .int v_t_nextJoined])), (h_p1, .inl (cI, n_p1, .inl f_p1)), (h_p2, .inl (cI, n_p2, .inl f_p2)), (h_t_shrunk, .inl (cI, 286, .inl f_t_shrunk)), (h_t_weights, .inl (cI, 572, .inl f_t_weights)), (h_t_leafSymbols, .inl (cI, 286, .inl f_t_leafSymbols)), (h_t_parents, .inl (cI, 572, .inl f_t_parents)), (h_t_depths, .inl (cI, 572, .inl f_t_depths))] sz) := by
  refine Met.ofW (cc := b_Trees_findLengths) (maxL := 6) (ret := none) (by decide) rfl ?_
  intro p e s m args below meth c s₁ B hml hv
  obtain ⟨rfl, hsz, hP, hK, hD0, hN⟩ := hv
  have hx := B.exec
  have hb := B.bytes
  have hr := B.returns
  have hts := atoms_spec (ws := w_Trees_findLengths) B.pre
  have ht : ∀ w ∈ TB, w.before ([.ref h_t, .ref h_p1, .ref h_p2, .int p3]).toArray s = true := fun w h => hts w (List.mem_cons_of_mem _ h)
  have hown : s.vm.findClass R_Trees = some m.cls := findClass_of_methodNamed B.named
  have hlocks := B.notSynchronized
  subst hsz
  have hD := hD0.self (sz := s.heap.size)
  generalize hAe : va_A [(h_t, .inr (8, [.ref h_t_weights, .ref h_t_parents, .ref h_t_depths, .ref h_t_leafSymbols, .ref h_t_shrunk, .int v_t_leaves, .int v_t_made, .int v_t_nextLeaf, .int v_t_nextJoined])), (h_p1, .inl (cI, n_p1, .inl f_p1)), (h_p2, .inl (cI, n_p2, .inl f_p2)), (h_t_shrunk, .inl (cI, 286, .inl f_t_shrunk)), (h_t_weights, .inl (cI, 572, .inl f_t_weights)), (h_t_leafSymbols, .inl (cI, 286, .inl f_t_leafSymbols)), (h_t_parents, .inl (cI, 572, .inl f_t_parents)), (h_t_depths, .inl (cI, 572, .inl f_t_depths))] s.heap.size = A at hD ⊢
  have hA : ∀ q : Nat, s.heap.size ≤ q → A q := fun q h => by rw [← hAe]; exact Or.inr h
  have hS : va_S A s.heap s.heap [] := va_S.rf
  have hP : va_P (dC, dI) vwCl [(h_t, .inr (8, [.ref h_t_weights, .ref h_t_parents, .ref h_t_depths, .ref h_t_leafSymbols, .ref h_t_shrunk, .int v_t_leaves, .int v_t_made, .int v_t_nextLeaf, .int v_t_nextJoined])), (h_p1, .inl (cI, n_p1, .inl f_p1)), (h_p2, .inl (cI, n_p2, .inl f_p2)), (h_t_shrunk, .inl (cI, 286, .inl f_t_shrunk)), (h_t_weights, .inl (cI, 572, .inl f_t_weights)), (h_t_leafSymbols, .inl (cI, 286, .inl f_t_leafSymbols)), (h_t_parents, .inl (cI, 572, .inl f_t_parents)), (h_t_depths, .inl (cI, 572, .inl f_t_depths))] s.heap := hP
  have C : CX p s m ([.ref h_t, .ref h_p1, .ref h_p2, .int p3]).toArray c b_Trees_findLengths 6 R_Trees A (dC, dI) [(cB, .byte), (cI, .int), (cJ, .long)] := ⟨hx, hb, hml, hown, ht, hA, hK, hN⟩
  have hl := lv_entry ([.ref h_t, .ref h_p1, .ref h_p2, .int p3]) (n := 6) (Nat.le_of_ble_eq_true rfl)
  rw [lg_entry_eq]
  generalize (lg_sl ([.ref h_t, .ref h_p1, .ref h_p2, .int p3]) ++ List.replicate (6 - (lg_sl ([.ref h_t, .ref h_p1, .ref h_p2, .int p3])).length) Slot.unset).toArray = ls at hl ⊢
  have hl : lv_has ls 6 [(0, .ref h_t), (1, .ref h_p1), (2, .ref h_p2), (3, .int p3)] := hl
  refine lv_aload_n hx hb d_Trees_findLengths_0 rfl (lv_at hl 1 rfl) ?_
  refine va_alen (v := nI n_p1) hx hb hK hP 1 1 rfl rfl rfl d_Trees_findLengths_1 ?_
  refine lv_aload_n hx hb d_Trees_findLengths_2 rfl (lv_at hl 2 rfl) ?_
  refine va_alen (v := nI n_p2) hx hb hK hP 2 1 rfl rfl rfl d_Trees_findLengths_3 ?_
  refine va_mmin hx hb (hml.trans hl.1.symm) hown (ht _ k_508) (ht _ k_461) (ht _ k_83) (ht _ k_462) (Nat.le_of_ble_eq_true rfl) (Nat.le_of_ble_eq_true rfl) (Nat.le_of_ble_eq_true rfl) (Nat.le_of_ble_eq_true rfl) d_Trees_findLengths_4 ?_
  refine lv_sipush (v := (286 : Int32)) hx hb d_Trees_findLengths_7 (by decide) ?_
  refine va_mmin hx hb (hml.trans hl.1.symm) hown (ht _ k_508) (ht _ k_461) (ht _ k_83) (ht _ k_462) (Nat.le_of_ble_eq_true rfl) (Nat.le_of_ble_eq_true rfl) (Nat.le_of_ble_eq_true rfl) (Nat.le_of_ble_eq_true rfl) d_Trees_findLengths_10 ?_
  refine lv_istore (lv' := [(4, .int (if (286 : Int32) < (if (nI n_p2) < (nI n_p1) then (nI n_p2) else (nI n_p1)) then (286 : Int32) else (if (nI n_p2) < (nI n_p1) then (nI n_p2) else (nI n_p1)))), (0, .ref h_t), (1, .ref h_p1), (2, .ref h_p2), (3, .int p3)]) hx hb d_Trees_findLengths_13 hl (by decide) rfl (fun ls hl => ?_)
  refine lv_aload_n hx hb d_Trees_findLengths_15 rfl (lv_at hl 2 rfl) ?_
  refine lv_iconst (v := (0 : Int32)) hx hb d_Trees_findLengths_16 (by decide) ?_
  refine lv_aload_n hx hb d_Trees_findLengths_17 rfl (lv_at hl 1 rfl) ?_
  refine va_get (D := (dC, dI)) (ci := 8) (v := .ref h_t_shrunk) (C := R_Trees) (T := F_Trees) (N := 9) hx hb ht in_Trees hown hK hP 0 rfl rfl 4 (by decide) (ht _ k_136) (fun _ h9 => h9) rfl d_Trees_findLengths_18 ?_
  refine lv_iconst (v := (0 : Int32)) hx hb d_Trees_findLengths_21 (by decide) ?_
  refine lv_iload hx hb d_Trees_findLengths_22 (lv_at hl 0 rfl) ?_
  obtain ⟨g1, h⟩ := gd h
  obtain ⟨g2, h⟩ := gd h
  obtain ⟨g3, h⟩ := gd h
  obtain ⟨g4, h⟩ := gd h
  obtain ⟨g5, h⟩ := gd h
  refine va_copyi hx hb (hml.trans hl.1.symm) hown (ht _ k_509) (ht _ k_511) (ht _ k_510) (ht _ k_85) hK hP hD hS 1 3 1 1 rfl rfl rfl rfl rfl g1 g2 g3 g4 g5 (fun _ _ => rfl) (Nat.le_of_ble_eq_true rfl) (by decide) d_Trees_findLengths_24 (fun H locs hP hD hS => ?_)
  have hP : va_P (dC, dI) vwCl [(h_t, .inr (8, [.ref h_t_weights, .ref h_t_parents, .ref h_t_depths, .ref h_t_leafSymbols, .ref h_t_shrunk, .int v_t_leaves, .int v_t_made, .int v_t_nextLeaf, .int v_t_nextJoined])), (h_p1, .inl (cI, n_p1, .inl f_p1)), (h_p2, .inl (cI, n_p2, .inl f_p2)), (h_t_shrunk, .inl (cI, 286, .inl (va_cpy f_p1 f_t_shrunk (0 : Int32).toNatClampNeg (0 : Int32).toNatClampNeg (if (286 : Int32) < (if (nI n_p2) < (nI n_p1) then (nI n_p2) else (nI n_p1)) then (286 : Int32) else (if (nI n_p2) < (nI n_p1) then (nI n_p2) else (nI n_p1))).toNatClampNeg))), (h_t_weights, .inl (cI, 572, .inl f_t_weights)), (h_t_leafSymbols, .inl (cI, 286, .inl f_t_leafSymbols)), (h_t_parents, .inl (cI, 572, .inl f_t_parents)), (h_t_depths, .inl (cI, 572, .inl f_t_depths))] H := hP
  have hD : va_D A [(h_t, .inr (8, [.ref h_t_weights, .ref h_t_parents, .ref h_t_depths, .ref h_t_leafSymbols, .ref h_t_shrunk, .int v_t_leaves, .int v_t_made, .int v_t_nextLeaf, .int v_t_nextJoined])), (h_p1, .inl (cI, n_p1, .inl f_p1)), (h_p2, .inl (cI, n_p2, .inl f_p2)), (h_t_shrunk, .inl (cI, 286, .inl (va_cpy f_p1 f_t_shrunk (0 : Int32).toNatClampNeg (0 : Int32).toNatClampNeg (if (286 : Int32) < (if (nI n_p2) < (nI n_p1) then (nI n_p2) else (nI n_p1)) then (286 : Int32) else (if (nI n_p2) < (nI n_p1) then (nI n_p2) else (nI n_p1))).toNatClampNeg))), (h_t_weights, .inl (cI, 572, .inl f_t_weights)), (h_t_leafSymbols, .inl (cI, 286, .inl f_t_leafSymbols)), (h_t_parents, .inl (cI, 572, .inl f_t_parents)), (h_t_depths, .inl (cI, 572, .inl f_t_depths))] := hD
  refine lv_aload_n hx hb d_Trees_findLengths_27 rfl (lv_at hl 1 rfl) ?_
  refine lv_iload hx hb d_Trees_findLengths_28 (lv_at hl 0 rfl) ?_
  obtain ⟨y6, hy6, h⟩ := bd h
  have hPc := hP.sub (ws' := [(h_t, .inr (8, [.ref h_t_weights, .ref h_t_parents, .ref h_t_depths, .ref h_t_leafSymbols, .ref h_t_shrunk, .int v_t_leaves, .int v_t_made, .int v_t_nextLeaf, .int v_t_nextJoined])), (h_t_shrunk, .inl (cI, 286, .inl (va_cpy f_p1 f_t_shrunk (0 : Int32).toNatClampNeg (0 : Int32).toNatClampNeg (if (286 : Int32) < (if (nI n_p2) < (nI n_p1) then (nI n_p2) else (nI n_p1)) then (286 : Int32) else (if (nI n_p2) < (nI n_p1) then (nI n_p2) else (nI n_p1))).toNatClampNeg))), (h_t_weights, .inl (cI, 572, .inl f_t_weights)), (h_t_leafSymbols, .inl (cI, 286, .inl f_t_leafSymbols))]) [0, 3, 4, 5] rfl
  have hDc := hD.sub (ws' := [(h_t, .inr (8, [.ref h_t_weights, .ref h_t_parents, .ref h_t_depths, .ref h_t_leafSymbols, .ref h_t_shrunk, .int v_t_leaves, .int v_t_made, .int v_t_nextLeaf, .int v_t_nextJoined])), (h_t_shrunk, .inl (cI, 286, .inl (va_cpy f_p1 f_t_shrunk (0 : Int32).toNatClampNeg (0 : Int32).toNatClampNeg (if (286 : Int32) < (if (nI n_p2) < (nI n_p1) then (nI n_p2) else (nI n_p1)) then (286 : Int32) else (if (nI n_p2) < (nI n_p1) then (nI n_p2) else (nI n_p1))).toNatClampNeg))), (h_t_weights, .inl (cI, 572, .inl f_t_weights)), (h_t_leafSymbols, .inl (cI, 286, .inl f_t_leafSymbols))]) [0, 3, 4, 5] (by decide) rfl
  have hFc := va_free (wc := [(h_t, .inr (8, [.ref h_t_weights, .ref h_t_parents, .ref h_t_depths, .ref h_t_leafSymbols, .ref h_t_shrunk, .int v_t_leaves, .int v_t_made, .int v_t_nextLeaf, .int v_t_nextJoined])), (h_t_shrunk, .inl (cI, 286, .inl (va_cpy f_p1 f_t_shrunk (0 : Int32).toNatClampNeg (0 : Int32).toNatClampNeg (if (286 : Int32) < (if (nI n_p2) < (nI n_p1) then (nI n_p2) else (nI n_p1)) then (286 : Int32) else (if (nI n_p2) < (nI n_p1) then (nI n_p2) else (nI n_p1))).toNatClampNeg))), (h_t_weights, .inl (cI, 572, .inl f_t_weights)), (h_t_leafSymbols, .inl (cI, 286, .inl f_t_leafSymbols))]) hD hS hA [0, 3, 4, 5] rfl
  refine va_callv (va_runV (As := [.int (if (286 : Int32) < (if (nI n_p2) < (nI n_p1) then (nI n_p2) else (nI n_p1)) then (286 : Int32) else (if (nI n_p2) < (nI n_p1) then (nI n_p2) else (nI n_p1)))]) (rest := []) ⟨hx, hb, hml, hown, ht⟩ (cTrees_sortLeaves l dC dI h_t h_t_weights h_t_parents h_t_depths h_t_leafSymbols h_t_shrunk cB cI cJ _ N (if (286 : Int32) < (if (nI n_p2) < (nI n_p1) then (nI n_p2) else (nI n_p1)) then (286 : Int32) else (if (nI n_p2) < (nI n_p1) then (nI n_p2) else (nI n_p1))) v_t_leaves v_t_made v_t_nextLeaf v_t_nextJoined (va_cpy f_p1 f_t_shrunk (0 : Int32).toNatClampNeg (0 : Int32).toNatClampNeg (if (286 : Int32) < (if (nI n_p2) < (nI n_p1) then (nI n_p2) else (nI n_p1)) then (286 : Int32) else (if (nI n_p2) < (nI n_p1) then (nI n_p2) else (nI n_p1))).toNatClampNeg) f_t_weights f_t_leafSymbols y6 hy6) (⟨callB_of 1 ht (gTB (k_515)) rfl rfl rfl (ht _ k_68) (ht _ k_512) (by decide +kernel) ⟨Nat.le_of_ble_eq_true rfl, Nat.le_of_ble_eq_true rfl⟩, ht _ k_514, ht _ k_7⟩) ⟨fun a U g mk q => by obtain ⟨q0, q1, qP, qK, qD, qN⟩ := q; exact ⟨q0, q1, qP, va_K.moved (u := U) (U := U.calling g mk a) (Vm.Alike.refl U.vm) qK, qD, NW_same (u := U) rfl qN⟩, va_recv hK hPc (ci := 8) (q0 := 0) rfl rfl, fun U hU hW => ⟨rfl, by rw [hU], by rw [hU]; exact hPc, va_K.moved hW.alike hK, hDc.weaken (fun _ _ _ _ => trivial), NW_warm hW hN⟩⟩ rfl rfl hl.1 rfl (lv_room (Nat.le_of_ble_eq_true rfl)) d_Trees_findLengths_30 ⟨Nat.le_of_ble_eq_true rfl, Nat.le_of_ble_eq_true rfl⟩) hS (fun q _ h => hFc q h) hFc (fun u t H1 locs htH hvm hw hB hz1 hk1 hS => ?_)
  obtain ⟨hP1, hK1, hD1⟩ := hB
  rw [htH] at hP1
  obtain ⟨hP, hD⟩ := va_join (wr := [(h_p1, .inl (cI, n_p1, .inl f_p1)), (h_p2, .inl (cI, n_p2, .inl f_p2)), (h_t_parents, .inl (cI, 572, .inl f_t_parents)), (h_t_depths, .inl (cI, 572, .inl f_t_depths))]) (w1 := [(h_t, .inr (8, [.ref h_t_weights, .ref h_t_parents, .ref h_t_depths, .ref h_t_leafSymbols, .ref h_t_shrunk, .int y6.1, .int v_t_made, .int v_t_nextLeaf, .int v_t_nextJoined])), (h_t_shrunk, .inl (cI, 286, .inl (va_cpy f_p1 f_t_shrunk (0 : Int32).toNatClampNeg (0 : Int32).toNatClampNeg (if (286 : Int32) < (if (nI n_p2) < (nI n_p1) then (nI n_p2) else (nI n_p1)) then (286 : Int32) else (if (nI n_p2) < (nI n_p1) then (nI n_p2) else (nI n_p1))).toNatClampNeg))), (h_t_weights, .inl (cI, 572, .inl y6.2.1)), (h_t_leafSymbols, .inl (cI, 286, .inl y6.2.2))]) hP hD [0, 3, 4, 5] [1, 2, 6, 7] rfl rfl (by decide) (by decide) hk1 hFc hP1 hD1
  generalize H1 = H at hP hS ⊢
  have hP : va_P (dC, dI) vwCl [(h_t, .inr (8, [.ref h_t_weights, .ref h_t_parents, .ref h_t_depths, .ref h_t_leafSymbols, .ref h_t_shrunk, .int y6.1, .int v_t_made, .int v_t_nextLeaf, .int v_t_nextJoined])), (h_p1, .inl (cI, n_p1, .inl f_p1)), (h_p2, .inl (cI, n_p2, .inl f_p2)), (h_t_shrunk, .inl (cI, 286, .inl (va_cpy f_p1 f_t_shrunk (0 : Int32).toNatClampNeg (0 : Int32).toNatClampNeg (if (286 : Int32) < (if (nI n_p2) < (nI n_p1) then (nI n_p2) else (nI n_p1)) then (286 : Int32) else (if (nI n_p2) < (nI n_p1) then (nI n_p2) else (nI n_p1))).toNatClampNeg))), (h_t_weights, .inl (cI, 572, .inl y6.2.1)), (h_t_leafSymbols, .inl (cI, 286, .inl y6.2.2)), (h_t_parents, .inl (cI, 572, .inl f_t_parents)), (h_t_depths, .inl (cI, 572, .inl f_t_depths))] H := hP.sub [4, 0, 1, 5, 6, 7, 2, 3] rfl
  have hD : va_D A [(h_t, .inr (8, [.ref h_t_weights, .ref h_t_parents, .ref h_t_depths, .ref h_t_leafSymbols, .ref h_t_shrunk, .int y6.1, .int v_t_made, .int v_t_nextLeaf, .int v_t_nextJoined])), (h_p1, .inl (cI, n_p1, .inl f_p1)), (h_p2, .inl (cI, n_p2, .inl f_p2)), (h_t_shrunk, .inl (cI, 286, .inl (va_cpy f_p1 f_t_shrunk (0 : Int32).toNatClampNeg (0 : Int32).toNatClampNeg (if (286 : Int32) < (if (nI n_p2) < (nI n_p1) then (nI n_p2) else (nI n_p1)) then (286 : Int32) else (if (nI n_p2) < (nI n_p1) then (nI n_p2) else (nI n_p1))).toNatClampNeg))), (h_t_weights, .inl (cI, 572, .inl y6.2.1)), (h_t_leafSymbols, .inl (cI, 286, .inl y6.2.2)), (h_t_parents, .inl (cI, 572, .inl f_t_parents)), (h_t_depths, .inl (cI, 572, .inl f_t_depths))] := hD.sub [4, 0, 1, 5, 6, 7, 2, 3] (by decide) rfl
  refine lv_aload_n hx hb d_Trees_findLengths_33 rfl (lv_at hl 1 rfl) ?_
  obtain ⟨y7, hy7, h⟩ := bd h
  have hPc := hP.sub (ws' := [(h_t, .inr (8, [.ref h_t_weights, .ref h_t_parents, .ref h_t_depths, .ref h_t_leafSymbols, .ref h_t_shrunk, .int y6.1, .int v_t_made, .int v_t_nextLeaf, .int v_t_nextJoined])), (h_t_weights, .inl (cI, 572, .inl y6.2.1)), (h_t_parents, .inl (cI, 572, .inl f_t_parents)), (h_t_depths, .inl (cI, 572, .inl f_t_depths))]) [0, 4, 6, 7] rfl
  have hDc := hD.sub (ws' := [(h_t, .inr (8, [.ref h_t_weights, .ref h_t_parents, .ref h_t_depths, .ref h_t_leafSymbols, .ref h_t_shrunk, .int y6.1, .int v_t_made, .int v_t_nextLeaf, .int v_t_nextJoined])), (h_t_weights, .inl (cI, 572, .inl y6.2.1)), (h_t_parents, .inl (cI, 572, .inl f_t_parents)), (h_t_depths, .inl (cI, 572, .inl f_t_depths))]) [0, 4, 6, 7] (by decide) rfl
  have hFc := va_free (wc := [(h_t, .inr (8, [.ref h_t_weights, .ref h_t_parents, .ref h_t_depths, .ref h_t_leafSymbols, .ref h_t_shrunk, .int y6.1, .int v_t_made, .int v_t_nextLeaf, .int v_t_nextJoined])), (h_t_weights, .inl (cI, 572, .inl y6.2.1)), (h_t_parents, .inl (cI, 572, .inl f_t_parents)), (h_t_depths, .inl (cI, 572, .inl f_t_depths))]) hD hS hA [0, 4, 6, 7] rfl
  refine va_callv (va_runV (As := []) (rest := []) ⟨hx, hb, hml, hown, ht⟩ (cTrees_joinAll l dC dI h_t h_t_weights h_t_parents h_t_depths h_t_leafSymbols h_t_shrunk cB cI cJ _ N y6.1 v_t_made v_t_nextLeaf v_t_nextJoined y6.2.1 f_t_parents f_t_depths y7 hy7) (⟨callB_of 0 ht (gTB (k_523)) rfl rfl rfl (ht _ k_68) (ht _ k_520) (by decide +kernel) ⟨Nat.le_of_ble_eq_true rfl, Nat.le_of_ble_eq_true rfl⟩, ht _ k_522, ht _ k_9⟩) ⟨fun a U g mk q => by obtain ⟨q0, q1, qP, qK, qD, qN⟩ := q; exact ⟨q0, q1, qP, va_K.moved (u := U) (U := U.calling g mk a) (Vm.Alike.refl U.vm) qK, qD, NW_same (u := U) rfl qN⟩, va_recv hK hPc (ci := 8) (q0 := 0) rfl rfl, fun U hU hW => ⟨rfl, by rw [hU], by rw [hU]; exact hPc, va_K.moved hW.alike hK, hDc.weaken (fun _ _ _ _ => trivial), NW_warm hW hN⟩⟩ rfl rfl hl.1 rfl (lv_room (Nat.le_of_ble_eq_true rfl)) d_Trees_findLengths_34 ⟨Nat.le_of_ble_eq_true rfl, Nat.le_of_ble_eq_true rfl⟩) hS (fun q _ h => hFc q h) hFc (fun u t H1 locs htH hvm hw hB hz1 hk1 hS => ?_)
  obtain ⟨hP1, hK1, hD1⟩ := hB
  rw [htH] at hP1
  obtain ⟨hP, hD⟩ := va_join (wr := [(h_p1, .inl (cI, n_p1, .inl f_p1)), (h_p2, .inl (cI, n_p2, .inl f_p2)), (h_t_shrunk, .inl (cI, 286, .inl (va_cpy f_p1 f_t_shrunk (0 : Int32).toNatClampNeg (0 : Int32).toNatClampNeg (if (286 : Int32) < (if (nI n_p2) < (nI n_p1) then (nI n_p2) else (nI n_p1)) then (286 : Int32) else (if (nI n_p2) < (nI n_p1) then (nI n_p2) else (nI n_p1))).toNatClampNeg))), (h_t_leafSymbols, .inl (cI, 286, .inl y6.2.2))]) (w1 := [(h_t, .inr (8, [.ref h_t_weights, .ref h_t_parents, .ref h_t_depths, .ref h_t_leafSymbols, .ref h_t_shrunk, .int y6.1, .int y7.1, .int y7.2.1, .int y7.2.2.1])), (h_t_weights, .inl (cI, 572, .inl y7.2.2.2.1)), (h_t_parents, .inl (cI, 572, .inl y7.2.2.2.2.1)), (h_t_depths, .inl (cI, 572, .inl y7.2.2.2.2.2))]) hP hD [0, 4, 6, 7] [1, 2, 3, 5] rfl rfl (by decide) (by decide) hk1 hFc hP1 hD1
  generalize H1 = H at hP hS ⊢
  have hP : va_P (dC, dI) vwCl [(h_t, .inr (8, [.ref h_t_weights, .ref h_t_parents, .ref h_t_depths, .ref h_t_leafSymbols, .ref h_t_shrunk, .int y6.1, .int y7.1, .int y7.2.1, .int y7.2.2.1])), (h_p1, .inl (cI, n_p1, .inl f_p1)), (h_p2, .inl (cI, n_p2, .inl f_p2)), (h_t_shrunk, .inl (cI, 286, .inl (va_cpy f_p1 f_t_shrunk (0 : Int32).toNatClampNeg (0 : Int32).toNatClampNeg (if (286 : Int32) < (if (nI n_p2) < (nI n_p1) then (nI n_p2) else (nI n_p1)) then (286 : Int32) else (if (nI n_p2) < (nI n_p1) then (nI n_p2) else (nI n_p1))).toNatClampNeg))), (h_t_weights, .inl (cI, 572, .inl y7.2.2.2.1)), (h_t_leafSymbols, .inl (cI, 286, .inl y6.2.2)), (h_t_parents, .inl (cI, 572, .inl y7.2.2.2.2.1)), (h_t_depths, .inl (cI, 572, .inl y7.2.2.2.2.2))] H := hP.sub [4, 0, 1, 2, 5, 3, 6, 7] rfl
  have hD : va_D A [(h_t, .inr (8, [.ref h_t_weights, .ref h_t_parents, .ref h_t_depths, .ref h_t_leafSymbols, .ref h_t_shrunk, .int y6.1, .int y7.1, .int y7.2.1, .int y7.2.2.1])), (h_p1, .inl (cI, n_p1, .inl f_p1)), (h_p2, .inl (cI, n_p2, .inl f_p2)), (h_t_shrunk, .inl (cI, 286, .inl (va_cpy f_p1 f_t_shrunk (0 : Int32).toNatClampNeg (0 : Int32).toNatClampNeg (if (286 : Int32) < (if (nI n_p2) < (nI n_p1) then (nI n_p2) else (nI n_p1)) then (286 : Int32) else (if (nI n_p2) < (nI n_p1) then (nI n_p2) else (nI n_p1))).toNatClampNeg))), (h_t_weights, .inl (cI, 572, .inl y7.2.2.2.1)), (h_t_leafSymbols, .inl (cI, 286, .inl y6.2.2)), (h_t_parents, .inl (cI, 572, .inl y7.2.2.2.2.1)), (h_t_depths, .inl (cI, 572, .inl y7.2.2.2.2.2))] := hD.sub [4, 0, 1, 2, 5, 3, 6, 7] (by decide) rfl
  refine lv_iconst (v := (0 : Int32)) hx hb d_Trees_findLengths_37 (by decide) ?_
  refine lv_istore (lv' := [(5, .int (0 : Int32)), (4, .int (if (286 : Int32) < (if (nI n_p2) < (nI n_p1) then (nI n_p2) else (nI n_p1)) then (286 : Int32) else (if (nI n_p2) < (nI n_p1) then (nI n_p2) else (nI n_p1)))), (0, .ref h_t), (1, .ref h_p1), (2, .ref h_p2), (3, .int p3)]) hx hb d_Trees_findLengths_38 hl (by decide) rfl (fun ls hl => ?_)
  obtain ⟨y14, hy14, h⟩ := bd h
  refine wTrees_findLengths_40 h_t h_t_weights h_t_parents h_t_depths h_t_leafSymbols h_t_shrunk h_p1 h_p2 cB cI cJ N n_p1 f_p1 n_p2 f_p2 p3 (if (286 : Int32) < (if (nI n_p2) < (nI n_p1) then (nI n_p2) else (nI n_p1)) then (286 : Int32) else (if (nI n_p2) < (nI n_p1) then (nI n_p2) else (nI n_p1))) C N (0 : Int32) y6.1 y7.1 y7.2.1 y7.2.2.1 (va_cpy f_p1 f_t_shrunk (0 : Int32).toNatClampNeg (0 : Int32).toNatClampNeg (if (286 : Int32) < (if (nI n_p2) < (nI n_p1) then (nI n_p2) else (nI n_p1)) then (286 : Int32) else (if (nI n_p2) < (nI n_p1) then (nI n_p2) else (nI n_p1))).toNatClampNeg) y7.2.2.2.1 y6.2.2 y7.2.2.2.2.1 y7.2.2.2.2.2 _ _ _ _ hP hD hS (lv_sub hl [2, 4, 5, 1, 0] rfl) hy14 (fun H locs ls hP hD hS hl => ?_)
  refine lv_aload_n hx hb d_Trees_findLengths_77 rfl (lv_at hl 1 rfl) ?_
  refine lv_iconst (v := (0 : Int32)) hx hb d_Trees_findLengths_78 (by decide) ?_
  obtain ⟨y15, hy15, h⟩ := bd h
  have hPc := hP.sub (ws' := [(h_p2, .inl (cI, n_p2, .inl f_p2))]) [2] rfl
  have hDc := hD.sub (ws' := [(h_p2, .inl (cI, n_p2, .inl f_p2))]) [2] (by decide) rfl
  have hFc := va_free (wc := [(h_p2, .inl (cI, n_p2, .inl f_p2))]) hD hS hA [2] rfl
  refine va_callv (va_runS (As := [.ref h_p2, .int (0 : Int32)]) (rest := []) ⟨hx, hb, hml, hown, ht⟩ (cJA_fill l dC dI h_p2 cB cI cJ _ N (0 : Int32) n_p2 f_p2 y15 hy15) (⟨callB_of 2 ht (gTB (k_226)) rfl rfl rfl (ht _ k_71) (ht _ k_537) (by decide +kernel) ⟨Nat.le_of_ble_eq_true rfl, Nat.le_of_ble_eq_true rfl⟩, ht _ k_225⟩) ⟨fun a U g mk q => by obtain ⟨q0, q1, qP, qK, qD, qN⟩ := q; exact ⟨q0, q1, qP, va_K.moved (u := U) (U := U.calling g mk a) (Vm.Alike.refl U.vm) qK, qD, NW_same (u := U) rfl qN⟩, fun U hU hW => ⟨rfl, by rw [hU], by rw [hU]; exact hPc, va_K.moved hW.alike hK, hDc.weaken (fun _ _ _ _ => trivial), NW_warm hW hN⟩⟩ rfl rfl hl.1 rfl (lv_room (Nat.le_of_ble_eq_true rfl)) d_Trees_findLengths_79 ⟨Nat.le_of_ble_eq_true rfl, Nat.le_of_ble_eq_true rfl⟩) hS (fun q _ h => hFc q h) hFc (fun u t H1 locs htH hvm hw hB hz1 hk1 hS => ?_)
  obtain ⟨hP1, hK1, hD1⟩ := hB
  rw [htH] at hP1
  obtain ⟨hP, hD⟩ := va_join (wr := [(h_t, .inr (8, [.ref h_t_weights, .ref h_t_parents, .ref h_t_depths, .ref h_t_leafSymbols, .ref h_t_shrunk, .int y14.1, .int y14.2.1, .int y14.2.2.1, .int y14.2.2.2.1])), (h_p1, .inl (cI, n_p1, .inl f_p1)), (h_t_shrunk, .inl (cI, 286, .inl y14.2.2.2.2.1)), (h_t_weights, .inl (cI, 572, .inl y14.2.2.2.2.2.1)), (h_t_leafSymbols, .inl (cI, 286, .inl y14.2.2.2.2.2.2.1)), (h_t_parents, .inl (cI, 572, .inl y14.2.2.2.2.2.2.2.1)), (h_t_depths, .inl (cI, 572, .inl y14.2.2.2.2.2.2.2.2))]) (w1 := [(h_p2, .inl (cI, n_p2, .inl y15))]) hP hD [2] [0, 1, 3, 4, 5, 6, 7] rfl rfl (by decide) (by decide) hk1 hFc hP1 hD1
  generalize H1 = H at hP hS ⊢
  have hP : va_P (dC, dI) vwCl [(h_t, .inr (8, [.ref h_t_weights, .ref h_t_parents, .ref h_t_depths, .ref h_t_leafSymbols, .ref h_t_shrunk, .int y14.1, .int y14.2.1, .int y14.2.2.1, .int y14.2.2.2.1])), (h_p1, .inl (cI, n_p1, .inl f_p1)), (h_p2, .inl (cI, n_p2, .inl y15)), (h_t_shrunk, .inl (cI, 286, .inl y14.2.2.2.2.1)), (h_t_weights, .inl (cI, 572, .inl y14.2.2.2.2.2.1)), (h_t_leafSymbols, .inl (cI, 286, .inl y14.2.2.2.2.2.2.1)), (h_t_parents, .inl (cI, 572, .inl y14.2.2.2.2.2.2.2.1)), (h_t_depths, .inl (cI, 572, .inl y14.2.2.2.2.2.2.2.2))] H := hP.sub [0, 1, 7, 2, 3, 4, 5, 6] rfl
  have hD : va_D A [(h_t, .inr (8, [.ref h_t_weights, .ref h_t_parents, .ref h_t_depths, .ref h_t_leafSymbols, .ref h_t_shrunk, .int y14.1, .int y14.2.1, .int y14.2.2.1, .int y14.2.2.2.1])), (h_p1, .inl (cI, n_p1, .inl f_p1)), (h_p2, .inl (cI, n_p2, .inl y15)), (h_t_shrunk, .inl (cI, 286, .inl y14.2.2.2.2.1)), (h_t_weights, .inl (cI, 572, .inl y14.2.2.2.2.2.1)), (h_t_leafSymbols, .inl (cI, 286, .inl y14.2.2.2.2.2.2.1)), (h_t_parents, .inl (cI, 572, .inl y14.2.2.2.2.2.2.2.1)), (h_t_depths, .inl (cI, 572, .inl y14.2.2.2.2.2.2.2.2))] := hD.sub [0, 1, 7, 2, 3, 4, 5, 6] (by decide) rfl
  refine lv_iconst (v := (0 : Int32)) hx hb d_Trees_findLengths_82 (by decide) ?_
  refine lv_istore (lv' := [(5, .int (0 : Int32)), (0, .ref h_t), (2, .ref h_p2)]) hx hb d_Trees_findLengths_83 hl (by decide) rfl (fun ls hl => ?_)
  obtain ⟨y22, hy22, h⟩ := bd h
  refine wTrees_findLengths_85 h_t h_t_weights h_t_parents h_t_depths h_t_leafSymbols h_t_shrunk h_p1 h_p2 cB cI cJ N y14.1 y14.2.1 y14.2.2.1 y14.2.2.2.1 n_p1 f_p1 n_p2 y14.2.2.2.2.1 y14.2.2.2.2.2.1 y14.2.2.2.2.2.2.1 y14.2.2.2.2.2.2.2.1 y14.2.2.2.2.2.2.2.2 C N (0 : Int32) y15 _ _ _ _ hP hD hS (lv_sub hl [1, 2, 0] rfl) hy22 (fun H locs ls hP hD hS hl => ?_)
  obtain rfl := Option.some.inj h
  exact W.vret hx hb hr (fun t ht hW => ⟨⟨(), rfl, trivial, by rw [ht]; exact hP, va_K.moved hW.alike hK, hD⟩, hS.F ht⟩) hS.2.2 d_Trees_findLengths_128
