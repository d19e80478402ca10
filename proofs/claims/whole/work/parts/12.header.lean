theorem d_Header_countUsed_0 : decode b_Header_countUsed 0 = .ok (.aload_n 0, 1) := by decide +kernel
theorem d_Header_countUsed_1 : decode b_Header_countUsed 1 = .ok (.arraylength, 1) := by decide +kernel
theorem d_Header_countUsed_2 : decode b_Header_countUsed 2 = .ok (.istore_n 2, 1) := by decide +kernel
theorem d_Header_countUsed_3 : decode b_Header_countUsed 3 = .ok (.iload_n 2, 1) := by decide +kernel
theorem d_Header_countUsed_4 : decode b_Header_countUsed 4 = .ok (.iload_n 1, 1) := by decide +kernel
theorem d_Header_countUsed_5 : decode b_Header_countUsed 5 = .ok (.if_icmp .le 17, 3) := by decide +kernel
theorem d_Header_countUsed_8 : decode b_Header_countUsed 8 = .ok (.aload_n 0, 1) := by decide +kernel
theorem d_Header_countUsed_9 : decode b_Header_countUsed 9 = .ok (.iload_n 2, 1) := by decide +kernel
theorem d_Header_countUsed_10 : decode b_Header_countUsed 10 = .ok (.iconst 1, 1) := by decide +kernel
theorem d_Header_countUsed_11 : decode b_Header_countUsed 11 = .ok (.isub, 1) := by decide +kernel
theorem d_Header_countUsed_12 : decode b_Header_countUsed 12 = .ok (.iaload, 1) := by decide +kernel
theorem d_Header_countUsed_13 : decode b_Header_countUsed 13 = .ok (.ifCond .ne 9, 3) := by decide +kernel
theorem d_Header_countUsed_16 : decode b_Header_countUsed 16 = .ok (.iinc 2 (-1), 3) := by decide +kernel
theorem d_Header_countUsed_19 : decode b_Header_countUsed 19 = .ok (.goto (-16), 3) := by decide +kernel
theorem d_Header_countUsed_22 : decode b_Header_countUsed 22 = .ok (.iload_n 2, 1) := by decide +kernel
theorem d_Header_countUsed_23 : decode b_Header_countUsed 23 = .ok (.ireturn, 1) := by decide +kernel
theorem d_Header_run_0 : decode b_Header_run 0 = .ok (.iload_n 2, 1) := by decide +kernel
theorem d_Header_run_1 : decode b_Header_run 1 = .ok (.istore 4, 2) := by decide +kernel
theorem d_Header_run_3 : decode b_Header_run 3 = .ok (.iload 4, 2) := by decide +kernel
theorem d_Header_run_5 : decode b_Header_run 5 = .ok (.iload_n 3, 1) := by decide +kernel
theorem d_Header_run_6 : decode b_Header_run 6 = .ok (.if_icmp .ge 20, 3) := by decide +kernel
theorem d_Header_run_9 : decode b_Header_run 9 = .ok (.aload_n 0, 1) := by decide +kernel
theorem d_Header_run_10 : decode b_Header_run 10 = .ok (.getfield 24, 3) := by decide +kernel
theorem d_Header_run_13 : decode b_Header_run 13 = .ok (.iload 4, 2) := by decide +kernel
theorem d_Header_run_15 : decode b_Header_run 15 = .ok (.iaload, 1) := by decide +kernel
theorem d_Header_run_16 : decode b_Header_run 16 = .ok (.iload_n 1, 1) := by decide +kernel
theorem d_Header_run_17 : decode b_Header_run 17 = .ok (.if_icmp .ne 9, 3) := by decide +kernel
theorem d_Header_run_20 : decode b_Header_run 20 = .ok (.iinc 4 1, 3) := by decide +kernel
theorem d_Header_run_23 : decode b_Header_run 23 = .ok (.goto (-20), 3) := by decide +kernel
theorem d_Header_run_26 : decode b_Header_run 26 = .ok (.iload 4, 2) := by decide +kernel
theorem d_Header_run_28 : decode b_Header_run 28 = .ok (.iload_n 2, 1) := by decide +kernel
theorem d_Header_run_29 : decode b_Header_run 29 = .ok (.isub, 1) := by decide +kernel
theorem d_Header_run_30 : decode b_Header_run 30 = .ok (.ireturn, 1) := by decide +kernel
theorem d_Header_addItem_0 : decode b_Header_addItem 0 = .ok (.aload_n 0, 1) := by decide +kernel
theorem d_Header_addItem_1 : decode b_Header_addItem 1 = .ok (.getfield 27, 3) := by decide +kernel
theorem d_Header_addItem_4 : decode b_Header_addItem 4 = .ok (.aload_n 0, 1) := by decide +kernel
theorem d_Header_addItem_5 : decode b_Header_addItem 5 = .ok (.getfield 30, 3) := by decide +kernel
theorem d_Header_addItem_8 : decode b_Header_addItem 8 = .ok (.iload_n 2, 1) := by decide +kernel
theorem d_Header_addItem_9 : decode b_Header_addItem 9 = .ok (.iconst 5, 1) := by decide +kernel
theorem d_Header_addItem_10 : decode b_Header_addItem 10 = .ok (.ishl, 1) := by decide +kernel
theorem d_Header_addItem_11 : decode b_Header_addItem 11 = .ok (.iload_n 1, 1) := by decide +kernel
theorem d_Header_addItem_12 : decode b_Header_addItem 12 = .ok (.ior, 1) := by decide +kernel
theorem d_Header_addItem_13 : decode b_Header_addItem 13 = .ok (.iastore, 1) := by decide +kernel
theorem d_Header_addItem_14 : decode b_Header_addItem 14 = .ok (.aload_n 0, 1) := by decide +kernel
theorem d_Header_addItem_15 : decode b_Header_addItem 15 = .ok (.dup, 1) := by decide +kernel
theorem d_Header_addItem_16 : decode b_Header_addItem 16 = .ok (.getfield 30, 3) := by decide +kernel
theorem d_Header_addItem_19 : decode b_Header_addItem 19 = .ok (.iconst 1, 1) := by decide +kernel
theorem d_Header_addItem_20 : decode b_Header_addItem 20 = .ok (.iadd, 1) := by decide +kernel
theorem d_Header_addItem_21 : decode b_Header_addItem 21 = .ok (.putfield 30, 3) := by decide +kernel
theorem d_Header_addItem_24 : decode b_Header_addItem 24 = .ok (.aload_n 0, 1) := by decide +kernel
theorem d_Header_addItem_25 : decode b_Header_addItem 25 = .ok (.getfield 20, 3) := by decide +kernel
theorem d_Header_addItem_28 : decode b_Header_addItem 28 = .ok (.iload_n 1, 1) := by decide +kernel
theorem d_Header_addItem_29 : decode b_Header_addItem 29 = .ok (.dup2, 1) := by decide +kernel
theorem d_Header_addItem_30 : decode b_Header_addItem 30 = .ok (.iaload, 1) := by decide +kernel
theorem d_Header_addItem_31 : decode b_Header_addItem 31 = .ok (.iconst 1, 1) := by decide +kernel
theorem d_Header_addItem_32 : decode b_Header_addItem 32 = .ok (.iadd, 1) := by decide +kernel
theorem d_Header_addItem_33 : decode b_Header_addItem 33 = .ok (.iastore, 1) := by decide +kernel
theorem d_Header_addItem_34 : decode b_Header_addItem 34 = .ok (.return_, 1) := by decide +kernel
theorem d_Header_listItems_0 : decode b_Header_listItems 0 = .ok (.aload_n 0, 1) := by decide +kernel
theorem d_Header_listItems_1 : decode b_Header_listItems 1 = .ok (.getfield 20, 3) := by decide +kernel
theorem d_Header_listItems_4 : decode b_Header_listItems 4 = .ok (.iconst 0, 1) := by decide +kernel
theorem d_Header_listItems_5 : decode b_Header_listItems 5 = .ok (.invokestatic 70, 3) := by decide +kernel
theorem d_Header_listItems_8 : decode b_Header_listItems 8 = .ok (.aload_n 0, 1) := by decide +kernel
theorem d_Header_listItems_9 : decode b_Header_listItems 9 = .ok (.iconst 0, 1) := by decide +kernel
theorem d_Header_listItems_10 : decode b_Header_listItems 10 = .ok (.putfield 30, 3) := by decide +kernel
theorem d_Header_listItems_13 : decode b_Header_listItems 13 = .ok (.iconst 0, 1) := by decide +kernel
theorem d_Header_listItems_14 : decode b_Header_listItems 14 = .ok (.istore_n 2, 1) := by decide +kernel
theorem d_Header_listItems_15 : decode b_Header_listItems 15 = .ok (.iload_n 2, 1) := by decide +kernel
theorem d_Header_listItems_16 : decode b_Header_listItems 16 = .ok (.iload_n 1, 1) := by decide +kernel
theorem d_Header_listItems_17 : decode b_Header_listItems 17 = .ok (.if_icmp .ge 135, 3) := by decide +kernel
theorem d_Header_listItems_20 : decode b_Header_listItems 20 = .ok (.aload_n 0, 1) := by decide +kernel
theorem d_Header_listItems_21 : decode b_Header_listItems 21 = .ok (.iconst 0, 1) := by decide +kernel
theorem d_Header_listItems_22 : decode b_Header_listItems 22 = .ok (.iload_n 2, 1) := by decide +kernel
theorem d_Header_listItems_23 : decode b_Header_listItems 23 = .ok (.iload_n 1, 1) := by decide +kernel
theorem d_Header_listItems_24 : decode b_Header_listItems 24 = .ok (.iload_n 2, 1) := by decide +kernel
theorem d_Header_listItems_25 : decode b_Header_listItems 25 = .ok (.sipush 138, 3) := by decide +kernel
theorem d_Header_listItems_28 : decode b_Header_listItems 28 = .ok (.iadd, 1) := by decide +kernel
theorem d_Header_listItems_29 : decode b_Header_listItems 29 = .ok (.invokestatic 76, 3) := by decide +kernel
theorem d_Header_listItems_32 : decode b_Header_listItems 32 = .ok (.invokevirtual 82, 3) := by decide +kernel
theorem d_Header_listItems_35 : decode b_Header_listItems 35 = .ok (.istore_n 3, 1) := by decide +kernel
theorem d_Header_listItems_36 : decode b_Header_listItems 36 = .ok (.iload_n 2, 1) := by decide +kernel
theorem d_Header_listItems_37 : decode b_Header_listItems 37 = .ok (.ifCond .le 27, 3) := by decide +kernel
theorem d_Header_listItems_40 : decode b_Header_listItems 40 = .ok (.aload_n 0, 1) := by decide +kernel
theorem d_Header_listItems_41 : decode b_Header_listItems 41 = .ok (.aload_n 0, 1) := by decide +kernel
theorem d_Header_listItems_42 : decode b_Header_listItems 42 = .ok (.getfield 24, 3) := by decide +kernel
theorem d_Header_listItems_45 : decode b_Header_listItems 45 = .ok (.iload_n 2, 1) := by decide +kernel
theorem d_Header_listItems_46 : decode b_Header_listItems 46 = .ok (.iconst 1, 1) := by decide +kernel
theorem d_Header_listItems_47 : decode b_Header_listItems 47 = .ok (.isub, 1) := by decide +kernel
theorem d_Header_listItems_48 : decode b_Header_listItems 48 = .ok (.iaload, 1) := by decide +kernel
theorem d_Header_listItems_49 : decode b_Header_listItems 49 = .ok (.iload_n 2, 1) := by decide +kernel
theorem d_Header_listItems_50 : decode b_Header_listItems 50 = .ok (.iload_n 1, 1) := by decide +kernel
theorem d_Header_listItems_51 : decode b_Header_listItems 51 = .ok (.iload_n 2, 1) := by decide +kernel
theorem d_Header_listItems_52 : decode b_Header_listItems 52 = .ok (.bipush 6, 2) := by decide +kernel
theorem d_Header_listItems_54 : decode b_Header_listItems 54 = .ok (.iadd, 1) := by decide +kernel
theorem d_Header_listItems_55 : decode b_Header_listItems 55 = .ok (.invokestatic 76, 3) := by decide +kernel
theorem d_Header_listItems_58 : decode b_Header_listItems 58 = .ok (.invokevirtual 82, 3) := by decide +kernel
theorem d_Header_listItems_61 : decode b_Header_listItems 61 = .ok (.goto 4, 3) := by decide +kernel
theorem d_Header_listItems_64 : decode b_Header_listItems 64 = .ok (.iconst 0, 1) := by decide +kernel
theorem d_Header_listItems_65 : decode b_Header_listItems 65 = .ok (.istore 4, 2) := by decide +kernel
theorem d_Header_listItems_67 : decode b_Header_listItems 67 = .ok (.iload_n 3, 1) := by decide +kernel
theorem d_Header_listItems_68 : decode b_Header_listItems 68 = .ok (.bipush 11, 2) := by decide +kernel
theorem d_Header_listItems_70 : decode b_Header_listItems 70 = .ok (.if_icmp .lt 20, 3) := by decide +kernel
theorem d_Header_listItems_73 : decode b_Header_listItems 73 = .ok (.aload_n 0, 1) := by decide +kernel
theorem d_Header_listItems_74 : decode b_Header_listItems 74 = .ok (.bipush 18, 2) := by decide +kernel
theorem d_Header_listItems_76 : decode b_Header_listItems 76 = .ok (.iload_n 3, 1) := by decide +kernel
theorem d_Header_listItems_77 : decode b_Header_listItems 77 = .ok (.bipush 11, 2) := by decide +kernel
theorem d_Header_listItems_79 : decode b_Header_listItems 79 = .ok (.isub, 1) := by decide +kernel
theorem d_Header_listItems_80 : decode b_Header_listItems 80 = .ok (.invokevirtual 86, 3) := by decide +kernel
theorem d_Header_listItems_83 : decode b_Header_listItems 83 = .ok (.iload_n 2, 1) := by decide +kernel
theorem d_Header_listItems_84 : decode b_Header_listItems 84 = .ok (.iload_n 3, 1) := by decide +kernel
theorem d_Header_listItems_85 : decode b_Header_listItems 85 = .ok (.iadd, 1) := by decide +kernel
theorem d_Header_listItems_86 : decode b_Header_listItems 86 = .ok (.istore_n 2, 1) := by decide +kernel
theorem d_Header_listItems_87 : decode b_Header_listItems 87 = .ok (.goto 62, 3) := by decide +kernel
theorem d_Header_listItems_90 : decode b_Header_listItems 90 = .ok (.iload_n 3, 1) := by decide +kernel
theorem d_Header_listItems_91 : decode b_Header_listItems 91 = .ok (.iconst 3, 1) := by decide +kernel
theorem d_Header_listItems_92 : decode b_Header_listItems 92 = .ok (.if_icmp .lt 19, 3) := by decide +kernel
theorem d_Header_listItems_95 : decode b_Header_listItems 95 = .ok (.aload_n 0, 1) := by decide +kernel
theorem d_Header_listItems_96 : decode b_Header_listItems 96 = .ok (.bipush 17, 2) := by decide +kernel
theorem d_Header_listItems_98 : decode b_Header_listItems 98 = .ok (.iload_n 3, 1) := by decide +kernel
theorem d_Header_listItems_99 : decode b_Header_listItems 99 = .ok (.iconst 3, 1) := by decide +kernel
theorem d_Header_listItems_100 : decode b_Header_listItems 100 = .ok (.isub, 1) := by decide +kernel
theorem d_Header_listItems_101 : decode b_Header_listItems 101 = .ok (.invokevirtual 86, 3) := by decide +kernel
theorem d_Header_listItems_104 : decode b_Header_listItems 104 = .ok (.iload_n 2, 1) := by decide +kernel
theorem d_Header_listItems_105 : decode b_Header_listItems 105 = .ok (.iload_n 3, 1) := by decide +kernel
theorem d_Header_listItems_106 : decode b_Header_listItems 106 = .ok (.iadd, 1) := by decide +kernel
theorem d_Header_listItems_107 : decode b_Header_listItems 107 = .ok (.istore_n 2, 1) := by decide +kernel
theorem d_Header_listItems_108 : decode b_Header_listItems 108 = .ok (.goto 41, 3) := by decide +kernel
theorem d_Header_listItems_111 : decode b_Header_listItems 111 = .ok (.iload 4, 2) := by decide +kernel
theorem d_Header_listItems_113 : decode b_Header_listItems 113 = .ok (.iconst 3, 1) := by decide +kernel
theorem d_Header_listItems_114 : decode b_Header_listItems 114 = .ok (.if_icmp .lt 21, 3) := by decide +kernel
theorem d_Header_listItems_117 : decode b_Header_listItems 117 = .ok (.aload_n 0, 1) := by decide +kernel
theorem d_Header_listItems_118 : decode b_Header_listItems 118 = .ok (.bipush 16, 2) := by decide +kernel
theorem d_Header_listItems_120 : decode b_Header_listItems 120 = .ok (.iload 4, 2) := by decide +kernel
theorem d_Header_listItems_122 : decode b_Header_listItems 122 = .ok (.iconst 3, 1) := by decide +kernel
theorem d_Header_listItems_123 : decode b_Header_listItems 123 = .ok (.isub, 1) := by decide +kernel
theorem d_Header_listItems_124 : decode b_Header_listItems 124 = .ok (.invokevirtual 86, 3) := by decide +kernel
theorem d_Header_listItems_127 : decode b_Header_listItems 127 = .ok (.iload_n 2, 1) := by decide +kernel
theorem d_Header_listItems_128 : decode b_Header_listItems 128 = .ok (.iload 4, 2) := by decide +kernel
theorem d_Header_listItems_130 : decode b_Header_listItems 130 = .ok (.iadd, 1) := by decide +kernel
theorem d_Header_listItems_131 : decode b_Header_listItems 131 = .ok (.istore_n 2, 1) := by decide +kernel
theorem d_Header_listItems_132 : decode b_Header_listItems 132 = .ok (.goto 17, 3) := by decide +kernel
theorem d_Header_listItems_135 : decode b_Header_listItems 135 = .ok (.aload_n 0, 1) := by decide +kernel
theorem d_Header_listItems_136 : decode b_Header_listItems 136 = .ok (.aload_n 0, 1) := by decide +kernel
theorem d_Header_listItems_137 : decode b_Header_listItems 137 = .ok (.getfield 24, 3) := by decide +kernel
theorem d_Header_listItems_140 : decode b_Header_listItems 140 = .ok (.iload_n 2, 1) := by decide +kernel
theorem d_Header_listItems_141 : decode b_Header_listItems 141 = .ok (.iaload, 1) := by decide +kernel
theorem d_Header_listItems_142 : decode b_Header_listItems 142 = .ok (.iconst 0, 1) := by decide +kernel
theorem d_Header_listItems_143 : decode b_Header_listItems 143 = .ok (.invokevirtual 86, 3) := by decide +kernel
theorem d_Header_listItems_146 : decode b_Header_listItems 146 = .ok (.iinc 2 1, 3) := by decide +kernel
theorem d_Header_listItems_149 : decode b_Header_listItems 149 = .ok (.goto (-134), 3) := by decide +kernel
theorem d_Header_listItems_152 : decode b_Header_listItems 152 = .ok (.return_, 1) := by decide +kernel
theorem d_Header_prepare_0 : decode b_Header_prepare 0 = .ok (.aload_n 0, 1) := by decide +kernel
theorem d_Header_prepare_1 : decode b_Header_prepare 1 = .ok (.aload_n 1, 1) := by decide +kernel
theorem d_Header_prepare_2 : decode b_Header_prepare 2 = .ok (.getfield 43, 3) := by decide +kernel
theorem d_Header_prepare_5 : decode b_Header_prepare 5 = .ok (.sipush 257, 3) := by decide +kernel
theorem d_Header_prepare_8 : decode b_Header_prepare 8 = .ok (.invokestatic 44, 3) := by decide +kernel
theorem d_Header_prepare_11 : decode b_Header_prepare 11 = .ok (.putfield 34, 3) := by decide +kernel
theorem d_Header_prepare_14 : decode b_Header_prepare 14 = .ok (.aload_n 0, 1) := by decide +kernel
theorem d_Header_prepare_15 : decode b_Header_prepare 15 = .ok (.aload_n 2, 1) := by decide +kernel
theorem d_Header_prepare_16 : decode b_Header_prepare 16 = .ok (.getfield 43, 3) := by decide +kernel
theorem d_Header_prepare_19 : decode b_Header_prepare 19 = .ok (.iconst 1, 1) := by decide +kernel
theorem d_Header_prepare_20 : decode b_Header_prepare 20 = .ok (.invokestatic 44, 3) := by decide +kernel
theorem d_Header_prepare_23 : decode b_Header_prepare 23 = .ok (.putfield 37, 3) := by decide +kernel
theorem d_Header_prepare_26 : decode b_Header_prepare 26 = .ok (.aload_n 1, 1) := by decide +kernel
theorem d_Header_prepare_27 : decode b_Header_prepare 27 = .ok (.getfield 43, 3) := by decide +kernel
theorem d_Header_prepare_30 : decode b_Header_prepare 30 = .ok (.iconst 0, 1) := by decide +kernel
theorem d_Header_prepare_31 : decode b_Header_prepare 31 = .ok (.aload_n 0, 1) := by decide +kernel
theorem d_Header_prepare_32 : decode b_Header_prepare 32 = .ok (.getfield 24, 3) := by decide +kernel
theorem d_Header_prepare_35 : decode b_Header_prepare 35 = .ok (.iconst 0, 1) := by decide +kernel
theorem d_Header_prepare_36 : decode b_Header_prepare 36 = .ok (.aload_n 0, 1) := by decide +kernel
theorem d_Header_prepare_37 : decode b_Header_prepare 37 = .ok (.getfield 34, 3) := by decide +kernel
theorem d_Header_prepare_40 : decode b_Header_prepare 40 = .ok (.invokestatic 48, 3) := by decide +kernel
theorem d_Header_prepare_43 : decode b_Header_prepare 43 = .ok (.aload_n 2, 1) := by decide +kernel
theorem d_Header_prepare_44 : decode b_Header_prepare 44 = .ok (.getfield 43, 3) := by decide +kernel
theorem d_Header_prepare_47 : decode b_Header_prepare 47 = .ok (.iconst 0, 1) := by decide +kernel
theorem d_Header_prepare_48 : decode b_Header_prepare 48 = .ok (.aload_n 0, 1) := by decide +kernel
theorem d_Header_prepare_49 : decode b_Header_prepare 49 = .ok (.getfield 24, 3) := by decide +kernel
theorem d_Header_prepare_52 : decode b_Header_prepare 52 = .ok (.aload_n 0, 1) := by decide +kernel
theorem d_Header_prepare_53 : decode b_Header_prepare 53 = .ok (.getfield 34, 3) := by decide +kernel
theorem d_Header_prepare_56 : decode b_Header_prepare 56 = .ok (.aload_n 0, 1) := by decide +kernel
theorem d_Header_prepare_57 : decode b_Header_prepare 57 = .ok (.getfield 37, 3) := by decide +kernel
theorem d_Header_prepare_60 : decode b_Header_prepare 60 = .ok (.invokestatic 48, 3) := by decide +kernel
theorem d_Header_prepare_63 : decode b_Header_prepare 63 = .ok (.aload_n 0, 1) := by decide +kernel
theorem d_Header_prepare_64 : decode b_Header_prepare 64 = .ok (.aload_n 0, 1) := by decide +kernel
theorem d_Header_prepare_65 : decode b_Header_prepare 65 = .ok (.getfield 34, 3) := by decide +kernel
theorem d_Header_prepare_68 : decode b_Header_prepare 68 = .ok (.aload_n 0, 1) := by decide +kernel
theorem d_Header_prepare_69 : decode b_Header_prepare 69 = .ok (.getfield 37, 3) := by decide +kernel
theorem d_Header_prepare_72 : decode b_Header_prepare 72 = .ok (.iadd, 1) := by decide +kernel
theorem d_Header_prepare_73 : decode b_Header_prepare 73 = .ok (.invokevirtual 54, 3) := by decide +kernel
theorem d_Header_prepare_76 : decode b_Header_prepare 76 = .ok (.aload_n 3, 1) := by decide +kernel
theorem d_Header_prepare_77 : decode b_Header_prepare 77 = .ok (.aload_n 0, 1) := by decide +kernel
theorem d_Header_prepare_78 : decode b_Header_prepare 78 = .ok (.getfield 20, 3) := by decide +kernel
theorem d_Header_prepare_81 : decode b_Header_prepare 81 = .ok (.aload_n 0, 1) := by decide +kernel
theorem d_Header_prepare_82 : decode b_Header_prepare 82 = .ok (.getfield 14, 3) := by decide +kernel
theorem d_Header_prepare_85 : decode b_Header_prepare 85 = .ok (.getfield 43, 3) := by decide +kernel
theorem d_Header_prepare_88 : decode b_Header_prepare 88 = .ok (.bipush 7, 2) := by decide +kernel
theorem d_Header_prepare_90 : decode b_Header_prepare 90 = .ok (.invokevirtual 58, 3) := by decide +kernel
theorem d_Header_prepare_93 : decode b_Header_prepare 93 = .ok (.aload_n 0, 1) := by decide +kernel
theorem d_Header_prepare_94 : decode b_Header_prepare 94 = .ok (.getfield 14, 3) := by decide +kernel
theorem d_Header_prepare_97 : decode b_Header_prepare 97 = .ok (.invokevirtual 64, 3) := by decide +kernel
theorem d_Header_prepare_100 : decode b_Header_prepare 100 = .ok (.aload_n 0, 1) := by decide +kernel
theorem d_Header_prepare_101 : decode b_Header_prepare 101 = .ok (.bipush 19, 2) := by decide +kernel
theorem d_Header_prepare_103 : decode b_Header_prepare 103 = .ok (.putfield 40, 3) := by decide +kernel
theorem d_Header_prepare_106 : decode b_Header_prepare 106 = .ok (.aload_n 0, 1) := by decide +kernel
theorem d_Header_prepare_107 : decode b_Header_prepare 107 = .ok (.getfield 40, 3) := by decide +kernel
theorem d_Header_prepare_110 : decode b_Header_prepare 110 = .ok (.iconst 4, 1) := by decide +kernel
theorem d_Header_prepare_111 : decode b_Header_prepare 111 = .ok (.if_icmp .le 37, 3) := by decide +kernel
theorem d_Header_prepare_114 : decode b_Header_prepare 114 = .ok (.aload_n 0, 1) := by decide +kernel
theorem d_Header_prepare_115 : decode b_Header_prepare 115 = .ok (.getfield 14, 3) := by decide +kernel
theorem d_Header_prepare_118 : decode b_Header_prepare 118 = .ok (.getfield 43, 3) := by decide +kernel
theorem d_Header_prepare_121 : decode b_Header_prepare 121 = .ok (.getstatic 67, 3) := by decide +kernel
theorem d_Header_prepare_124 : decode b_Header_prepare 124 = .ok (.aload_n 0, 1) := by decide +kernel
theorem d_Header_prepare_125 : decode b_Header_prepare 125 = .ok (.getfield 40, 3) := by decide +kernel
theorem d_Header_prepare_128 : decode b_Header_prepare 128 = .ok (.iconst 1, 1) := by decide +kernel
theorem d_Header_prepare_129 : decode b_Header_prepare 129 = .ok (.isub, 1) := by decide +kernel
theorem d_Header_prepare_130 : decode b_Header_prepare 130 = .ok (.iaload, 1) := by decide +kernel
theorem d_Header_prepare_131 : decode b_Header_prepare 131 = .ok (.iaload, 1) := by decide +kernel
theorem d_Header_prepare_132 : decode b_Header_prepare 132 = .ok (.ifCond .ne 16, 3) := by decide +kernel
theorem d_Header_prepare_135 : decode b_Header_prepare 135 = .ok (.aload_n 0, 1) := by decide +kernel
theorem d_Header_prepare_136 : decode b_Header_prepare 136 = .ok (.dup, 1) := by decide +kernel
theorem d_Header_prepare_137 : decode b_Header_prepare 137 = .ok (.getfield 40, 3) := by decide +kernel
theorem d_Header_prepare_140 : decode b_Header_prepare 140 = .ok (.iconst 1, 1) := by decide +kernel
theorem d_Header_prepare_141 : decode b_Header_prepare 141 = .ok (.isub, 1) := by decide +kernel
theorem d_Header_prepare_142 : decode b_Header_prepare 142 = .ok (.putfield 40, 3) := by decide +kernel
theorem d_Header_prepare_145 : decode b_Header_prepare 145 = .ok (.goto (-39), 3) := by decide +kernel
theorem d_Header_prepare_148 : decode b_Header_prepare 148 = .ok (.return_, 1) := by decide +kernel
theorem d_Header_bitsInAll_0 : decode b_Header_bitsInAll 0 = .ok (.bipush 14, 2) := by decide +kernel
theorem d_Header_bitsInAll_2 : decode b_Header_bitsInAll 2 = .ok (.iconst 3, 1) := by decide +kernel
theorem d_Header_bitsInAll_3 : decode b_Header_bitsInAll 3 = .ok (.aload_n 0, 1) := by decide +kernel
theorem d_Header_bitsInAll_4 : decode b_Header_bitsInAll 4 = .ok (.getfield 40, 3) := by decide +kernel
theorem d_Header_bitsInAll_7 : decode b_Header_bitsInAll 7 = .ok (.imul, 1) := by decide +kernel
theorem d_Header_bitsInAll_8 : decode b_Header_bitsInAll 8 = .ok (.iadd, 1) := by decide +kernel
theorem d_Header_bitsInAll_9 : decode b_Header_bitsInAll 9 = .ok (.aload_n 0, 1) := by decide +kernel
theorem d_Header_bitsInAll_10 : decode b_Header_bitsInAll 10 = .ok (.getfield 14, 3) := by decide +kernel
theorem d_Header_bitsInAll_13 : decode b_Header_bitsInAll 13 = .ok (.aload_n 0, 1) := by decide +kernel
theorem d_Header_bitsInAll_14 : decode b_Header_bitsInAll 14 = .ok (.getfield 20, 3) := by decide +kernel
theorem d_Header_bitsInAll_17 : decode b_Header_bitsInAll 17 = .ok (.invokevirtual 90, 3) := by decide +kernel
theorem d_Header_bitsInAll_20 : decode b_Header_bitsInAll 20 = .ok (.iadd, 1) := by decide +kernel
theorem d_Header_bitsInAll_21 : decode b_Header_bitsInAll 21 = .ok (.istore_n 1, 1) := by decide +kernel
theorem d_Header_bitsInAll_22 : decode b_Header_bitsInAll 22 = .ok (.bipush 16, 2) := by decide +kernel
theorem d_Header_bitsInAll_24 : decode b_Header_bitsInAll 24 = .ok (.istore_n 2, 1) := by decide +kernel
theorem d_Header_bitsInAll_25 : decode b_Header_bitsInAll 25 = .ok (.iload_n 2, 1) := by decide +kernel
theorem d_Header_bitsInAll_26 : decode b_Header_bitsInAll 26 = .ok (.bipush 19, 2) := by decide +kernel
theorem d_Header_bitsInAll_28 : decode b_Header_bitsInAll 28 = .ok (.if_icmp .ge 23, 3) := by decide +kernel
theorem d_Header_bitsInAll_31 : decode b_Header_bitsInAll 31 = .ok (.iload_n 1, 1) := by decide +kernel
theorem d_Header_bitsInAll_32 : decode b_Header_bitsInAll 32 = .ok (.aload_n 0, 1) := by decide +kernel
theorem d_Header_bitsInAll_33 : decode b_Header_bitsInAll 33 = .ok (.getfield 20, 3) := by decide +kernel
theorem d_Header_bitsInAll_36 : decode b_Header_bitsInAll 36 = .ok (.iload_n 2, 1) := by decide +kernel
theorem d_Header_bitsInAll_37 : decode b_Header_bitsInAll 37 = .ok (.iaload, 1) := by decide +kernel
theorem d_Header_bitsInAll_38 : decode b_Header_bitsInAll 38 = .ok (.iload_n 2, 1) := by decide +kernel
theorem d_Header_bitsInAll_39 : decode b_Header_bitsInAll 39 = .ok (.invokestatic 94, 3) := by decide +kernel
theorem d_Header_bitsInAll_42 : decode b_Header_bitsInAll 42 = .ok (.imul, 1) := by decide +kernel
theorem d_Header_bitsInAll_43 : decode b_Header_bitsInAll 43 = .ok (.iadd, 1) := by decide +kernel
theorem d_Header_bitsInAll_44 : decode b_Header_bitsInAll 44 = .ok (.istore_n 1, 1) := by decide +kernel
theorem d_Header_bitsInAll_45 : decode b_Header_bitsInAll 45 = .ok (.iinc 2 1, 3) := by decide +kernel
theorem d_Header_bitsInAll_48 : decode b_Header_bitsInAll 48 = .ok (.goto (-23), 3) := by decide +kernel
theorem d_Header_bitsInAll_51 : decode b_Header_bitsInAll 51 = .ok (.iload_n 1, 1) := by decide +kernel
theorem d_Header_bitsInAll_52 : decode b_Header_bitsInAll 52 = .ok (.ireturn, 1) := by decide +kernel
theorem d_Header_write_0 : decode b_Header_write 0 = .ok (.aload_n 1, 1) := by decide +kernel
theorem d_Header_write_1 : decode b_Header_write 1 = .ok (.aload_n 0, 1) := by decide +kernel
theorem d_Header_write_2 : decode b_Header_write 2 = .ok (.getfield 34, 3) := by decide +kernel
theorem d_Header_write_5 : decode b_Header_write 5 = .ok (.sipush 257, 3) := by decide +kernel
theorem d_Header_write_8 : decode b_Header_write 8 = .ok (.isub, 1) := by decide +kernel
theorem d_Header_write_9 : decode b_Header_write 9 = .ok (.iconst 5, 1) := by decide +kernel
theorem d_Header_write_10 : decode b_Header_write 10 = .ok (.invokevirtual 98, 3) := by decide +kernel
theorem d_Header_write_13 : decode b_Header_write 13 = .ok (.aload_n 1, 1) := by decide +kernel
theorem d_Header_write_14 : decode b_Header_write 14 = .ok (.aload_n 0, 1) := by decide +kernel
theorem d_Header_write_15 : decode b_Header_write 15 = .ok (.getfield 37, 3) := by decide +kernel
theorem d_Header_write_18 : decode b_Header_write 18 = .ok (.iconst 1, 1) := by decide +kernel
theorem d_Header_write_19 : decode b_Header_write 19 = .ok (.isub, 1) := by decide +kernel
theorem d_Header_write_20 : decode b_Header_write 20 = .ok (.iconst 5, 1) := by decide +kernel
theorem d_Header_write_21 : decode b_Header_write 21 = .ok (.invokevirtual 98, 3) := by decide +kernel
theorem d_Header_write_24 : decode b_Header_write 24 = .ok (.aload_n 1, 1) := by decide +kernel
theorem d_Header_write_25 : decode b_Header_write 25 = .ok (.aload_n 0, 1) := by decide +kernel
theorem d_Header_write_26 : decode b_Header_write 26 = .ok (.getfield 40, 3) := by decide +kernel
theorem d_Header_write_29 : decode b_Header_write 29 = .ok (.iconst 4, 1) := by decide +kernel
theorem d_Header_write_30 : decode b_Header_write 30 = .ok (.isub, 1) := by decide +kernel
theorem d_Header_write_31 : decode b_Header_write 31 = .ok (.iconst 4, 1) := by decide +kernel
theorem d_Header_write_32 : decode b_Header_write 32 = .ok (.invokevirtual 98, 3) := by decide +kernel
theorem d_Header_write_35 : decode b_Header_write 35 = .ok (.iconst 0, 1) := by decide +kernel
theorem d_Header_write_36 : decode b_Header_write 36 = .ok (.istore_n 2, 1) := by decide +kernel
theorem d_Header_write_37 : decode b_Header_write 37 = .ok (.iload_n 2, 1) := by decide +kernel
theorem d_Header_write_38 : decode b_Header_write 38 = .ok (.aload_n 0, 1) := by decide +kernel
theorem d_Header_write_39 : decode b_Header_write 39 = .ok (.getfield 40, 3) := by decide +kernel
theorem d_Header_write_42 : decode b_Header_write 42 = .ok (.if_icmp .ge 27, 3) := by decide +kernel
theorem d_Header_write_45 : decode b_Header_write 45 = .ok (.aload_n 1, 1) := by decide +kernel
theorem d_Header_write_46 : decode b_Header_write 46 = .ok (.aload_n 0, 1) := by decide +kernel
theorem d_Header_write_47 : decode b_Header_write 47 = .ok (.getfield 14, 3) := by decide +kernel
theorem d_Header_write_50 : decode b_Header_write 50 = .ok (.getfield 43, 3) := by decide +kernel
theorem d_Header_write_53 : decode b_Header_write 53 = .ok (.getstatic 67, 3) := by decide +kernel
theorem d_Header_write_56 : decode b_Header_write 56 = .ok (.iload_n 2, 1) := by decide +kernel
theorem d_Header_write_57 : decode b_Header_write 57 = .ok (.iaload, 1) := by decide +kernel
theorem d_Header_write_58 : decode b_Header_write 58 = .ok (.iaload, 1) := by decide +kernel
theorem d_Header_write_59 : decode b_Header_write 59 = .ok (.iconst 3, 1) := by decide +kernel
theorem d_Header_write_60 : decode b_Header_write 60 = .ok (.invokevirtual 98, 3) := by decide +kernel
theorem d_Header_write_63 : decode b_Header_write 63 = .ok (.iinc 2 1, 3) := by decide +kernel
theorem d_Header_write_66 : decode b_Header_write 66 = .ok (.goto (-29), 3) := by decide +kernel
theorem d_Header_write_69 : decode b_Header_write 69 = .ok (.iconst 0, 1) := by decide +kernel
theorem d_Header_write_70 : decode b_Header_write 70 = .ok (.istore_n 2, 1) := by decide +kernel
theorem d_Header_write_71 : decode b_Header_write 71 = .ok (.iload_n 2, 1) := by decide +kernel
theorem d_Header_write_72 : decode b_Header_write 72 = .ok (.aload_n 0, 1) := by decide +kernel
theorem d_Header_write_73 : decode b_Header_write 73 = .ok (.getfield 30, 3) := by decide +kernel
theorem d_Header_write_76 : decode b_Header_write 76 = .ok (.if_icmp .ge 57, 3) := by decide +kernel
theorem d_Header_write_79 : decode b_Header_write 79 = .ok (.aload_n 0, 1) := by decide +kernel
theorem d_Header_write_80 : decode b_Header_write 80 = .ok (.getfield 27, 3) := by decide +kernel
theorem d_Header_write_83 : decode b_Header_write 83 = .ok (.iload_n 2, 1) := by decide +kernel
theorem d_Header_write_84 : decode b_Header_write 84 = .ok (.iaload, 1) := by decide +kernel
theorem d_Header_write_85 : decode b_Header_write 85 = .ok (.bipush 31, 2) := by decide +kernel
theorem d_Header_write_87 : decode b_Header_write 87 = .ok (.iand, 1) := by decide +kernel
theorem d_Header_write_88 : decode b_Header_write 88 = .ok (.istore_n 3, 1) := by decide +kernel
theorem d_Header_write_89 : decode b_Header_write 89 = .ok (.aload_n 1, 1) := by decide +kernel
theorem d_Header_write_90 : decode b_Header_write 90 = .ok (.aload_n 0, 1) := by decide +kernel
theorem d_Header_write_91 : decode b_Header_write 91 = .ok (.getfield 14, 3) := by decide +kernel
theorem d_Header_write_94 : decode b_Header_write 94 = .ok (.getfield 103, 3) := by decide +kernel
theorem d_Header_write_97 : decode b_Header_write 97 = .ok (.iload_n 3, 1) := by decide +kernel
theorem d_Header_write_98 : decode b_Header_write 98 = .ok (.iaload, 1) := by decide +kernel
theorem d_Header_write_99 : decode b_Header_write 99 = .ok (.aload_n 0, 1) := by decide +kernel
theorem d_Header_write_100 : decode b_Header_write 100 = .ok (.getfield 14, 3) := by decide +kernel
theorem d_Header_write_103 : decode b_Header_write 103 = .ok (.getfield 43, 3) := by decide +kernel
theorem d_Header_write_106 : decode b_Header_write 106 = .ok (.iload_n 3, 1) := by decide +kernel
theorem d_Header_write_107 : decode b_Header_write 107 = .ok (.iaload, 1) := by decide +kernel
theorem d_Header_write_108 : decode b_Header_write 108 = .ok (.invokevirtual 98, 3) := by decide +kernel
theorem d_Header_write_111 : decode b_Header_write 111 = .ok (.aload_n 1, 1) := by decide +kernel
theorem d_Header_write_112 : decode b_Header_write 112 = .ok (.aload_n 0, 1) := by decide +kernel
theorem d_Header_write_113 : decode b_Header_write 113 = .ok (.getfield 27, 3) := by decide +kernel
theorem d_Header_write_116 : decode b_Header_write 116 = .ok (.iload_n 2, 1) := by decide +kernel
theorem d_Header_write_117 : decode b_Header_write 117 = .ok (.iaload, 1) := by decide +kernel
theorem d_Header_write_118 : decode b_Header_write 118 = .ok (.iconst 5, 1) := by decide +kernel
theorem d_Header_write_119 : decode b_Header_write 119 = .ok (.ishr, 1) := by decide +kernel
theorem d_Header_write_120 : decode b_Header_write 120 = .ok (.iload_n 3, 1) := by decide +kernel
theorem d_Header_write_121 : decode b_Header_write 121 = .ok (.invokestatic 94, 3) := by decide +kernel
theorem d_Header_write_124 : decode b_Header_write 124 = .ok (.invokevirtual 98, 3) := by decide +kernel
theorem d_Header_write_127 : decode b_Header_write 127 = .ok (.iinc 2 1, 3) := by decide +kernel
theorem d_Header_write_130 : decode b_Header_write 130 = .ok (.goto (-59), 3) := by decide +kernel
theorem d_Header_write_133 : decode b_Header_write 133 = .ok (.return_, 1) := by decide +kernel
/-! PackedBytes$Header.countUsed([II)I -/
def fHeader_countUsed_3 (N : Nat) (n_p1 : Nat) (f_p1 : Nat → Int32) (x1 : Int32) : Nat → (Int32) → Option (Int32)
  | 0, _ => none
  | k + 1, x2 =>
    if x2 ≤ x1 then
      some x2
    else
      if ¬ ((x2 - (1 : Int32)) < 0 ∨ n_p1 ≤ (x2 - (1 : Int32)).toNatClampNeg) then
        if (f_p1 (x2 - (1 : Int32)).toNatClampNeg) = 0 then
          fHeader_countUsed_3 N n_p1 f_p1 x1 k (x2 + (-1 : Int32))
        else
          some x2
      else none
def fHeader_countUsed (N : Nat) (p2 : Int32) (n_p1 : Nat) (f_p1 : Nat → Int32) : Option (Int32) :=
    (fHeader_countUsed_3 N n_p1 f_p1 p2 N (nI n_p1)).bind (fun y4 =>
      some y4)
set_option maxHeartbeats 4000000 in
set_option maxRecDepth 100000 in
theorem wHeader_countUsed_3 {p : Program} {l : Launch} {e : Env} {s : State} {m : MethodId} {args : Array Value} {below : List Frame} {meth : Method} {c : Code} {Q : State → Prop} {A : Nat → Prop} {dC : Nat → ClassId} {dI : Nat → Nat → Nat} (h_p1 : Nat) (cB cI cJ : ClassId) (N : Nat) (n_p1 : Nat) (f_p1 : Nat → Int32) (x1 : Int32) (C : CX p s m args c b_Header_countUsed 3 R_Header A (dC, dI) [(cB, .byte), (cI, .int), (cJ, .long)]) :
    ∀ (n : Nat) (x2 : Int32) (H : Heap) (locs : List Loc) (ls : Array Slot) (o : Int32), va_P (dC, dI) vwCl [(h_p1, .inl (cI, n_p1, .inl f_p1))] H → va_D A [(h_p1, .inl (cI, n_p1, .inl f_p1))] → va_S A s.heap H locs → lv_has ls 3 [(0, .ref h_p1), (1, .int x1), (2, .int x2)] → fHeader_countUsed_3 N n_p1 f_p1 x1 n x2 = some o → (∀ (H : Heap) (locs : List Loc) (ls : Array Slot), va_P (dC, dI) vwCl [(h_p1, .inl (cI, n_p1, .inl f_p1))] H → va_D A [(h_p1, .inl (cI, n_p1, .inl f_p1))] → va_S A s.heap H locs → lv_has ls 3 [(2, .int o)] → W p l e ({ frames := 0, cells := 0, slots := 0, locals := 0 } : Room) s m args below meth c H locs 0 0 Q (F0 m 22 ls [])) → W p l e ({ frames := 0, cells := 0, slots := 0, locals := 0 } : Room) s m args below meth c H locs 0 0 Q (F0 m 3 ls []) := by
  obtain ⟨hx, hb, hml, hown, ht, hA, hK, hN⟩ := id C
  intro n
  induction n with
  | zero => intro x2 H locs ls o _ _ _ _ h; exact nomatch h
  | succ k ih =>
    intro x2 H locs ls o hP hD hS hl h kx
    refine lv_iload_n hx hb d_Header_countUsed_3 rfl (lv_at hl 2 rfl) ?_
    refine lv_iload_n hx hb d_Header_countUsed_4 rfl (lv_at hl 1 rfl) ?_
    refine lv_icmp_le (tgt := 22) hx hb d_Header_countUsed_5 (by decide) (fun c1 => ?_) (fun c1 => ?_)
    · replace h := ip_p c1 h
      obtain rfl := Option.some.inj h
      exact kx _ _ _ hP hD hS (lv_sub hl [2] rfl)
    · replace h := ip_n c1 h
      refine lv_aload_n hx hb d_Header_countUsed_8 rfl (lv_at hl 0 rfl) ?_
      refine lv_iload_n hx hb d_Header_countUsed_9 rfl (lv_at hl 2 rfl) ?_
      refine lv_iconst (v := (1 : Int32)) hx hb d_Header_countUsed_10 (by decide) ?_
      refine lv_isub hx hb d_Header_countUsed_11 ?_
      obtain ⟨g2, h⟩ := gd h
      refine va_iald hx hb hK hP 0 1 rfl rfl g2 d_Header_countUsed_12 ?_
      refine lv_if_ne (tgt := 22) hx hb d_Header_countUsed_13 (by decide) (fun c3 => ?_) (fun c3 => ?_)
      · replace h := ip_n c3 h
        obtain rfl := Option.some.inj h
        exact kx _ _ _ hP hD hS (lv_sub hl [2] rfl)
      · replace h := ip_p c3 h
        refine lv_iinc (v := x2 + (-1 : Int32)) (lv' := [(2, .int (x2 + (-1 : Int32))), (0, .ref h_p1), (1, .int x1)]) hx hb d_Header_countUsed_16 hl (k := 2) rfl rfl (by decide) rfl (fun ls hl => ?_)
        refine lv_goto (tgt := 3) hx hb d_Header_countUsed_19 (by decide) ?_
        exact ih (x2 + (-1 : Int32)) _ _ _ _ hP hD hS (lv_sub hl [1, 2, 0] rfl) h kx
set_option maxHeartbeats 4000000 in
set_option maxRecDepth 100000 in
theorem cHeader_countUsed (l : Launch) (dC : Nat → ClassId) (dI : Nat → Nat → Nat) (h_p1 : Nat) (cB cI cJ : ClassId) (sz : Nat) (N : Nat) (p2 : Int32) (n_p1 : Nat) (f_p1 : Nat → Int32) (o : Int32) (h : fHeader_countUsed N p2 n_p1 f_p1 = some o) : Met l y_Header_countUsed w_Header_countUsed ({ frames := 0, cells := 0, slots := 0, locals := 0 } : Room) (va_Pc [.ref h_p1, .int p2] (fun U => U.heap.size = sz ∧ va_P (dC, dI) vwCl [(h_p1, .inl (cI, n_p1, .inl f_p1))] U.heap ∧ va_K (dC, dI) vwCl [(cB, .byte), (cI, .int), (cJ, .long)] U ∧ va_D (fun _ => True) [(h_p1, .inl (cI, n_p1, .inl f_p1))] ∧ NW U)) (va_Qi (fun r (_ : Unit) => r = o) (fun _ t => va_P (dC, dI) vwCl [(h_p1, .inl (cI, n_p1, .inl f_p1))] t.heap ∧ va_K (dC, dI) vwCl [(cB, .byte), (cI, .int), (cJ, .long)] t ∧ va_D (va_A [(h_p1, .inl (cI, n_p1, .inl f_p1))] sz) [(h_p1, .inl (cI, n_p1, .inl f_p1))]) (va_A [(h_p1, .inl (cI, n_p1, .inl f_p1))] sz)) 0 0 (va_A [(h_p1, .inl (cI, n_p1, .inl f_p1))] sz) := by
  refine Met.ofW (cc := b_Header_countUsed) (maxL := 3) (ret := (some .int)) (by decide) rfl ?_
  intro p e s m args below meth c s₁ B hml hv
  obtain ⟨rfl, hsz, hP, hK, hD0, hN⟩ := hv
  have hx := B.exec
  have hb := B.bytes
  have hr := B.returns
  have hts := atoms_spec (ws := w_Header_countUsed) B.pre
  have ht : ∀ w ∈ TB, w.before ([.ref h_p1, .int p2]).toArray s = true := fun w h => hts w (List.mem_cons_of_mem _ h)
  have hown : s.vm.findClass R_Header = some m.cls := findClass_of_methodNamed B.named
  have hlocks := B.notSynchronized
  subst hsz
  have hD := hD0.self (sz := s.heap.size)
  generalize hAe : va_A [(h_p1, .inl (cI, n_p1, .inl f_p1))] s.heap.size = A at hD ⊢
  have hA : ∀ q : Nat, s.heap.size ≤ q → A q := fun q h => by rw [← hAe]; exact Or.inr h
  have hS : va_S A s.heap s.heap [] := va_S.rf
  have hP : va_P (dC, dI) vwCl [(h_p1, .inl (cI, n_p1, .inl f_p1))] s.heap := hP
  have C : CX p s m ([.ref h_p1, .int p2]).toArray c b_Header_countUsed 3 R_Header A (dC, dI) [(cB, .byte), (cI, .int), (cJ, .long)] := ⟨hx, hb, hml, hown, ht, hA, hK, hN⟩
  have hl := lv_entry ([.ref h_p1, .int p2]) (n := 3) (Nat.le_of_ble_eq_true rfl)
  rw [lg_entry_eq]
  generalize (lg_sl ([.ref h_p1, .int p2]) ++ List.replicate (3 - (lg_sl ([.ref h_p1, .int p2])).length) Slot.unset).toArray = ls at hl ⊢
  have hl : lv_has ls 3 [(0, .ref h_p1), (1, .int p2)] := hl
  refine lv_aload_n hx hb d_Header_countUsed_0 rfl (lv_at hl 0 rfl) ?_
  refine va_alen (v := nI n_p1) hx hb hK hP 0 1 rfl rfl rfl d_Header_countUsed_1 ?_
  refine lv_istore_n (lv' := [(2, .int (nI n_p1)), (0, .ref h_p1), (1, .int p2)]) hx hb d_Header_countUsed_2 rfl hl (by decide) rfl (fun ls hl => ?_)
  obtain ⟨y4, hy4, h⟩ := bd h
  refine wHeader_countUsed_3 h_p1 cB cI cJ N n_p1 f_p1 p2 C N (nI n_p1) _ _ _ _ hP hD hS (lv_sub hl [1, 2, 0] rfl) hy4 (fun H locs ls hP hD hS hl => ?_)
  refine lv_iload_n hx hb d_Header_countUsed_22 rfl (lv_at hl 0 rfl) ?_
  obtain rfl := Option.some.inj h
  exact W.iret (v := y4) hx hb hr (fun t ht hW => ⟨⟨_, (), rfl, rfl, by rw [ht]; exact hP, va_K.moved hW.alike hK, hD⟩, hS.F ht⟩) hS.2.2 d_Header_countUsed_23
/-! PackedBytes$Header.run(III)I -/
def fHeader_run_3 (N : Nat) (x1 : Int32) (x3 : Int32) (f_t_lengths : Nat → Int32) : Nat → (Int32) → Option (Int32)
  | 0, _ => none
  | k + 1, x4 =>
    if x3 ≤ x4 then
      some x4
    else
      if ¬ (x4 < 0 ∨ 316 ≤ x4.toNatClampNeg) then
        if (f_t_lengths x4.toNatClampNeg) = x1 then
          fHeader_run_3 N x1 x3 f_t_lengths k (x4 + (1 : Int32))
        else
          some x4
      else none
def fHeader_run (N : Nat) (p1 : Int32) (p2 : Int32) (p3 : Int32) (f_t_lengths : Nat → Int32) : Option (Int32) :=
    (fHeader_run_3 N p1 p3 f_t_lengths N p2).bind (fun y4 =>
      some (y4 - p2))
set_option maxHeartbeats 4000000 in
set_option maxRecDepth 100000 in
theorem wHeader_run_3 {p : Program} {l : Launch} {e : Env} {s : State} {m : MethodId} {args : Array Value} {below : List Frame} {meth : Method} {c : Code} {Q : State → Prop} {A : Nat → Prop} {dC : Nat → ClassId} {dI : Nat → Nat → Nat} (h_t h_t_code h_t_counts h_t_lengths h_t_items : Nat) (cB cI cJ : ClassId) (N : Nat) (v_t_itemCount : Int32) (v_t_symbols : Int32) (v_t_distances : Int32) (v_t_codes : Int32) (f_t_lengths : Nat → Int32) (x1 : Int32) (x2 : Int32) (x3 : Int32) (C : CX p s m args c b_Header_run 5 R_Header A (dC, dI) [(cB, .byte), (cI, .int), (cJ, .long)]) :
    ∀ (n : Nat) (x4 : Int32) (H : Heap) (locs : List Loc) (ls : Array Slot) (o : Int32), va_P (dC, dI) vwCl [(h_t, .inr (4, [.ref h_t_code, .ref h_t_counts, .ref h_t_lengths, .ref h_t_items, .int v_t_itemCount, .int v_t_symbols, .int v_t_distances, .int v_t_codes])), (h_t_lengths, .inl (cI, 316, .inl f_t_lengths))] H → va_D A [(h_t, .inr (4, [.ref h_t_code, .ref h_t_counts, .ref h_t_lengths, .ref h_t_items, .int v_t_itemCount, .int v_t_symbols, .int v_t_distances, .int v_t_codes])), (h_t_lengths, .inl (cI, 316, .inl f_t_lengths))] → va_S A s.heap H locs → lv_has ls 5 [(0, .ref h_t), (1, .int x1), (2, .int x2), (3, .int x3), (4, .int x4)] → fHeader_run_3 N x1 x3 f_t_lengths n x4 = some o → (∀ (H : Heap) (locs : List Loc) (ls : Array Slot), va_P (dC, dI) vwCl [(h_t, .inr (4, [.ref h_t_code, .ref h_t_counts, .ref h_t_lengths, .ref h_t_items, .int v_t_itemCount, .int v_t_symbols, .int v_t_distances, .int v_t_codes])), (h_t_lengths, .inl (cI, 316, .inl f_t_lengths))] H → va_D A [(h_t, .inr (4, [.ref h_t_code, .ref h_t_counts, .ref h_t_lengths, .ref h_t_items, .int v_t_itemCount, .int v_t_symbols, .int v_t_distances, .int v_t_codes])), (h_t_lengths, .inl (cI, 316, .inl f_t_lengths))] → va_S A s.heap H locs → lv_has ls 5 [(2, .int x2), (4, .int o)] → W p l e ({ frames := 0, cells := 0, slots := 0, locals := 0 } : Room) s m args below meth c H locs 0 0 Q (F0 m 26 ls [])) → W p l e ({ frames := 0, cells := 0, slots := 0, locals := 0 } : Room) s m args below meth c H locs 0 0 Q (F0 m 3 ls []) := by
  obtain ⟨hx, hb, hml, hown, ht, hA, hK, hN⟩ := id C
  intro n
  induction n with
  | zero => intro x4 H locs ls o _ _ _ _ h; exact nomatch h
  | succ k ih =>
    intro x4 H locs ls o hP hD hS hl h kx
    refine lv_iload hx hb d_Header_run_3 (lv_at hl 4 rfl) ?_
    refine lv_iload_n hx hb d_Header_run_5 rfl (lv_at hl 3 rfl) ?_
    refine lv_icmp_ge (tgt := 26) hx hb d_Header_run_6 (by decide) (fun c1 => ?_) (fun c1 => ?_)
    · replace h := ip_p c1 h
      obtain rfl := Option.some.inj h
      exact kx _ _ _ hP hD hS (lv_sub hl [2, 4] rfl)
    · replace h := ip_n c1 h
      refine lv_aload_n hx hb d_Header_run_9 rfl (lv_at hl 0 rfl) ?_
      refine va_get (D := (dC, dI)) (ci := 4) (v := .ref h_t_lengths) (C := R_Header) (T := F_Header) (N := 8) hx hb ht in_Header hown hK hP 0 rfl rfl 2 (by decide) (ht _ k_190) (fun _ h9 => h9) rfl d_Header_run_10 ?_
      refine lv_iload hx hb d_Header_run_13 (lv_at hl 4 rfl) ?_
      obtain ⟨g2, h⟩ := gd h
      refine va_iald hx hb hK hP 1 1 rfl rfl g2 d_Header_run_15 ?_
      refine lv_iload_n hx hb d_Header_run_16 rfl (lv_at hl 1 rfl) ?_
      refine lv_icmp_ne (tgt := 26) hx hb d_Header_run_17 (by decide) (fun c3 => ?_) (fun c3 => ?_)
      · replace h := ip_n c3 h
        obtain rfl := Option.some.inj h
        exact kx _ _ _ hP hD hS (lv_sub hl [2, 4] rfl)
      · replace h := ip_p c3 h
        refine lv_iinc (v := x4 + (1 : Int32)) (lv' := [(4, .int (x4 + (1 : Int32))), (0, .ref h_t), (1, .int x1), (2, .int x2), (3, .int x3)]) hx hb d_Header_run_20 hl (k := 4) rfl rfl (by decide) rfl (fun ls hl => ?_)
        refine lv_goto (tgt := 3) hx hb d_Header_run_23 (by decide) ?_
        exact ih (x4 + (1 : Int32)) _ _ _ _ hP hD hS (lv_sub hl [1, 2, 3, 4, 0] rfl) h kx
set_option maxHeartbeats 4000000 in
set_option maxRecDepth 100000 in
theorem cHeader_run (l : Launch) (dC : Nat → ClassId) (dI : Nat → Nat → Nat) (h_t h_t_code h_t_counts h_t_lengths h_t_items : Nat) (cB cI cJ : ClassId) (sz : Nat) (N : Nat) (p1 : Int32) (p2 : Int32) (p3 : Int32) (v_t_itemCount : Int32) (v_t_symbols : Int32) (v_t_distances : Int32) (v_t_codes : Int32) (f_t_lengths : Nat → Int32) (o : Int32) (h : fHeader_run N p1 p2 p3 f_t_lengths = some o) : Met l y_Header_run w_Header_run ({ frames := 0, cells := 0, slots := 0, locals := 0 } : Room) (va_Pc [.ref h_t, .int p1, .int p2, .int p3] (fun U => U.heap.size = sz ∧ va_P (dC, dI) vwCl [(h_t, .inr (4, [.ref h_t_code, .ref h_t_counts, .ref h_t_lengths, .ref h_t_items, .int v_t_itemCount, .int v_t_symbols, .int v_t_distances, .int v_t_codes])), (h_t_lengths, .inl (cI, 316, .inl f_t_lengths))] U.heap ∧ va_K (dC, dI) vwCl [(cB, .byte), (cI, .int), (cJ, .long)] U ∧ va_D (fun _ => True) [(h_t, .inr (4, [.ref h_t_code, .ref h_t_counts, .ref h_t_lengths, .ref h_t_items, .int v_t_itemCount, .int v_t_symbols, .int v_t_distances, .int v_t_codes])), (h_t_lengths, .inl (cI, 316, .inl f_t_lengths))] ∧ NW U)) (va_Qi (fun r (_ : Unit) => r = o) (fun _ t => va_P (dC, dI) vwCl [(h_t, .inr (4, [.ref h_t_code, .ref h_t_counts, .ref h_t_lengths, .ref h_t_items, .int v_t_itemCount, .int v_t_symbols, .int v_t_distances, .int v_t_codes])), (h_t_lengths, .inl (cI, 316, .inl f_t_lengths))] t.heap ∧ va_K (dC, dI) vwCl [(cB, .byte), (cI, .int), (cJ, .long)] t ∧ va_D (va_A [(h_t, .inr (4, [.ref h_t_code, .ref h_t_counts, .ref h_t_lengths, .ref h_t_items, .int v_t_itemCount, .int v_t_symbols, .int v_t_distances, .int v_t_codes])), (h_t_lengths, .inl (cI, 316, .inl f_t_lengths))] sz) [(h_t, .inr (4, [.ref h_t_code, .ref h_t_counts, .ref h_t_lengths, .ref h_t_items, .int v_t_itemCount, .int v_t_symbols, .int v_t_distances, .int v_t_codes])), (h_t_lengths, .inl (cI, 316, .inl f_t_lengths))]) (va_A [(h_t, .inr (4, [.ref h_t_code, .ref h_t_counts, .ref h_t_lengths, .ref h_t_items, .int v_t_itemCount, .int v_t_symbols, .int v_t_distances, .int v_t_codes])), (h_t_lengths, .inl (cI, 316, .inl f_t_lengths))] sz)) 0 0 (va_A [(h_t, .inr (4, [.ref h_t_code, .ref h_t_counts, .ref h_t_lengths, .ref h_t_items, .int v_t_itemCount, .int v_t_symbols, .int v_t_distances, .int v_t_codes])), (h_t_lengths, .inl (cI, 316, .inl f_t_lengths))] sz) := by
  refine Met.ofW (cc := b_Header_run) (maxL := 5) (ret := (some .int)) (by decide) rfl ?_
  intro p e s m args below meth c s₁ B hml hv
  obtain ⟨rfl, hsz, hP, hK, hD0, hN⟩ := hv
  have hx := B.exec
  have hb := B.bytes
  have hr := B.returns
  have hts := atoms_spec (ws := w_Header_run) B.pre
  have ht : ∀ w ∈ TB, w.before ([.ref h_t, .int p1, .int p2, .int p3]).toArray s = true := fun w h => hts w (List.mem_cons_of_mem _ h)
  have hown : s.vm.findClass R_Header = some m.cls := findClass_of_methodNamed B.named
  have hlocks := B.notSynchronized
  subst hsz
  have hD := hD0.self (sz := s.heap.size)
  generalize hAe : va_A [(h_t, .inr (4, [.ref h_t_code, .ref h_t_counts, .ref h_t_lengths, .ref h_t_items, .int v_t_itemCount, .int v_t_symbols, .int v_t_distances, .int v_t_codes])), (h_t_lengths, .inl (cI, 316, .inl f_t_lengths))] s.heap.size = A at hD ⊢
  have hA : ∀ q : Nat, s.heap.size ≤ q → A q := fun q h => by rw [← hAe]; exact Or.inr h
  have hS : va_S A s.heap s.heap [] := va_S.rf
  have hP : va_P (dC, dI) vwCl [(h_t, .inr (4, [.ref h_t_code, .ref h_t_counts, .ref h_t_lengths, .ref h_t_items, .int v_t_itemCount, .int v_t_symbols, .int v_t_distances, .int v_t_codes])), (h_t_lengths, .inl (cI, 316, .inl f_t_lengths))] s.heap := hP
  have C : CX p s m ([.ref h_t, .int p1, .int p2, .int p3]).toArray c b_Header_run 5 R_Header A (dC, dI) [(cB, .byte), (cI, .int), (cJ, .long)] := ⟨hx, hb, hml, hown, ht, hA, hK, hN⟩
  have hl := lv_entry ([.ref h_t, .int p1, .int p2, .int p3]) (n := 5) (Nat.le_of_ble_eq_true rfl)
  rw [lg_entry_eq]
  generalize (lg_sl ([.ref h_t, .int p1, .int p2, .int p3]) ++ List.replicate (5 - (lg_sl ([.ref h_t, .int p1, .int p2, .int p3])).length) Slot.unset).toArray = ls at hl ⊢
  have hl : lv_has ls 5 [(0, .ref h_t), (1, .int p1), (2, .int p2), (3, .int p3)] := hl
  refine lv_iload_n hx hb d_Header_run_0 rfl (lv_at hl 2 rfl) ?_
  refine lv_istore (lv' := [(4, .int p2), (0, .ref h_t), (1, .int p1), (2, .int p2), (3, .int p3)]) hx hb d_Header_run_1 hl (by decide) rfl (fun ls hl => ?_)
  obtain ⟨y4, hy4, h⟩ := bd h
  refine wHeader_run_3 h_t h_t_code h_t_counts h_t_lengths h_t_items cB cI cJ N v_t_itemCount v_t_symbols v_t_distances v_t_codes f_t_lengths p1 p2 p3 C N p2 _ _ _ _ hP hD hS (lv_sub hl [1, 2, 3, 4, 0] rfl) hy4 (fun H locs ls hP hD hS hl => ?_)
  refine lv_iload hx hb d_Header_run_26 (lv_at hl 1 rfl) ?_
  refine lv_iload_n hx hb d_Header_run_28 rfl (lv_at hl 0 rfl) ?_
  refine lv_isub hx hb d_Header_run_29 ?_
  obtain rfl := Option.some.inj h
  exact W.iret (v := y4 - p2) hx hb hr (fun t ht hW => ⟨⟨_, (), rfl, rfl, by rw [ht]; exact hP, va_K.moved hW.alike hK, hD⟩, hS.F ht⟩) hS.2.2 d_Header_run_30
/-! PackedBytes$Header.addItem(II)V -/
def fHeader_addItem (N : Nat) (p1 : Int32) (p2 : Int32) (v_t_itemCount : Int32) (f_t_items : Nat → Int32) (f_t_counts : Nat → Int32) : Option (Int32 × (Nat → Int32) × (Nat → Int32)) :=
    if ¬ (v_t_itemCount < 0 ∨ 316 ≤ v_t_itemCount.toNatClampNeg) then
      if ¬ (p1 < 0 ∨ 19 ≤ p1.toNatClampNeg) then
        if ¬ (p1 < 0 ∨ 19 ≤ p1.toNatClampNeg) then
          some (v_t_itemCount + (1 : Int32), upd f_t_items v_t_itemCount.toNatClampNeg ((p2 <<< ((5 : Int32) &&& 31)) ||| p1), upd f_t_counts p1.toNatClampNeg ((f_t_counts p1.toNatClampNeg) + (1 : Int32)))
        else none
      else none
    else none
set_option maxHeartbeats 4000000 in
set_option maxRecDepth 100000 in
theorem cHeader_addItem (l : Launch) (dC : Nat → ClassId) (dI : Nat → Nat → Nat) (h_t h_t_code h_t_counts h_t_lengths h_t_items : Nat) (cB cI cJ : ClassId) (sz : Nat) (N : Nat) (p1 : Int32) (p2 : Int32) (v_t_itemCount : Int32) (v_t_symbols : Int32) (v_t_distances : Int32) (v_t_codes : Int32) (f_t_items : Nat → Int32) (f_t_counts : Nat → Int32) (o : Int32 × (Nat → Int32) × (Nat → Int32)) (h : fHeader_addItem N p1 p2 v_t_itemCount f_t_items f_t_counts = some o) : Met l y_Header_addItem w_Header_addItem ({ frames := 0, cells := 0, slots := 0, locals := 0 } : Room) (va_Pc [.ref h_t, .int p1, .int p2] (fun U => U.heap.size = sz ∧ va_P (dC, dI) vwCl [(h_t, .inr (4, [.ref h_t_code, .ref h_t_counts, .ref h_t_lengths, .ref h_t_items, .int v_t_itemCount, .int v_t_symbols, .int v_t_distances, .int v_t_codes])), (h_t_items, .inl (cI, 316, .inl f_t_items)), (h_t_counts, .inl (cI, 19, .inl f_t_counts))] U.heap ∧ va_K (dC, dI) vwCl [(cB, .byte), (cI, .int), (cJ, .long)] U ∧ va_D (fun _ => True) [(h_t, .inr (4, [.ref h_t_code, .ref h_t_counts, .ref h_t_lengths, .ref h_t_items, .int v_t_itemCount, .int v_t_symbols, .int v_t_distances, .int v_t_codes])), (h_t_items, .inl (cI, 316, .inl f_t_items)), (h_t_counts, .inl (cI, 19, .inl f_t_counts))] ∧ NW U)) (va_Qv (fun _ : Unit => True) (fun _ t => va_P (dC, dI) vwCl [(h_t, .inr (4, [.ref h_t_code, .ref h_t_counts, .ref h_t_lengths, .ref h_t_items, .int o.1, .int v_t_symbols, .int v_t_distances, .int v_t_codes])), (h_t_items, .inl (cI, 316, .inl o.2.1)), (h_t_counts, .inl (cI, 19, .inl o.2.2))] t.heap ∧ va_K (dC, dI) vwCl [(cB, .byte), (cI, .int), (cJ, .long)] t ∧ va_D (va_A [(h_t, .inr (4, [.ref h_t_code, .ref h_t_counts, .ref h_t_lengths, .ref h_t_items, .int v_t_itemCount, .int v_t_symbols, .int v_t_distances, .int v_t_codes])), (h_t_items, .inl (cI, 316, .inl f_t_items)), (h_t_counts, .inl (cI, 19, .inl f_t_counts))] sz) [(h_t, .inr (4, [.ref h_t_code, .ref h_t_counts, .ref h_t_lengths, .ref h_t_items, .int o.1, .int v_t_symbols, .int v_t_distances, .int v_t_codes])), (h_t_items, .inl (cI, 316, .inl o.2.1)), (h_t_counts, .inl (cI, 19, .inl o.2.2))]) (va_A [(h_t, .inr (4, [.ref h_t_code, .ref h_t_counts, .ref h_t_lengths, .ref h_t_items, .int v_t_itemCount, .int v_t_symbols, .int v_t_distances, .int v_t_codes])), (h_t_items, .inl (cI, 316, .inl f_t_items)), (h_t_counts, .inl (cI, 19, .inl f_t_counts))] sz)) 0 0 (va_A [(h_t, .inr (4, [.ref h_t_code, .ref h_t_counts, .ref h_t_lengths, .ref h_t_items, .int v_t_itemCount, .int v_t_symbols, .int v_t_distances, .int v_t_codes])), (h_t_items, .inl (cI, 316, .inl f_t_items)), (h_t_counts, .inl (cI, 19, .inl f_t_counts))] sz) := by
  refine Met.ofW (cc := b_Header_addItem) (maxL := 3) (ret := none) (by decide) rfl ?_
  intro p e s m args below meth c s₁ B hml hv
  obtain ⟨rfl, hsz, hP, hK, hD0, hN⟩ := hv
  have hx := B.exec
  have hb := B.bytes
  have hr := B.returns
  have hts := atoms_spec (ws := w_Header_addItem) B.pre
  have ht : ∀ w ∈ TB, w.before ([.ref h_t, .int p1, .int p2]).toArray s = true := fun w h => hts w (List.mem_cons_of_mem _ h)
  have hown : s.vm.findClass R_Header = some m.cls := findClass_of_methodNamed B.named
  have hlocks := B.notSynchronized
  subst hsz
  have hD := hD0.self (sz := s.heap.size)
  generalize hAe : va_A [(h_t, .inr (4, [.ref h_t_code, .ref h_t_counts, .ref h_t_lengths, .ref h_t_items, .int v_t_itemCount, .int v_t_symbols, .int v_t_distances, .int v_t_codes])), (h_t_items, .inl (cI, 316, .inl f_t_items)), (h_t_counts, .inl (cI, 19, .inl f_t_counts))] s.heap.size = A at hD ⊢
  have hA : ∀ q : Nat, s.heap.size ≤ q → A q := fun q h => by rw [← hAe]; exact Or.inr h
  have hS : va_S A s.heap s.heap [] := va_S.rf
  have hP : va_P (dC, dI) vwCl [(h_t, .inr (4, [.ref h_t_code, .ref h_t_counts, .ref h_t_lengths, .ref h_t_items, .int v_t_itemCount, .int v_t_symbols, .int v_t_distances, .int v_t_codes])), (h_t_items, .inl (cI, 316, .inl f_t_items)), (h_t_counts, .inl (cI, 19, .inl f_t_counts))] s.heap := hP
  skip
  have hl := lv_entry ([.ref h_t, .int p1, .int p2]) (n := 3) (Nat.le_of_ble_eq_true rfl)
  rw [lg_entry_eq]
  generalize (lg_sl ([.ref h_t, .int p1, .int p2]) ++ List.replicate (3 - (lg_sl ([.ref h_t, .int p1, .int p2])).length) Slot.unset).toArray = ls at hl ⊢
  have hl : lv_has ls 3 [(0, .ref h_t), (1, .int p1), (2, .int p2)] := hl
  refine lv_aload_n hx hb d_Header_addItem_0 rfl (lv_at hl 0 rfl) ?_
  refine va_get (D := (dC, dI)) (ci := 4) (v := .ref h_t_items) (C := R_Header) (T := F_Header) (N := 8) hx hb ht in_Header hown hK hP 0 rfl rfl 3 (by decide) (ht _ k_191) (fun _ h9 => h9) rfl d_Header_addItem_1 ?_
  refine lv_aload_n hx hb d_Header_addItem_4 rfl (lv_at hl 0 rfl) ?_
  refine va_get (D := (dC, dI)) (ci := 4) (v := .int v_t_itemCount) (C := R_Header) (T := F_Header) (N := 8) hx hb ht in_Header hown hK hP 0 rfl rfl 4 (by decide) (ht _ k_192) (fun _ h9 => h9) rfl d_Header_addItem_5 ?_
  refine lv_iload_n hx hb d_Header_addItem_8 rfl (lv_at hl 2 rfl) ?_
  refine lv_iconst (v := (5 : Int32)) hx hb d_Header_addItem_9 (by decide) ?_
  refine lv_ishl hx hb d_Header_addItem_10 ?_
  refine lv_iload_n hx hb d_Header_addItem_11 rfl (lv_at hl 1 rfl) ?_
  refine lv_ior hx hb d_Header_addItem_12 ?_
  obtain ⟨g1, h⟩ := gd h
  refine va_iast hx hb hK hP hD hS 1 1 rfl rfl g1 d_Header_addItem_13 (fun H locs hP hD hS => ?_)
  have hP : va_P (dC, dI) vwCl [(h_t, .inr (4, [.ref h_t_code, .ref h_t_counts, .ref h_t_lengths, .ref h_t_items, .int v_t_itemCount, .int v_t_symbols, .int v_t_distances, .int v_t_codes])), (h_t_items, .inl (cI, 316, .inl (upd f_t_items v_t_itemCount.toNatClampNeg ((p2 <<< ((5 : Int32) &&& 31)) ||| p1)))), (h_t_counts, .inl (cI, 19, .inl f_t_counts))] H := hP
  have hD : va_D A [(h_t, .inr (4, [.ref h_t_code, .ref h_t_counts, .ref h_t_lengths, .ref h_t_items, .int v_t_itemCount, .int v_t_symbols, .int v_t_distances, .int v_t_codes])), (h_t_items, .inl (cI, 316, .inl (upd f_t_items v_t_itemCount.toNatClampNeg ((p2 <<< ((5 : Int32) &&& 31)) ||| p1)))), (h_t_counts, .inl (cI, 19, .inl f_t_counts))] := hD
  refine lv_aload_n hx hb d_Header_addItem_14 rfl (lv_at hl 0 rfl) ?_
  refine lv_dup hx hb d_Header_addItem_15 rfl ?_
  refine va_get (D := (dC, dI)) (ci := 4) (v := .int v_t_itemCount) (C := R_Header) (T := F_Header) (N := 8) hx hb ht in_Header hown hK hP 0 rfl rfl 4 (by decide) (ht _ k_192) (fun _ h9 => h9) rfl d_Header_addItem_16 ?_
  refine lv_iconst (v := (1 : Int32)) hx hb d_Header_addItem_19 (by decide) ?_
  refine lv_iadd hx hb d_Header_addItem_20 ?_
  refine va_put (D := (dC, dI)) (ci := 4) (v := .int (v_t_itemCount + (1 : Int32))) (ty := .int) (C := R_Header) (T := F_Header) (N := 8) hx hb ht in_Header t_Header t_Header_ok n_Header hown hK hP hD hS 0 rfl rfl 4 (by decide) (ht _ k_192) (fun _ h9 => h9) rfl (by decide +kernel) rfl rfl (Nat.le_of_ble_eq_true rfl) d_Header_addItem_21 (fun H locs hP hD hS => ?_)
  have hP : va_P (dC, dI) vwCl [(h_t, .inr (4, [.ref h_t_code, .ref h_t_counts, .ref h_t_lengths, .ref h_t_items, .int (v_t_itemCount + (1 : Int32)), .int v_t_symbols, .int v_t_distances, .int v_t_codes])), (h_t_items, .inl (cI, 316, .inl (upd f_t_items v_t_itemCount.toNatClampNeg ((p2 <<< ((5 : Int32) &&& 31)) ||| p1)))), (h_t_counts, .inl (cI, 19, .inl f_t_counts))] H := hP
  have hD : va_D A [(h_t, .inr (4, [.ref h_t_code, .ref h_t_counts, .ref h_t_lengths, .ref h_t_items, .int (v_t_itemCount + (1 : Int32)), .int v_t_symbols, .int v_t_distances, .int v_t_codes])), (h_t_items, .inl (cI, 316, .inl (upd f_t_items v_t_itemCount.toNatClampNeg ((p2 <<< ((5 : Int32) &&& 31)) ||| p1)))), (h_t_counts, .inl (cI, 19, .inl f_t_counts))] := hD
  refine lv_aload_n hx hb d_Header_addItem_24 rfl (lv_at hl 0 rfl) ?_
  refine va_get (D := (dC, dI)) (ci := 4) (v := .ref h_t_counts) (C := R_Header) (T := F_Header) (N := 8) hx hb ht in_Header hown hK hP 0 rfl rfl 1 (by decide) (ht _ k_189) (fun _ h9 => h9) rfl d_Header_addItem_25 ?_
  refine lv_iload_n hx hb d_Header_addItem_28 rfl (lv_at hl 1 rfl) ?_
  refine lv_dup2_11 hx hb d_Header_addItem_29 rfl rfl ?_
  obtain ⟨g2, h⟩ := gd h
  refine va_iald hx hb hK hP 2 1 rfl rfl g2 d_Header_addItem_30 ?_
  refine lv_iconst (v := (1 : Int32)) hx hb d_Header_addItem_31 (by decide) ?_
  refine lv_iadd hx hb d_Header_addItem_32 ?_
  obtain ⟨g3, h⟩ := gd h
  refine va_iast hx hb hK hP hD hS 2 1 rfl rfl g3 d_Header_addItem_33 (fun H locs hP hD hS => ?_)
  have hP : va_P (dC, dI) vwCl [(h_t, .inr (4, [.ref h_t_code, .ref h_t_counts, .ref h_t_lengths, .ref h_t_items, .int (v_t_itemCount + (1 : Int32)), .int v_t_symbols, .int v_t_distances, .int v_t_codes])), (h_t_items, .inl (cI, 316, .inl (upd f_t_items v_t_itemCount.toNatClampNeg ((p2 <<< ((5 : Int32) &&& 31)) ||| p1)))), (h_t_counts, .inl (cI, 19, .inl (upd f_t_counts p1.toNatClampNeg ((f_t_counts p1.toNatClampNeg) + (1 : Int32)))))] H := hP
  have hD : va_D A [(h_t, .inr (4, [.ref h_t_code, .ref h_t_counts, .ref h_t_lengths, .ref h_t_items, .int (v_t_itemCount + (1 : Int32)), .int v_t_symbols, .int v_t_distances, .int v_t_codes])), (h_t_items, .inl (cI, 316, .inl (upd f_t_items v_t_itemCount.toNatClampNeg ((p2 <<< ((5 : Int32) &&& 31)) ||| p1)))), (h_t_counts, .inl (cI, 19, .inl (upd f_t_counts p1.toNatClampNeg ((f_t_counts p1.toNatClampNeg) + (1 : Int32)))))] := hD
  obtain rfl := Option.some.inj h
  exact W.vret hx hb hr (fun t ht hW => ⟨⟨(), rfl, trivial, by rw [ht]; exact hP, va_K.moved hW.alike hK, hD⟩, hS.F ht⟩) hS.2.2 d_Header_addItem_34
/-! PackedBytes$Header.listItems(I)V -/
def fHeader_listItems_15 (N : Nat) (x1 : Int32) (f_t_lengths : Nat → Int32) : Nat → (Int32) → (Int32) → (Nat → Int32) → (Nat → Int32) → Option (Int32 × (Nat → Int32) × (Nat → Int32))
  | 0, _, _, _, _ => none
  | k + 1, x2, v_t_itemCount, f_t_counts, f_t_items =>
    if x1 ≤ x2 then
      some (v_t_itemCount, f_t_counts, f_t_items)
    else
      (fHeader_run N (0 : Int32) x2 (if (x2 + (138 : Int32)) < x1 then (x2 + (138 : Int32)) else x1) f_t_lengths).bind (fun y3 =>
        if x2 ≤ 0 then
          if y3 < (11 : Int32) then
            if y3 < (3 : Int32) then
              if (0 : Int32) < (3 : Int32) then
                if ¬ (x2 < 0 ∨ 316 ≤ x2.toNatClampNeg) then
                  (fHeader_addItem N (f_t_lengths x2.toNatClampNeg) (0 : Int32) v_t_itemCount f_t_items f_t_counts).bind (fun y12 =>
                    fHeader_listItems_15 N x1 f_t_lengths k (x2 + (1 : Int32)) y12.1 y12.2.2 y12.2.1)
                else none
              else
                (fHeader_addItem N (16 : Int32) ((0 : Int32) - (3 : Int32)) v_t_itemCount f_t_items f_t_counts).bind (fun y13 =>
                  fHeader_listItems_15 N x1 f_t_lengths k (x2 + (0 : Int32)) y13.1 y13.2.2 y13.2.1)
            else
              (fHeader_addItem N (17 : Int32) (y3 - (3 : Int32)) v_t_itemCount f_t_items f_t_counts).bind (fun y14 =>
                fHeader_listItems_15 N x1 f_t_lengths k (x2 + y3) y14.1 y14.2.2 y14.2.1)
          else
            (fHeader_addItem N (18 : Int32) (y3 - (11 : Int32)) v_t_itemCount f_t_items f_t_counts).bind (fun y15 =>
              fHeader_listItems_15 N x1 f_t_lengths k (x2 + y3) y15.1 y15.2.2 y15.2.1)
        else
          if ¬ ((x2 - (1 : Int32)) < 0 ∨ 316 ≤ (x2 - (1 : Int32)).toNatClampNeg) then
            (fHeader_run N (f_t_lengths (x2 - (1 : Int32)).toNatClampNeg) x2 (if (x2 + (6 : Int32)) < x1 then (x2 + (6 : Int32)) else x1) f_t_lengths).bind (fun y17 =>
              if y3 < (11 : Int32) then
                if y3 < (3 : Int32) then
                  if y17 < (3 : Int32) then
                    if ¬ (x2 < 0 ∨ 316 ≤ x2.toNatClampNeg) then
                      (fHeader_addItem N (f_t_lengths x2.toNatClampNeg) (0 : Int32) v_t_itemCount f_t_items f_t_counts).bind (fun y25 =>
                        fHeader_listItems_15 N x1 f_t_lengths k (x2 + (1 : Int32)) y25.1 y25.2.2 y25.2.1)
                    else none
                  else
                    (fHeader_addItem N (16 : Int32) (y17 - (3 : Int32)) v_t_itemCount f_t_items f_t_counts).bind (fun y26 =>
                      fHeader_listItems_15 N x1 f_t_lengths k (x2 + y17) y26.1 y26.2.2 y26.2.1)
                else
                  (fHeader_addItem N (17 : Int32) (y3 - (3 : Int32)) v_t_itemCount f_t_items f_t_counts).bind (fun y27 =>
                    fHeader_listItems_15 N x1 f_t_lengths k (x2 + y3) y27.1 y27.2.2 y27.2.1)
              else
                (fHeader_addItem N (18 : Int32) (y3 - (11 : Int32)) v_t_itemCount f_t_items f_t_counts).bind (fun y28 =>
                  fHeader_listItems_15 N x1 f_t_lengths k (x2 + y3) y28.1 y28.2.2 y28.2.1))
          else none)
def fHeader_listItems (N : Nat) (p1 : Int32) (f_t_counts : Nat → Int32) (f_t_lengths : Nat → Int32) (f_t_items : Nat → Int32) : Option (Int32 × (Nat → Int32) × (Nat → Int32)) :=
    (fJA_fill N (0 : Int32) 19 f_t_counts).bind (fun y1 =>
      (fHeader_listItems_15 N p1 f_t_lengths N (0 : Int32) (0 : Int32) y1 f_t_items).bind (fun y29 =>
        some (y29.1, y29.2.1, y29.2.2)))
set_option maxHeartbeats 4000000 in
set_option maxRecDepth 100000 in
theorem wHeader_listItems_15 {p : Program} {l : Launch} {e : Env} {s : State} {m : MethodId} {args : Array Value} {below : List Frame} {meth : Method} {c : Code} {Q : State → Prop} {A : Nat → Prop} {dC : Nat → ClassId} {dI : Nat → Nat → Nat} (h_t h_t_code h_t_counts h_t_lengths h_t_items : Nat) (cB cI cJ : ClassId) (N : Nat) (v_t_symbols : Int32) (v_t_distances : Int32) (v_t_codes : Int32) (f_t_lengths : Nat → Int32) (x1 : Int32) (C : CX p s m args c b_Header_listItems 5 R_Header A (dC, dI) [(cB, .byte), (cI, .int), (cJ, .long)]) :
    ∀ (n : Nat) (x2 : Int32) (v_t_itemCount : Int32) (f_t_counts : Nat → Int32) (f_t_items : Nat → Int32) (H : Heap) (locs : List Loc) (ls : Array Slot) (o : Int32 × (Nat → Int32) × (Nat → Int32)), va_P (dC, dI) vwCl [(h_t, .inr (4, [.ref h_t_code, .ref h_t_counts, .ref h_t_lengths, .ref h_t_items, .int v_t_itemCount, .int v_t_symbols, .int v_t_distances, .int v_t_codes])), (h_t_counts, .inl (cI, 19, .inl f_t_counts)), (h_t_lengths, .inl (cI, 316, .inl f_t_lengths)), (h_t_items, .inl (cI, 316, .inl f_t_items))] H → va_D A [(h_t, .inr (4, [.ref h_t_code, .ref h_t_counts, .ref h_t_lengths, .ref h_t_items, .int v_t_itemCount, .int v_t_symbols, .int v_t_distances, .int v_t_codes])), (h_t_counts, .inl (cI, 19, .inl f_t_counts)), (h_t_lengths, .inl (cI, 316, .inl f_t_lengths)), (h_t_items, .inl (cI, 316, .inl f_t_items))] → va_S A s.heap H locs → lv_has ls 5 [(0, .ref h_t), (1, .int x1), (2, .int x2)] → fHeader_listItems_15 N x1 f_t_lengths n x2 v_t_itemCount f_t_counts f_t_items = some o → (∀ (H : Heap) (locs : List Loc) (ls : Array Slot), va_P (dC, dI) vwCl [(h_t, .inr (4, [.ref h_t_code, .ref h_t_counts, .ref h_t_lengths, .ref h_t_items, .int o.1, .int v_t_symbols, .int v_t_distances, .int v_t_codes])), (h_t_counts, .inl (cI, 19, .inl o.2.1)), (h_t_lengths, .inl (cI, 316, .inl f_t_lengths)), (h_t_items, .inl (cI, 316, .inl o.2.2))] H → va_D A [(h_t, .inr (4, [.ref h_t_code, .ref h_t_counts, .ref h_t_lengths, .ref h_t_items, .int o.1, .int v_t_symbols, .int v_t_distances, .int v_t_codes])), (h_t_counts, .inl (cI, 19, .inl o.2.1)), (h_t_lengths, .inl (cI, 316, .inl f_t_lengths)), (h_t_items, .inl (cI, 316, .inl o.2.2))] → va_S A s.heap H locs → lv_has ls 5 [] → W p l e ({ frames := 1, cells := 0, slots := 0, locals := 24 } : Room) s m args below meth c H locs 0 0 Q (F0 m 152 ls [])) → W p l e ({ frames := 1, cells := 0, slots := 0, locals := 24 } : Room) s m args below meth c H locs 0 0 Q (F0 m 15 ls []) := by
  obtain ⟨hx, hb, hml, hown, ht, hA, hK, hN⟩ := id C
  intro n
  induction n with
  | zero => intro x2 v_t_itemCount f_t_counts f_t_items H locs ls o _ _ _ _ h; exact nomatch h
  | succ k ih =>
    intro x2 v_t_itemCount f_t_counts f_t_items H locs ls o hP hD hS hl h kx
    refine lv_iload_n hx hb d_Header_listItems_15 rfl (lv_at hl 2 rfl) ?_
    refine lv_iload_n hx hb d_Header_listItems_16 rfl (lv_at hl 1 rfl) ?_
    refine lv_icmp_ge (tgt := 152) hx hb d_Header_listItems_17 (by decide) (fun c2 => ?_) (fun c2 => ?_)
    · replace h := ip_p c2 h
      obtain rfl := Option.some.inj h
      exact kx _ _ _ hP hD hS (lv_sub hl [] rfl)
    · replace h := ip_n c2 h
      refine lv_aload_n hx hb d_Header_listItems_20 rfl (lv_at hl 0 rfl) ?_
      refine lv_iconst (v := (0 : Int32)) hx hb d_Header_listItems_21 (by decide) ?_
      refine lv_iload_n hx hb d_Header_listItems_22 rfl (lv_at hl 2 rfl) ?_
      refine lv_iload_n hx hb d_Header_listItems_23 rfl (lv_at hl 1 rfl) ?_
      refine lv_iload_n hx hb d_Header_listItems_24 rfl (lv_at hl 2 rfl) ?_
      refine lv_sipush (v := (138 : Int32)) hx hb d_Header_listItems_25 (by decide) ?_
      refine lv_iadd hx hb d_Header_listItems_28 ?_
      refine va_mmin hx hb (hml.trans hl.1.symm) hown (ht _ k_551) (ht _ k_461) (ht _ k_83) (ht _ k_462) (Nat.le_of_ble_eq_true rfl) (Nat.le_of_ble_eq_true rfl) (Nat.le_of_ble_eq_true rfl) (Nat.le_of_ble_eq_true rfl) d_Header_listItems_29 ?_
      obtain ⟨y3, hy3, h⟩ := bd h
      have hPc := hP.sub (ws' := [(h_t, .inr (4, [.ref h_t_code, .ref h_t_counts, .ref h_t_lengths, .ref h_t_items, .int v_t_itemCount, .int v_t_symbols, .int v_t_distances, .int v_t_codes])), (h_t_lengths, .inl (cI, 316, .inl f_t_lengths))]) [0, 2] rfl
      have hDc := hD.sub (ws' := [(h_t, .inr (4, [.ref h_t_code, .ref h_t_counts, .ref h_t_lengths, .ref h_t_items, .int v_t_itemCount, .int v_t_symbols, .int v_t_distances, .int v_t_codes])), (h_t_lengths, .inl (cI, 316, .inl f_t_lengths))]) [0, 2] (by decide) rfl
      have hFc := va_free (wc := [(h_t, .inr (4, [.ref h_t_code, .ref h_t_counts, .ref h_t_lengths, .ref h_t_items, .int v_t_itemCount, .int v_t_symbols, .int v_t_distances, .int v_t_codes])), (h_t_lengths, .inl (cI, 316, .inl f_t_lengths))]) hD hS hA [0, 2] rfl
      refine va_calli (va_runV (As := [.int (0 : Int32), .int x2, .int (if (x2 + (138 : Int32)) < x1 then (x2 + (138 : Int32)) else x1)]) (rest := []) ⟨hx, hb, hml, hown, ht⟩ (cHeader_run l dC dI h_t h_t_code h_t_counts h_t_lengths h_t_items cB cI cJ _ N (0 : Int32) x2 (if (x2 + (138 : Int32)) < x1 then (x2 + (138 : Int32)) else x1) v_t_itemCount v_t_symbols v_t_distances v_t_codes f_t_lengths y3 hy3) (⟨callB_of 3 ht (gTB (k_555)) rfl rfl rfl (ht _ k_69) (ht _ k_552) (by decide +kernel) ⟨Nat.le_of_ble_eq_true rfl, Nat.le_of_ble_eq_true rfl⟩, ht _ k_554, ht _ k_14⟩) ⟨fun a U g mk q => by obtain ⟨q0, q1, qP, qK, qD, qN⟩ := q; exact ⟨q0, q1, qP, va_K.moved (u := U) (U := U.calling g mk a) (Vm.Alike.refl U.vm) qK, qD, NW_same (u := U) rfl qN⟩, va_recv hK hPc (ci := 4) (q0 := 0) rfl rfl, fun U hU hW => ⟨rfl, by rw [hU], by rw [hU]; exact hPc, va_K.moved hW.alike hK, hDc.weaken (fun _ _ _ _ => trivial), NW_warm hW hN⟩⟩ rfl rfl hl.1 rfl (lv_room (Nat.le_of_ble_eq_true rfl)) d_Header_listItems_32 ⟨Nat.le_of_ble_eq_true rfl, Nat.le_of_ble_eq_true rfl⟩) hS (fun q _ h => hFc q h) hFc (fun ry3 u t H1 locs htH hvm hw hB hz1 hk1 hS => ?_)
      obtain ⟨hP1, hK1, hD1⟩ := hB
      rw [htH] at hP1
      obtain ⟨hP, hD⟩ := va_join (wr := [(h_t_counts, .inl (cI, 19, .inl f_t_counts)), (h_t_items, .inl (cI, 316, .inl f_t_items))]) (w1 := [(h_t, .inr (4, [.ref h_t_code, .ref h_t_counts, .ref h_t_lengths, .ref h_t_items, .int v_t_itemCount, .int v_t_symbols, .int v_t_distances, .int v_t_codes])), (h_t_lengths, .inl (cI, 316, .inl f_t_lengths))]) hP hD [0, 2] [1, 3] rfl rfl (by decide) (by decide) hk1 hFc hP1 hD1
      generalize H1 = H at hP hS ⊢
      have hP : va_P (dC, dI) vwCl [(h_t, .inr (4, [.ref h_t_code, .ref h_t_counts, .ref h_t_lengths, .ref h_t_items, .int v_t_itemCount, .int v_t_symbols, .int v_t_distances, .int v_t_codes])), (h_t_counts, .inl (cI, 19, .inl f_t_counts)), (h_t_lengths, .inl (cI, 316, .inl f_t_lengths)), (h_t_items, .inl (cI, 316, .inl f_t_items))] H := hP.sub [2, 0, 3, 1] rfl
      have hD : va_D A [(h_t, .inr (4, [.ref h_t_code, .ref h_t_counts, .ref h_t_lengths, .ref h_t_items, .int v_t_itemCount, .int v_t_symbols, .int v_t_distances, .int v_t_codes])), (h_t_counts, .inl (cI, 19, .inl f_t_counts)), (h_t_lengths, .inl (cI, 316, .inl f_t_lengths)), (h_t_items, .inl (cI, 316, .inl f_t_items))] := hD.sub [2, 0, 3, 1] (by decide) rfl
      replace hw := hw.symm
      subst hw
      refine lv_istore_n (lv' := [(3, .int y3), (0, .ref h_t), (1, .int x1), (2, .int x2)]) hx hb d_Header_listItems_35 rfl hl (by decide) rfl (fun ls hl => ?_)
      refine lv_iload_n hx hb d_Header_listItems_36 rfl (lv_at hl 3 rfl) ?_
      refine lv_if_le (tgt := 64) hx hb d_Header_listItems_37 (by decide) (fun c4 => ?_) (fun c4 => ?_)
      · replace h := ip_p c4 h
        refine lv_iconst (v := (0 : Int32)) hx hb d_Header_listItems_64 (by decide) ?_
        refine lv_istore (lv' := [(4, .int (0 : Int32)), (3, .int y3), (0, .ref h_t), (1, .int x1), (2, .int x2)]) hx hb d_Header_listItems_65 hl (by decide) rfl (fun ls hl => ?_)
        refine lv_iload_n hx hb d_Header_listItems_67 rfl (lv_at hl 1 rfl) ?_
        refine lv_bipush (v := (11 : Int32)) hx hb d_Header_listItems_68 (by decide) ?_
        refine lv_icmp_lt (tgt := 90) hx hb d_Header_listItems_70 (by decide) (fun c5 => ?_) (fun c5 => ?_)
        · replace h := ip_p c5 h
          refine lv_iload_n hx hb d_Header_listItems_90 rfl (lv_at hl 1 rfl) ?_
          refine lv_iconst (v := (3 : Int32)) hx hb d_Header_listItems_91 (by decide) ?_
          refine lv_icmp_lt (tgt := 111) hx hb d_Header_listItems_92 (by decide) (fun c8 => ?_) (fun c8 => ?_)
          · replace h := ip_p c8 h
            refine lv_iload hx hb d_Header_listItems_111 (lv_at hl 0 rfl) ?_
            refine lv_iconst (v := (3 : Int32)) hx hb d_Header_listItems_113 (by decide) ?_
            refine lv_icmp_lt (tgt := 135) hx hb d_Header_listItems_114 (by decide) (fun c10 => ?_) (fun c10 => ?_)
            · replace h := ip_p c10 h
              refine lv_aload_n hx hb d_Header_listItems_135 rfl (lv_at hl 2 rfl) ?_
              refine lv_aload_n hx hb d_Header_listItems_136 rfl (lv_at hl 2 rfl) ?_
              refine va_get (D := (dC, dI)) (ci := 4) (v := .ref h_t_lengths) (C := R_Header) (T := F_Header) (N := 8) hx hb ht in_Header hown hK hP 0 rfl rfl 2 (by decide) (ht _ k_190) (fun _ h9 => h9) rfl d_Header_listItems_137 ?_
              refine lv_iload_n hx hb d_Header_listItems_140 rfl (lv_at hl 4 rfl) ?_
              obtain ⟨g11, h⟩ := gd h
              refine va_iald hx hb hK hP 2 1 rfl rfl g11 d_Header_listItems_141 ?_
              refine lv_iconst (v := (0 : Int32)) hx hb d_Header_listItems_142 (by decide) ?_
              obtain ⟨y12, hy12, h⟩ := bd h
              have hPc := hP.sub (ws' := [(h_t, .inr (4, [.ref h_t_code, .ref h_t_counts, .ref h_t_lengths, .ref h_t_items, .int v_t_itemCount, .int v_t_symbols, .int v_t_distances, .int v_t_codes])), (h_t_items, .inl (cI, 316, .inl f_t_items)), (h_t_counts, .inl (cI, 19, .inl f_t_counts))]) [0, 3, 1] rfl
              have hDc := hD.sub (ws' := [(h_t, .inr (4, [.ref h_t_code, .ref h_t_counts, .ref h_t_lengths, .ref h_t_items, .int v_t_itemCount, .int v_t_symbols, .int v_t_distances, .int v_t_codes])), (h_t_items, .inl (cI, 316, .inl f_t_items)), (h_t_counts, .inl (cI, 19, .inl f_t_counts))]) [0, 3, 1] (by decide) rfl
              have hFc := va_free (wc := [(h_t, .inr (4, [.ref h_t_code, .ref h_t_counts, .ref h_t_lengths, .ref h_t_items, .int v_t_itemCount, .int v_t_symbols, .int v_t_distances, .int v_t_codes])), (h_t_items, .inl (cI, 316, .inl f_t_items)), (h_t_counts, .inl (cI, 19, .inl f_t_counts))]) hD hS hA [0, 3, 1] rfl
              refine va_callv (va_runV (As := [.int (f_t_lengths x2.toNatClampNeg), .int (0 : Int32)]) (rest := []) ⟨hx, hb, hml, hown, ht⟩ (cHeader_addItem l dC dI h_t h_t_code h_t_counts h_t_lengths h_t_items cB cI cJ _ N (f_t_lengths x2.toNatClampNeg) (0 : Int32) v_t_itemCount v_t_symbols v_t_distances v_t_codes f_t_items f_t_counts y12 hy12) (⟨callB_of 2 ht (gTB (k_559)) rfl rfl rfl (ht _ k_69) (ht _ k_556) (by decide +kernel) ⟨Nat.le_of_ble_eq_true rfl, Nat.le_of_ble_eq_true rfl⟩, ht _ k_558, ht _ k_15⟩) ⟨fun a U g mk q => by obtain ⟨q0, q1, qP, qK, qD, qN⟩ := q; exact ⟨q0, q1, qP, va_K.moved (u := U) (U := U.calling g mk a) (Vm.Alike.refl U.vm) qK, qD, NW_same (u := U) rfl qN⟩, va_recv hK hPc (ci := 4) (q0 := 0) rfl rfl, fun U hU hW => ⟨rfl, by rw [hU], by rw [hU]; exact hPc, va_K.moved hW.alike hK, hDc.weaken (fun _ _ _ _ => trivial), NW_warm hW hN⟩⟩ rfl rfl hl.1 rfl (lv_room (Nat.le_of_ble_eq_true rfl)) d_Header_listItems_143 ⟨Nat.le_of_ble_eq_true rfl, Nat.le_of_ble_eq_true rfl⟩) hS (fun q _ h => hFc q h) hFc (fun u t H1 locs htH hvm hw hB hz1 hk1 hS => ?_)
              obtain ⟨hP1, hK1, hD1⟩ := hB
              rw [htH] at hP1
              obtain ⟨hP, hD⟩ := va_join (wr := [(h_t_lengths, .inl (cI, 316, .inl f_t_lengths))]) (w1 := [(h_t, .inr (4, [.ref h_t_code, .ref h_t_counts, .ref h_t_lengths, .ref h_t_items, .int y12.1, .int v_t_symbols, .int v_t_distances, .int v_t_codes])), (h_t_items, .inl (cI, 316, .inl y12.2.1)), (h_t_counts, .inl (cI, 19, .inl y12.2.2))]) hP hD [0, 3, 1] [2] rfl rfl (by decide) (by decide) hk1 hFc hP1 hD1
              generalize H1 = H at hP hS ⊢
              have hP : va_P (dC, dI) vwCl [(h_t, .inr (4, [.ref h_t_code, .ref h_t_counts, .ref h_t_lengths, .ref h_t_items, .int y12.1, .int v_t_symbols, .int v_t_distances, .int v_t_codes])), (h_t_counts, .inl (cI, 19, .inl y12.2.2)), (h_t_lengths, .inl (cI, 316, .inl f_t_lengths)), (h_t_items, .inl (cI, 316, .inl y12.2.1))] H := hP.sub [1, 3, 0, 2] rfl
              have hD : va_D A [(h_t, .inr (4, [.ref h_t_code, .ref h_t_counts, .ref h_t_lengths, .ref h_t_items, .int y12.1, .int v_t_symbols, .int v_t_distances, .int v_t_codes])), (h_t_counts, .inl (cI, 19, .inl y12.2.2)), (h_t_lengths, .inl (cI, 316, .inl f_t_lengths)), (h_t_items, .inl (cI, 316, .inl y12.2.1))] := hD.sub [1, 3, 0, 2] (by decide) rfl
              refine lv_iinc (v := x2 + (1 : Int32)) (lv' := [(2, .int (x2 + (1 : Int32))), (4, .int (0 : Int32)), (3, .int y3), (0, .ref h_t), (1, .int x1)]) hx hb d_Header_listItems_146 hl (k := 4) rfl rfl (by decide) rfl (fun ls hl => ?_)
              refine lv_goto (tgt := 15) hx hb d_Header_listItems_149 (by decide) ?_
              exact ih (x2 + (1 : Int32)) y12.1 y12.2.2 y12.2.1 _ _ _ _ hP hD hS (lv_sub hl [3, 4, 0] rfl) h kx
            · replace h := ip_n c10 h
              refine lv_aload_n hx hb d_Header_listItems_117 rfl (lv_at hl 2 rfl) ?_
              refine lv_bipush (v := (16 : Int32)) hx hb d_Header_listItems_118 (by decide) ?_
              refine lv_iload hx hb d_Header_listItems_120 (lv_at hl 0 rfl) ?_
              refine lv_iconst (v := (3 : Int32)) hx hb d_Header_listItems_122 (by decide) ?_
              refine lv_isub hx hb d_Header_listItems_123 ?_
              obtain ⟨y13, hy13, h⟩ := bd h
              have hPc := hP.sub (ws' := [(h_t, .inr (4, [.ref h_t_code, .ref h_t_counts, .ref h_t_lengths, .ref h_t_items, .int v_t_itemCount, .int v_t_symbols, .int v_t_distances, .int v_t_codes])), (h_t_items, .inl (cI, 316, .inl f_t_items)), (h_t_counts, .inl (cI, 19, .inl f_t_counts))]) [0, 3, 1] rfl
              have hDc := hD.sub (ws' := [(h_t, .inr (4, [.ref h_t_code, .ref h_t_counts, .ref h_t_lengths, .ref h_t_items, .int v_t_itemCount, .int v_t_symbols, .int v_t_distances, .int v_t_codes])), (h_t_items, .inl (cI, 316, .inl f_t_items)), (h_t_counts, .inl (cI, 19, .inl f_t_counts))]) [0, 3, 1] (by decide) rfl
              have hFc := va_free (wc := [(h_t, .inr (4, [.ref h_t_code, .ref h_t_counts, .ref h_t_lengths, .ref h_t_items, .int v_t_itemCount, .int v_t_symbols, .int v_t_distances, .int v_t_codes])), (h_t_items, .inl (cI, 316, .inl f_t_items)), (h_t_counts, .inl (cI, 19, .inl f_t_counts))]) hD hS hA [0, 3, 1] rfl
              refine va_callv (va_runV (As := [.int (16 : Int32), .int ((0 : Int32) - (3 : Int32))]) (rest := []) ⟨hx, hb, hml, hown, ht⟩ (cHeader_addItem l dC dI h_t h_t_code h_t_counts h_t_lengths h_t_items cB cI cJ _ N (16 : Int32) ((0 : Int32) - (3 : Int32)) v_t_itemCount v_t_symbols v_t_distances v_t_codes f_t_items f_t_counts y13 hy13) (⟨callB_of 2 ht (gTB (k_559)) rfl rfl rfl (ht _ k_69) (ht _ k_556) (by decide +kernel) ⟨Nat.le_of_ble_eq_true rfl, Nat.le_of_ble_eq_true rfl⟩, ht _ k_558, ht _ k_15⟩) ⟨fun a U g mk q => by obtain ⟨q0, q1, qP, qK, qD, qN⟩ := q; exact ⟨q0, q1, qP, va_K.moved (u := U) (U := U.calling g mk a) (Vm.Alike.refl U.vm) qK, qD, NW_same (u := U) rfl qN⟩, va_recv hK hPc (ci := 4) (q0 := 0) rfl rfl, fun U hU hW => ⟨rfl, by rw [hU], by rw [hU]; exact hPc, va_K.moved hW.alike hK, hDc.weaken (fun _ _ _ _ => trivial), NW_warm hW hN⟩⟩ rfl rfl hl.1 rfl (lv_room (Nat.le_of_ble_eq_true rfl)) d_Header_listItems_124 ⟨Nat.le_of_ble_eq_true rfl, Nat.le_of_ble_eq_true rfl⟩) hS (fun q _ h => hFc q h) hFc (fun u t H1 locs htH hvm hw hB hz1 hk1 hS => ?_)
              obtain ⟨hP1, hK1, hD1⟩ := hB
              rw [htH] at hP1
              obtain ⟨hP, hD⟩ := va_join (wr := [(h_t_lengths, .inl (cI, 316, .inl f_t_lengths))]) (w1 := [(h_t, .inr (4, [.ref h_t_code, .ref h_t_counts, .ref h_t_lengths, .ref h_t_items, .int y13.1, .int v_t_symbols, .int v_t_distances, .int v_t_codes])), (h_t_items, .inl (cI, 316, .inl y13.2.1)), (h_t_counts, .inl (cI, 19, .inl y13.2.2))]) hP hD [0, 3, 1] [2] rfl rfl (by decide) (by decide) hk1 hFc hP1 hD1
              generalize H1 = H at hP hS ⊢
              have hP : va_P (dC, dI) vwCl [(h_t, .inr (4, [.ref h_t_code, .ref h_t_counts, .ref h_t_lengths, .ref h_t_items, .int y13.1, .int v_t_symbols, .int v_t_distances, .int v_t_codes])), (h_t_counts, .inl (cI, 19, .inl y13.2.2)), (h_t_lengths, .inl (cI, 316, .inl f_t_lengths)), (h_t_items, .inl (cI, 316, .inl y13.2.1))] H := hP.sub [1, 3, 0, 2] rfl
              have hD : va_D A [(h_t, .inr (4, [.ref h_t_code, .ref h_t_counts, .ref h_t_lengths, .ref h_t_items, .int y13.1, .int v_t_symbols, .int v_t_distances, .int v_t_codes])), (h_t_counts, .inl (cI, 19, .inl y13.2.2)), (h_t_lengths, .inl (cI, 316, .inl f_t_lengths)), (h_t_items, .inl (cI, 316, .inl y13.2.1))] := hD.sub [1, 3, 0, 2] (by decide) rfl
              refine lv_iload_n hx hb d_Header_listItems_127 rfl (lv_at hl 4 rfl) ?_
              refine lv_iload hx hb d_Header_listItems_128 (lv_at hl 0 rfl) ?_
              refine lv_iadd hx hb d_Header_listItems_130 ?_
              refine lv_istore_n (lv' := [(2, .int (x2 + (0 : Int32))), (4, .int (0 : Int32)), (3, .int y3), (0, .ref h_t), (1, .int x1)]) hx hb d_Header_listItems_131 rfl hl (by decide) rfl (fun ls hl => ?_)
              refine lv_goto (tgt := 149) hx hb d_Header_listItems_132 (by decide) ?_
              refine lv_goto (tgt := 15) hx hb d_Header_listItems_149 (by decide) ?_
              exact ih (x2 + (0 : Int32)) y13.1 y13.2.2 y13.2.1 _ _ _ _ hP hD hS (lv_sub hl [3, 4, 0] rfl) h kx
          · replace h := ip_n c8 h
            refine lv_aload_n hx hb d_Header_listItems_95 rfl (lv_at hl 2 rfl) ?_
            refine lv_bipush (v := (17 : Int32)) hx hb d_Header_listItems_96 (by decide) ?_
            refine lv_iload_n hx hb d_Header_listItems_98 rfl (lv_at hl 1 rfl) ?_
            refine lv_iconst (v := (3 : Int32)) hx hb d_Header_listItems_99 (by decide) ?_
            refine lv_isub hx hb d_Header_listItems_100 ?_
            obtain ⟨y14, hy14, h⟩ := bd h
            have hPc := hP.sub (ws' := [(h_t, .inr (4, [.ref h_t_code, .ref h_t_counts, .ref h_t_lengths, .ref h_t_items, .int v_t_itemCount, .int v_t_symbols, .int v_t_distances, .int v_t_codes])), (h_t_items, .inl (cI, 316, .inl f_t_items)), (h_t_counts, .inl (cI, 19, .inl f_t_counts))]) [0, 3, 1] rfl
            have hDc := hD.sub (ws' := [(h_t, .inr (4, [.ref h_t_code, .ref h_t_counts, .ref h_t_lengths, .ref h_t_items, .int v_t_itemCount, .int v_t_symbols, .int v_t_distances, .int v_t_codes])), (h_t_items, .inl (cI, 316, .inl f_t_items)), (h_t_counts, .inl (cI, 19, .inl f_t_counts))]) [0, 3, 1] (by decide) rfl
            have hFc := va_free (wc := [(h_t, .inr (4, [.ref h_t_code, .ref h_t_counts, .ref h_t_lengths, .ref h_t_items, .int v_t_itemCount, .int v_t_symbols, .int v_t_distances, .int v_t_codes])), (h_t_items, .inl (cI, 316, .inl f_t_items)), (h_t_counts, .inl (cI, 19, .inl f_t_counts))]) hD hS hA [0, 3, 1] rfl
            refine va_callv (va_runV (As := [.int (17 : Int32), .int (y3 - (3 : Int32))]) (rest := []) ⟨hx, hb, hml, hown, ht⟩ (cHeader_addItem l dC dI h_t h_t_code h_t_counts h_t_lengths h_t_items cB cI cJ _ N (17 : Int32) (y3 - (3 : Int32)) v_t_itemCount v_t_symbols v_t_distances v_t_codes f_t_items f_t_counts y14 hy14) (⟨callB_of 2 ht (gTB (k_559)) rfl rfl rfl (ht _ k_69) (ht _ k_556) (by decide +kernel) ⟨Nat.le_of_ble_eq_true rfl, Nat.le_of_ble_eq_true rfl⟩, ht _ k_558, ht _ k_15⟩) ⟨fun a U g mk q => by obtain ⟨q0, q1, qP, qK, qD, qN⟩ := q; exact ⟨q0, q1, qP, va_K.moved (u := U) (U := U.calling g mk a) (Vm.Alike.refl U.vm) qK, qD, NW_same (u := U) rfl qN⟩, va_recv hK hPc (ci := 4) (q0 := 0) rfl rfl, fun U hU hW => ⟨rfl, by rw [hU], by rw [hU]; exact hPc, va_K.moved hW.alike hK, hDc.weaken (fun _ _ _ _ => trivial), NW_warm hW hN⟩⟩ rfl rfl hl.1 rfl (lv_room (Nat.le_of_ble_eq_true rfl)) d_Header_listItems_101 ⟨Nat.le_of_ble_eq_true rfl, Nat.le_of_ble_eq_true rfl⟩) hS (fun q _ h => hFc q h) hFc (fun u t H1 locs htH hvm hw hB hz1 hk1 hS => ?_)
            obtain ⟨hP1, hK1, hD1⟩ := hB
            rw [htH] at hP1
            obtain ⟨hP, hD⟩ := va_join (wr := [(h_t_lengths, .inl (cI, 316, .inl f_t_lengths))]) (w1 := [(h_t, .inr (4, [.ref h_t_code, .ref h_t_counts, .ref h_t_lengths, .ref h_t_items, .int y14.1, .int v_t_symbols, .int v_t_distances, .int v_t_codes])), (h_t_items, .inl (cI, 316, .inl y14.2.1)), (h_t_counts, .inl (cI, 19, .inl y14.2.2))]) hP hD [0, 3, 1] [2] rfl rfl (by decide) (by decide) hk1 hFc hP1 hD1
            generalize H1 = H at hP hS ⊢
            have hP : va_P (dC, dI) vwCl [(h_t, .inr (4, [.ref h_t_code, .ref h_t_counts, .ref h_t_lengths, .ref h_t_items, .int y14.1, .int v_t_symbols, .int v_t_distances, .int v_t_codes])), (h_t_counts, .inl (cI, 19, .inl y14.2.2)), (h_t_lengths, .inl (cI, 316, .inl f_t_lengths)), (h_t_items, .inl (cI, 316, .inl y14.2.1))] H := hP.sub [1, 3, 0, 2] rfl
            have hD : va_D A [(h_t, .inr (4, [.ref h_t_code, .ref h_t_counts, .ref h_t_lengths, .ref h_t_items, .int y14.1, .int v_t_symbols, .int v_t_distances, .int v_t_codes])), (h_t_counts, .inl (cI, 19, .inl y14.2.2)), (h_t_lengths, .inl (cI, 316, .inl f_t_lengths)), (h_t_items, .inl (cI, 316, .inl y14.2.1))] := hD.sub [1, 3, 0, 2] (by decide) rfl
            refine lv_iload_n hx hb d_Header_listItems_104 rfl (lv_at hl 4 rfl) ?_
            refine lv_iload_n hx hb d_Header_listItems_105 rfl (lv_at hl 1 rfl) ?_
            refine lv_iadd hx hb d_Header_listItems_106 ?_
            refine lv_istore_n (lv' := [(2, .int (x2 + y3)), (4, .int (0 : Int32)), (3, .int y3), (0, .ref h_t), (1, .int x1)]) hx hb d_Header_listItems_107 rfl hl (by decide) rfl (fun ls hl => ?_)
            refine lv_goto (tgt := 149) hx hb d_Header_listItems_108 (by decide) ?_
            refine lv_goto (tgt := 15) hx hb d_Header_listItems_149 (by decide) ?_
            exact ih (x2 + y3) y14.1 y14.2.2 y14.2.1 _ _ _ _ hP hD hS (lv_sub hl [3, 4, 0] rfl) h kx
        · replace h := ip_n c5 h
          refine lv_aload_n hx hb d_Header_listItems_73 rfl (lv_at hl 2 rfl) ?_
          refine lv_bipush (v := (18 : Int32)) hx hb d_Header_listItems_74 (by decide) ?_
          refine lv_iload_n hx hb d_Header_listItems_76 rfl (lv_at hl 1 rfl) ?_
          refine lv_bipush (v := (11 : Int32)) hx hb d_Header_listItems_77 (by decide) ?_
          refine lv_isub hx hb d_Header_listItems_79 ?_
          obtain ⟨y15, hy15, h⟩ := bd h
          have hPc := hP.sub (ws' := [(h_t, .inr (4, [.ref h_t_code, .ref h_t_counts, .ref h_t_lengths, .ref h_t_items, .int v_t_itemCount, .int v_t_symbols, .int v_t_distances, .int v_t_codes])), (h_t_items, .inl (cI, 316, .inl f_t_items)), (h_t_counts, .inl (cI, 19, .inl f_t_counts))]) [0, 3, 1] rfl
          have hDc := hD.sub (ws' := [(h_t, .inr (4, [.ref h_t_code, .ref h_t_counts, .ref h_t_lengths, .ref h_t_items, .int v_t_itemCount, .int v_t_symbols, .int v_t_distances, .int v_t_codes])), (h_t_items, .inl (cI, 316, .inl f_t_items)), (h_t_counts, .inl (cI, 19, .inl f_t_counts))]) [0, 3, 1] (by decide) rfl
          have hFc := va_free (wc := [(h_t, .inr (4, [.ref h_t_code, .ref h_t_counts, .ref h_t_lengths, .ref h_t_items, .int v_t_itemCount, .int v_t_symbols, .int v_t_distances, .int v_t_codes])), (h_t_items, .inl (cI, 316, .inl f_t_items)), (h_t_counts, .inl (cI, 19, .inl f_t_counts))]) hD hS hA [0, 3, 1] rfl
          refine va_callv (va_runV (As := [.int (18 : Int32), .int (y3 - (11 : Int32))]) (rest := []) ⟨hx, hb, hml, hown, ht⟩ (cHeader_addItem l dC dI h_t h_t_code h_t_counts h_t_lengths h_t_items cB cI cJ _ N (18 : Int32) (y3 - (11 : Int32)) v_t_itemCount v_t_symbols v_t_distances v_t_codes f_t_items f_t_counts y15 hy15) (⟨callB_of 2 ht (gTB (k_559)) rfl rfl rfl (ht _ k_69) (ht _ k_556) (by decide +kernel) ⟨Nat.le_of_ble_eq_true rfl, Nat.le_of_ble_eq_true rfl⟩, ht _ k_558, ht _ k_15⟩) ⟨fun a U g mk q => by obtain ⟨q0, q1, qP, qK, qD, qN⟩ := q; exact ⟨q0, q1, qP, va_K.moved (u := U) (U := U.calling g mk a) (Vm.Alike.refl U.vm) qK, qD, NW_same (u := U) rfl qN⟩, va_recv hK hPc (ci := 4) (q0 := 0) rfl rfl, fun U hU hW => ⟨rfl, by rw [hU], by rw [hU]; exact hPc, va_K.moved hW.alike hK, hDc.weaken (fun _ _ _ _ => trivial), NW_warm hW hN⟩⟩ rfl rfl hl.1 rfl (lv_room (Nat.le_of_ble_eq_true rfl)) d_Header_listItems_80 ⟨Nat.le_of_ble_eq_true rfl, Nat.le_of_ble_eq_true rfl⟩) hS (fun q _ h => hFc q h) hFc (fun u t H1 locs htH hvm hw hB hz1 hk1 hS => ?_)
          obtain ⟨hP1, hK1, hD1⟩ := hB
          rw [htH] at hP1
          obtain ⟨hP, hD⟩ := va_join (wr := [(h_t_lengths, .inl (cI, 316, .inl f_t_lengths))]) (w1 := [(h_t, .inr (4, [.ref h_t_code, .ref h_t_counts, .ref h_t_lengths, .ref h_t_items, .int y15.1, .int v_t_symbols, .int v_t_distances, .int v_t_codes])), (h_t_items, .inl (cI, 316, .inl y15.2.1)), (h_t_counts, .inl (cI, 19, .inl y15.2.2))]) hP hD [0, 3, 1] [2] rfl rfl (by decide) (by decide) hk1 hFc hP1 hD1
          generalize H1 = H at hP hS ⊢
          have hP : va_P (dC, dI) vwCl [(h_t, .inr (4, [.ref h_t_code, .ref h_t_counts, .ref h_t_lengths, .ref h_t_items, .int y15.1, .int v_t_symbols, .int v_t_distances, .int v_t_codes])), (h_t_counts, .inl (cI, 19, .inl y15.2.2)), (h_t_lengths, .inl (cI, 316, .inl f_t_lengths)), (h_t_items, .inl (cI, 316, .inl y15.2.1))] H := hP.sub [1, 3, 0, 2] rfl
          have hD : va_D A [(h_t, .inr (4, [.ref h_t_code, .ref h_t_counts, .ref h_t_lengths, .ref h_t_items, .int y15.1, .int v_t_symbols, .int v_t_distances, .int v_t_codes])), (h_t_counts, .inl (cI, 19, .inl y15.2.2)), (h_t_lengths, .inl (cI, 316, .inl f_t_lengths)), (h_t_items, .inl (cI, 316, .inl y15.2.1))] := hD.sub [1, 3, 0, 2] (by decide) rfl
          refine lv_iload_n hx hb d_Header_listItems_83 rfl (lv_at hl 4 rfl) ?_
          refine lv_iload_n hx hb d_Header_listItems_84 rfl (lv_at hl 1 rfl) ?_
          refine lv_iadd hx hb d_Header_listItems_85 ?_
          refine lv_istore_n (lv' := [(2, .int (x2 + y3)), (4, .int (0 : Int32)), (3, .int y3), (0, .ref h_t), (1, .int x1)]) hx hb d_Header_listItems_86 rfl hl (by decide) rfl (fun ls hl => ?_)
          refine lv_goto (tgt := 149) hx hb d_Header_listItems_87 (by decide) ?_
          refine lv_goto (tgt := 15) hx hb d_Header_listItems_149 (by decide) ?_
          exact ih (x2 + y3) y15.1 y15.2.2 y15.2.1 _ _ _ _ hP hD hS (lv_sub hl [3, 4, 0] rfl) h kx
      · replace h := ip_n c4 h
        refine lv_aload_n hx hb d_Header_listItems_40 rfl (lv_at hl 1 rfl) ?_
        refine lv_aload_n hx hb d_Header_listItems_41 rfl (lv_at hl 1 rfl) ?_
        refine va_get (D := (dC, dI)) (ci := 4) (v := .ref h_t_lengths) (C := R_Header) (T := F_Header) (N := 8) hx hb ht in_Header hown hK hP 0 rfl rfl 2 (by decide) (ht _ k_190) (fun _ h9 => h9) rfl d_Header_listItems_42 ?_
        refine lv_iload_n hx hb d_Header_listItems_45 rfl (lv_at hl 3 rfl) ?_
        refine lv_iconst (v := (1 : Int32)) hx hb d_Header_listItems_46 (by decide) ?_
        refine lv_isub hx hb d_Header_listItems_47 ?_
        obtain ⟨g16, h⟩ := gd h
        refine va_iald hx hb hK hP 2 1 rfl rfl g16 d_Header_listItems_48 ?_
        refine lv_iload_n hx hb d_Header_listItems_49 rfl (lv_at hl 3 rfl) ?_
        refine lv_iload_n hx hb d_Header_listItems_50 rfl (lv_at hl 2 rfl) ?_
        refine lv_iload_n hx hb d_Header_listItems_51 rfl (lv_at hl 3 rfl) ?_
        refine lv_bipush (v := (6 : Int32)) hx hb d_Header_listItems_52 (by decide) ?_
        refine lv_iadd hx hb d_Header_listItems_54 ?_
        refine va_mmin hx hb (hml.trans hl.1.symm) hown (ht _ k_551) (ht _ k_461) (ht _ k_83) (ht _ k_462) (Nat.le_of_ble_eq_true rfl) (Nat.le_of_ble_eq_true rfl) (Nat.le_of_ble_eq_true rfl) (Nat.le_of_ble_eq_true rfl) d_Header_listItems_55 ?_
        obtain ⟨y17, hy17, h⟩ := bd h
        have hPc := hP.sub (ws' := [(h_t, .inr (4, [.ref h_t_code, .ref h_t_counts, .ref h_t_lengths, .ref h_t_items, .int v_t_itemCount, .int v_t_symbols, .int v_t_distances, .int v_t_codes])), (h_t_lengths, .inl (cI, 316, .inl f_t_lengths))]) [0, 2] rfl
        have hDc := hD.sub (ws' := [(h_t, .inr (4, [.ref h_t_code, .ref h_t_counts, .ref h_t_lengths, .ref h_t_items, .int v_t_itemCount, .int v_t_symbols, .int v_t_distances, .int v_t_codes])), (h_t_lengths, .inl (cI, 316, .inl f_t_lengths))]) [0, 2] (by decide) rfl
        have hFc := va_free (wc := [(h_t, .inr (4, [.ref h_t_code, .ref h_t_counts, .ref h_t_lengths, .ref h_t_items, .int v_t_itemCount, .int v_t_symbols, .int v_t_distances, .int v_t_codes])), (h_t_lengths, .inl (cI, 316, .inl f_t_lengths))]) hD hS hA [0, 2] rfl
        refine va_calli (va_runV (As := [.int (f_t_lengths (x2 - (1 : Int32)).toNatClampNeg), .int x2, .int (if (x2 + (6 : Int32)) < x1 then (x2 + (6 : Int32)) else x1)]) (rest := []) ⟨hx, hb, hml, hown, ht⟩ (cHeader_run l dC dI h_t h_t_code h_t_counts h_t_lengths h_t_items cB cI cJ _ N (f_t_lengths (x2 - (1 : Int32)).toNatClampNeg) x2 (if (x2 + (6 : Int32)) < x1 then (x2 + (6 : Int32)) else x1) v_t_itemCount v_t_symbols v_t_distances v_t_codes f_t_lengths y17 hy17) (⟨callB_of 3 ht (gTB (k_555)) rfl rfl rfl (ht _ k_69) (ht _ k_552) (by decide +kernel) ⟨Nat.le_of_ble_eq_true rfl, Nat.le_of_ble_eq_true rfl⟩, ht _ k_554, ht _ k_14⟩) ⟨fun a U g mk q => by obtain ⟨q0, q1, qP, qK, qD, qN⟩ := q; exact ⟨q0, q1, qP, va_K.moved (u := U) (U := U.calling g mk a) (Vm.Alike.refl U.vm) qK, qD, NW_same (u := U) rfl qN⟩, va_recv hK hPc (ci := 4) (q0 := 0) rfl rfl, fun U hU hW => ⟨rfl, by rw [hU], by rw [hU]; exact hPc, va_K.moved hW.alike hK, hDc.weaken (fun _ _ _ _ => trivial), NW_warm hW hN⟩⟩ rfl rfl hl.1 rfl (lv_room (Nat.le_of_ble_eq_true rfl)) d_Header_listItems_58 ⟨Nat.le_of_ble_eq_true rfl, Nat.le_of_ble_eq_true rfl⟩) hS (fun q _ h => hFc q h) hFc (fun ry17 u t H1 locs htH hvm hw hB hz1 hk1 hS => ?_)
        obtain ⟨hP1, hK1, hD1⟩ := hB
        rw [htH] at hP1
        obtain ⟨hP, hD⟩ := va_join (wr := [(h_t_counts, .inl (cI, 19, .inl f_t_counts)), (h_t_items, .inl (cI, 316, .inl f_t_items))]) (w1 := [(h_t, .inr (4, [.ref h_t_code, .ref h_t_counts, .ref h_t_lengths, .ref h_t_items, .int v_t_itemCount, .int v_t_symbols, .int v_t_distances, .int v_t_codes])), (h_t_lengths, .inl (cI, 316, .inl f_t_lengths))]) hP hD [0, 2] [1, 3] rfl rfl (by decide) (by decide) hk1 hFc hP1 hD1
        generalize H1 = H at hP hS ⊢
        have hP : va_P (dC, dI) vwCl [(h_t, .inr (4, [.ref h_t_code, .ref h_t_counts, .ref h_t_lengths, .ref h_t_items, .int v_t_itemCount, .int v_t_symbols, .int v_t_distances, .int v_t_codes])), (h_t_counts, .inl (cI, 19, .inl f_t_counts)), (h_t_lengths, .inl (cI, 316, .inl f_t_lengths)), (h_t_items, .inl (cI, 316, .inl f_t_items))] H := hP.sub [2, 0, 3, 1] rfl
        have hD : va_D A [(h_t, .inr (4, [.ref h_t_code, .ref h_t_counts, .ref h_t_lengths, .ref h_t_items, .int v_t_itemCount, .int v_t_symbols, .int v_t_distances, .int v_t_codes])), (h_t_counts, .inl (cI, 19, .inl f_t_counts)), (h_t_lengths, .inl (cI, 316, .inl f_t_lengths)), (h_t_items, .inl (cI, 316, .inl f_t_items))] := hD.sub [2, 0, 3, 1] (by decide) rfl
        replace hw := hw.symm
        subst hw
        refine lv_goto (tgt := 65) hx hb d_Header_listItems_61 (by decide) ?_
        refine lv_istore (lv' := [(4, .int y17), (3, .int y3), (0, .ref h_t), (1, .int x1), (2, .int x2)]) hx hb d_Header_listItems_65 hl (by decide) rfl (fun ls hl => ?_)
        refine lv_iload_n hx hb d_Header_listItems_67 rfl (lv_at hl 1 rfl) ?_
        refine lv_bipush (v := (11 : Int32)) hx hb d_Header_listItems_68 (by decide) ?_
        refine lv_icmp_lt (tgt := 90) hx hb d_Header_listItems_70 (by decide) (fun c18 => ?_) (fun c18 => ?_)
        · replace h := ip_p c18 h
          refine lv_iload_n hx hb d_Header_listItems_90 rfl (lv_at hl 1 rfl) ?_
          refine lv_iconst (v := (3 : Int32)) hx hb d_Header_listItems_91 (by decide) ?_
          refine lv_icmp_lt (tgt := 111) hx hb d_Header_listItems_92 (by decide) (fun c21 => ?_) (fun c21 => ?_)
          · replace h := ip_p c21 h
            refine lv_iload hx hb d_Header_listItems_111 (lv_at hl 0 rfl) ?_
            refine lv_iconst (v := (3 : Int32)) hx hb d_Header_listItems_113 (by decide) ?_
            refine lv_icmp_lt (tgt := 135) hx hb d_Header_listItems_114 (by decide) (fun c23 => ?_) (fun c23 => ?_)
            · replace h := ip_p c23 h
              refine lv_aload_n hx hb d_Header_listItems_135 rfl (lv_at hl 2 rfl) ?_
              refine lv_aload_n hx hb d_Header_listItems_136 rfl (lv_at hl 2 rfl) ?_
              refine va_get (D := (dC, dI)) (ci := 4) (v := .ref h_t_lengths) (C := R_Header) (T := F_Header) (N := 8) hx hb ht in_Header hown hK hP 0 rfl rfl 2 (by decide) (ht _ k_190) (fun _ h9 => h9) rfl d_Header_listItems_137 ?_
              refine lv_iload_n hx hb d_Header_listItems_140 rfl (lv_at hl 4 rfl) ?_
              obtain ⟨g24, h⟩ := gd h
              refine va_iald hx hb hK hP 2 1 rfl rfl g24 d_Header_listItems_141 ?_
              refine lv_iconst (v := (0 : Int32)) hx hb d_Header_listItems_142 (by decide) ?_
              obtain ⟨y25, hy25, h⟩ := bd h
              have hPc := hP.sub (ws' := [(h_t, .inr (4, [.ref h_t_code, .ref h_t_counts, .ref h_t_lengths, .ref h_t_items, .int v_t_itemCount, .int v_t_symbols, .int v_t_distances, .int v_t_codes])), (h_t_items, .inl (cI, 316, .inl f_t_items)), (h_t_counts, .inl (cI, 19, .inl f_t_counts))]) [0, 3, 1] rfl
              have hDc := hD.sub (ws' := [(h_t, .inr (4, [.ref h_t_code, .ref h_t_counts, .ref h_t_lengths, .ref h_t_items, .int v_t_itemCount, .int v_t_symbols, .int v_t_distances, .int v_t_codes])), (h_t_items, .inl (cI, 316, .inl f_t_items)), (h_t_counts, .inl (cI, 19, .inl f_t_counts))]) [0, 3, 1] (by decide) rfl
              have hFc := va_free (wc := [(h_t, .inr (4, [.ref h_t_code, .ref h_t_counts, .ref h_t_lengths, .ref h_t_items, .int v_t_itemCount, .int v_t_symbols, .int v_t_distances, .int v_t_codes])), (h_t_items, .inl (cI, 316, .inl f_t_items)), (h_t_counts, .inl (cI, 19, .inl f_t_counts))]) hD hS hA [0, 3, 1] rfl
              refine va_callv (va_runV (As := [.int (f_t_lengths x2.toNatClampNeg), .int (0 : Int32)]) (rest := []) ⟨hx, hb, hml, hown, ht⟩ (cHeader_addItem l dC dI h_t h_t_code h_t_counts h_t_lengths h_t_items cB cI cJ _ N (f_t_lengths x2.toNatClampNeg) (0 : Int32) v_t_itemCount v_t_symbols v_t_distances v_t_codes f_t_items f_t_counts y25 hy25) (⟨callB_of 2 ht (gTB (k_559)) rfl rfl rfl (ht _ k_69) (ht _ k_556) (by decide +kernel) ⟨Nat.le_of_ble_eq_true rfl, Nat.le_of_ble_eq_true rfl⟩, ht _ k_558, ht _ k_15⟩) ⟨fun a U g mk q => by obtain ⟨q0, q1, qP, qK, qD, qN⟩ := q; exact ⟨q0, q1, qP, va_K.moved (u := U) (U := U.calling g mk a) (Vm.Alike.refl U.vm) qK, qD, NW_same (u := U) rfl qN⟩, va_recv hK hPc (ci := 4) (q0 := 0) rfl rfl, fun U hU hW => ⟨rfl, by rw [hU], by rw [hU]; exact hPc, va_K.moved hW.alike hK, hDc.weaken (fun _ _ _ _ => trivial), NW_warm hW hN⟩⟩ rfl rfl hl.1 rfl (lv_room (Nat.le_of_ble_eq_true rfl)) d_Header_listItems_143 ⟨Nat.le_of_ble_eq_true rfl, Nat.le_of_ble_eq_true rfl⟩) hS (fun q _ h => hFc q h) hFc (fun u t H1 locs htH hvm hw hB hz1 hk1 hS => ?_)
              obtain ⟨hP1, hK1, hD1⟩ := hB
              rw [htH] at hP1
              obtain ⟨hP, hD⟩ := va_join (wr := [(h_t_lengths, .inl (cI, 316, .inl f_t_lengths))]) (w1 := [(h_t, .inr (4, [.ref h_t_code, .ref h_t_counts, .ref h_t_lengths, .ref h_t_items, .int y25.1, .int v_t_symbols, .int v_t_distances, .int v_t_codes])), (h_t_items, .inl (cI, 316, .inl y25.2.1)), (h_t_counts, .inl (cI, 19, .inl y25.2.2))]) hP hD [0, 3, 1] [2] rfl rfl (by decide) (by decide) hk1 hFc hP1 hD1
              generalize H1 = H at hP hS ⊢
              have hP : va_P (dC, dI) vwCl [(h_t, .inr (4, [.ref h_t_code, .ref h_t_counts, .ref h_t_lengths, .ref h_t_items, .int y25.1, .int v_t_symbols, .int v_t_distances, .int v_t_codes])), (h_t_counts, .inl (cI, 19, .inl y25.2.2)), (h_t_lengths, .inl (cI, 316, .inl f_t_lengths)), (h_t_items, .inl (cI, 316, .inl y25.2.1))] H := hP.sub [1, 3, 0, 2] rfl
              have hD : va_D A [(h_t, .inr (4, [.ref h_t_code, .ref h_t_counts, .ref h_t_lengths, .ref h_t_items, .int y25.1, .int v_t_symbols, .int v_t_distances, .int v_t_codes])), (h_t_counts, .inl (cI, 19, .inl y25.2.2)), (h_t_lengths, .inl (cI, 316, .inl f_t_lengths)), (h_t_items, .inl (cI, 316, .inl y25.2.1))] := hD.sub [1, 3, 0, 2] (by decide) rfl
              refine lv_iinc (v := x2 + (1 : Int32)) (lv' := [(2, .int (x2 + (1 : Int32))), (4, .int y17), (3, .int y3), (0, .ref h_t), (1, .int x1)]) hx hb d_Header_listItems_146 hl (k := 4) rfl rfl (by decide) rfl (fun ls hl => ?_)
              refine lv_goto (tgt := 15) hx hb d_Header_listItems_149 (by decide) ?_
              exact ih (x2 + (1 : Int32)) y25.1 y25.2.2 y25.2.1 _ _ _ _ hP hD hS (lv_sub hl [3, 4, 0] rfl) h kx
            · replace h := ip_n c23 h
              refine lv_aload_n hx hb d_Header_listItems_117 rfl (lv_at hl 2 rfl) ?_
              refine lv_bipush (v := (16 : Int32)) hx hb d_Header_listItems_118 (by decide) ?_
              refine lv_iload hx hb d_Header_listItems_120 (lv_at hl 0 rfl) ?_
              refine lv_iconst (v := (3 : Int32)) hx hb d_Header_listItems_122 (by decide) ?_
              refine lv_isub hx hb d_Header_listItems_123 ?_
              obtain ⟨y26, hy26, h⟩ := bd h
              have hPc := hP.sub (ws' := [(h_t, .inr (4, [.ref h_t_code, .ref h_t_counts, .ref h_t_lengths, .ref h_t_items, .int v_t_itemCount, .int v_t_symbols, .int v_t_distances, .int v_t_codes])), (h_t_items, .inl (cI, 316, .inl f_t_items)), (h_t_counts, .inl (cI, 19, .inl f_t_counts))]) [0, 3, 1] rfl
              have hDc := hD.sub (ws' := [(h_t, .inr (4, [.ref h_t_code, .ref h_t_counts, .ref h_t_lengths, .ref h_t_items, .int v_t_itemCount, .int v_t_symbols, .int v_t_distances, .int v_t_codes])), (h_t_items, .inl (cI, 316, .inl f_t_items)), (h_t_counts, .inl (cI, 19, .inl f_t_counts))]) [0, 3, 1] (by decide) rfl
              have hFc := va_free (wc := [(h_t, .inr (4, [.ref h_t_code, .ref h_t_counts, .ref h_t_lengths, .ref h_t_items, .int v_t_itemCount, .int v_t_symbols, .int v_t_distances, .int v_t_codes])), (h_t_items, .inl (cI, 316, .inl f_t_items)), (h_t_counts, .inl (cI, 19, .inl f_t_counts))]) hD hS hA [0, 3, 1] rfl
              refine va_callv (va_runV (As := [.int (16 : Int32), .int (y17 - (3 : Int32))]) (rest := []) ⟨hx, hb, hml, hown, ht⟩ (cHeader_addItem l dC dI h_t h_t_code h_t_counts h_t_lengths h_t_items cB cI cJ _ N (16 : Int32) (y17 - (3 : Int32)) v_t_itemCount v_t_symbols v_t_distances v_t_codes f_t_items f_t_counts y26 hy26) (⟨callB_of 2 ht (gTB (k_559)) rfl rfl rfl (ht _ k_69) (ht _ k_556) (by decide +kernel) ⟨Nat.le_of_ble_eq_true rfl, Nat.le_of_ble_eq_true rfl⟩, ht _ k_558, ht _ k_15⟩) ⟨fun a U g mk q => by obtain ⟨q0, q1, qP, qK, qD, qN⟩ := q; exact ⟨q0, q1, qP, va_K.moved (u := U) (U := U.calling g mk a) (Vm.Alike.refl U.vm) qK, qD, NW_same (u := U) rfl qN⟩, va_recv hK hPc (ci := 4) (q0 := 0) rfl rfl, fun U hU hW => ⟨rfl, by rw [hU], by rw [hU]; exact hPc, va_K.moved hW.alike hK, hDc.weaken (fun _ _ _ _ => trivial), NW_warm hW hN⟩⟩ rfl rfl hl.1 rfl (lv_room (Nat.le_of_ble_eq_true rfl)) d_Header_listItems_124 ⟨Nat.le_of_ble_eq_true rfl, Nat.le_of_ble_eq_true rfl⟩) hS (fun q _ h => hFc q h) hFc (fun u t H1 locs htH hvm hw hB hz1 hk1 hS => ?_)
              obtain ⟨hP1, hK1, hD1⟩ := hB
              rw [htH] at hP1
              obtain ⟨hP, hD⟩ := va_join (wr := [(h_t_lengths, .inl (cI, 316, .inl f_t_lengths))]) (w1 := [(h_t, .inr (4, [.ref h_t_code, .ref h_t_counts, .ref h_t_lengths, .ref h_t_items, .int y26.1, .int v_t_symbols, .int v_t_distances, .int v_t_codes])), (h_t_items, .inl (cI, 316, .inl y26.2.1)), (h_t_counts, .inl (cI, 19, .inl y26.2.2))]) hP hD [0, 3, 1] [2] rfl rfl (by decide) (by decide) hk1 hFc hP1 hD1
              generalize H1 = H at hP hS ⊢
              have hP : va_P (dC, dI) vwCl [(h_t, .inr (4, [.ref h_t_code, .ref h_t_counts, .ref h_t_lengths, .ref h_t_items, .int y26.1, .int v_t_symbols, .int v_t_distances, .int v_t_codes])), (h_t_counts, .inl (cI, 19, .inl y26.2.2)), (h_t_lengths, .inl (cI, 316, .inl f_t_lengths)), (h_t_items, .inl (cI, 316, .inl y26.2.1))] H := hP.sub [1, 3, 0, 2] rfl
              have hD : va_D A [(h_t, .inr (4, [.ref h_t_code, .ref h_t_counts, .ref h_t_lengths, .ref h_t_items, .int y26.1, .int v_t_symbols, .int v_t_distances, .int v_t_codes])), (h_t_counts, .inl (cI, 19, .inl y26.2.2)), (h_t_lengths, .inl (cI, 316, .inl f_t_lengths)), (h_t_items, .inl (cI, 316, .inl y26.2.1))] := hD.sub [1, 3, 0, 2] (by decide) rfl
              refine lv_iload_n hx hb d_Header_listItems_127 rfl (lv_at hl 4 rfl) ?_
              refine lv_iload hx hb d_Header_listItems_128 (lv_at hl 0 rfl) ?_
              refine lv_iadd hx hb d_Header_listItems_130 ?_
              refine lv_istore_n (lv' := [(2, .int (x2 + y17)), (4, .int y17), (3, .int y3), (0, .ref h_t), (1, .int x1)]) hx hb d_Header_listItems_131 rfl hl (by decide) rfl (fun ls hl => ?_)
              refine lv_goto (tgt := 149) hx hb d_Header_listItems_132 (by decide) ?_
              refine lv_goto (tgt := 15) hx hb d_Header_listItems_149 (by decide) ?_
              exact ih (x2 + y17) y26.1 y26.2.2 y26.2.1 _ _ _ _ hP hD hS (lv_sub hl [3, 4, 0] rfl) h kx
          · replace h := ip_n c21 h
            refine lv_aload_n hx hb d_Header_listItems_95 rfl (lv_at hl 2 rfl) ?_
            refine lv_bipush (v := (17 : Int32)) hx hb d_Header_listItems_96 (by decide) ?_
            refine lv_iload_n hx hb d_Header_listItems_98 rfl (lv_at hl 1 rfl) ?_
            refine lv_iconst (v := (3 : Int32)) hx hb d_Header_listItems_99 (by decide) ?_
            refine lv_isub hx hb d_Header_listItems_100 ?_
            obtain ⟨y27, hy27, h⟩ := bd h
            have hPc := hP.sub (ws' := [(h_t, .inr (4, [.ref h_t_code, .ref h_t_counts, .ref h_t_lengths, .ref h_t_items, .int v_t_itemCount, .int v_t_symbols, .int v_t_distances, .int v_t_codes])), (h_t_items, .inl (cI, 316, .inl f_t_items)), (h_t_counts, .inl (cI, 19, .inl f_t_counts))]) [0, 3, 1] rfl
            have hDc := hD.sub (ws' := [(h_t, .inr (4, [.ref h_t_code, .ref h_t_counts, .ref h_t_lengths, .ref h_t_items, .int v_t_itemCount, .int v_t_symbols, .int v_t_distances, .int v_t_codes])), (h_t_items, .inl (cI, 316, .inl f_t_items)), (h_t_counts, .inl (cI, 19, .inl f_t_counts))]) [0, 3, 1] (by decide) rfl
            have hFc := va_free (wc := [(h_t, .inr (4, [.ref h_t_code, .ref h_t_counts, .ref h_t_lengths, .ref h_t_items, .int v_t_itemCount, .int v_t_symbols, .int v_t_distances, .int v_t_codes])), (h_t_items, .inl (cI, 316, .inl f_t_items)), (h_t_counts, .inl (cI, 19, .inl f_t_counts))]) hD hS hA [0, 3, 1] rfl
            refine va_callv (va_runV (As := [.int (17 : Int32), .int (y3 - (3 : Int32))]) (rest := []) ⟨hx, hb, hml, hown, ht⟩ (cHeader_addItem l dC dI h_t h_t_code h_t_counts h_t_lengths h_t_items cB cI cJ _ N (17 : Int32) (y3 - (3 : Int32)) v_t_itemCount v_t_symbols v_t_distances v_t_codes f_t_items f_t_counts y27 hy27) (⟨callB_of 2 ht (gTB (k_559)) rfl rfl rfl (ht _ k_69) (ht _ k_556) (by decide +kernel) ⟨Nat.le_of_ble_eq_true rfl, Nat.le_of_ble_eq_true rfl⟩, ht _ k_558, ht _ k_15⟩) ⟨fun a U g mk q => by obtain ⟨q0, q1, qP, qK, qD, qN⟩ := q; exact ⟨q0, q1, qP, va_K.moved (u := U) (U := U.calling g mk a) (Vm.Alike.refl U.vm) qK, qD, NW_same (u := U) rfl qN⟩, va_recv hK hPc (ci := 4) (q0 := 0) rfl rfl, fun U hU hW => ⟨rfl, by rw [hU], by rw [hU]; exact hPc, va_K.moved hW.alike hK, hDc.weaken (fun _ _ _ _ => trivial), NW_warm hW hN⟩⟩ rfl rfl hl.1 rfl (lv_room (Nat.le_of_ble_eq_true rfl)) d_Header_listItems_101 ⟨Nat.le_of_ble_eq_true rfl, Nat.le_of_ble_eq_true rfl⟩) hS (fun q _ h => hFc q h) hFc (fun u t H1 locs htH hvm hw hB hz1 hk1 hS => ?_)
            obtain ⟨hP1, hK1, hD1⟩ := hB
            rw [htH] at hP1
            obtain ⟨hP, hD⟩ := va_join (wr := [(h_t_lengths, .inl (cI, 316, .inl f_t_lengths))]) (w1 := [(h_t, .inr (4, [.ref h_t_code, .ref h_t_counts, .ref h_t_lengths, .ref h_t_items, .int y27.1, .int v_t_symbols, .int v_t_distances, .int v_t_codes])), (h_t_items, .inl (cI, 316, .inl y27.2.1)), (h_t_counts, .inl (cI, 19, .inl y27.2.2))]) hP hD [0, 3, 1] [2] rfl rfl (by decide) (by decide) hk1 hFc hP1 hD1
            generalize H1 = H at hP hS ⊢
            have hP : va_P (dC, dI) vwCl [(h_t, .inr (4, [.ref h_t_code, .ref h_t_counts, .ref h_t_lengths, .ref h_t_items, .int y27.1, .int v_t_symbols, .int v_t_distances, .int v_t_codes])), (h_t_counts, .inl (cI, 19, .inl y27.2.2)), (h_t_lengths, .inl (cI, 316, .inl f_t_lengths)), (h_t_items, .inl (cI, 316, .inl y27.2.1))] H := hP.sub [1, 3, 0, 2] rfl
            have hD : va_D A [(h_t, .inr (4, [.ref h_t_code, .ref h_t_counts, .ref h_t_lengths, .ref h_t_items, .int y27.1, .int v_t_symbols, .int v_t_distances, .int v_t_codes])), (h_t_counts, .inl (cI, 19, .inl y27.2.2)), (h_t_lengths, .inl (cI, 316, .inl f_t_lengths)), (h_t_items, .inl (cI, 316, .inl y27.2.1))] := hD.sub [1, 3, 0, 2] (by decide) rfl
            refine lv_iload_n hx hb d_Header_listItems_104 rfl (lv_at hl 4 rfl) ?_
            refine lv_iload_n hx hb d_Header_listItems_105 rfl (lv_at hl 1 rfl) ?_
            refine lv_iadd hx hb d_Header_listItems_106 ?_
            refine lv_istore_n (lv' := [(2, .int (x2 + y3)), (4, .int y17), (3, .int y3), (0, .ref h_t), (1, .int x1)]) hx hb d_Header_listItems_107 rfl hl (by decide) rfl (fun ls hl => ?_)
            refine lv_goto (tgt := 149) hx hb d_Header_listItems_108 (by decide) ?_
            refine lv_goto (tgt := 15) hx hb d_Header_listItems_149 (by decide) ?_
            exact ih (x2 + y3) y27.1 y27.2.2 y27.2.1 _ _ _ _ hP hD hS (lv_sub hl [3, 4, 0] rfl) h kx
        · replace h := ip_n c18 h
          refine lv_aload_n hx hb d_Header_listItems_73 rfl (lv_at hl 2 rfl) ?_
          refine lv_bipush (v := (18 : Int32)) hx hb d_Header_listItems_74 (by decide) ?_
          refine lv_iload_n hx hb d_Header_listItems_76 rfl (lv_at hl 1 rfl) ?_
          refine lv_bipush (v := (11 : Int32)) hx hb d_Header_listItems_77 (by decide) ?_
          refine lv_isub hx hb d_Header_listItems_79 ?_
          obtain ⟨y28, hy28, h⟩ := bd h
          have hPc := hP.sub (ws' := [(h_t, .inr (4, [.ref h_t_code, .ref h_t_counts, .ref h_t_lengths, .ref h_t_items, .int v_t_itemCount, .int v_t_symbols, .int v_t_distances, .int v_t_codes])), (h_t_items, .inl (cI, 316, .inl f_t_items)), (h_t_counts, .inl (cI, 19, .inl f_t_counts))]) [0, 3, 1] rfl
          have hDc := hD.sub (ws' := [(h_t, .inr (4, [.ref h_t_code, .ref h_t_counts, .ref h_t_lengths, .ref h_t_items, .int v_t_itemCount, .int v_t_symbols, .int v_t_distances, .int v_t_codes])), (h_t_items, .inl (cI, 316, .inl f_t_items)), (h_t_counts, .inl (cI, 19, .inl f_t_counts))]) [0, 3, 1] (by decide) rfl
          have hFc := va_free (wc := [(h_t, .inr (4, [.ref h_t_code, .ref h_t_counts, .ref h_t_lengths, .ref h_t_items, .int v_t_itemCount, .int v_t_symbols, .int v_t_distances, .int v_t_codes])), (h_t_items, .inl (cI, 316, .inl f_t_items)), (h_t_counts, .inl (cI, 19, .inl f_t_counts))]) hD hS hA [0, 3, 1] rfl
          refine va_callv (va_runV (As := [.int (18 : Int32), .int (y3 - (11 : Int32))]) (rest := []) ⟨hx, hb, hml, hown, ht⟩ (cHeader_addItem l dC dI h_t h_t_code h_t_counts h_t_lengths h_t_items cB cI cJ _ N (18 : Int32) (y3 - (11 : Int32)) v_t_itemCount v_t_symbols v_t_distances v_t_codes f_t_items f_t_counts y28 hy28) (⟨callB_of 2 ht (gTB (k_559)) rfl rfl rfl (ht _ k_69) (ht _ k_556) (by decide +kernel) ⟨Nat.le_of_ble_eq_true rfl, Nat.le_of_ble_eq_true rfl⟩, ht _ k_558, ht _ k_15⟩) ⟨fun a U g mk q => by obtain ⟨q0, q1, qP, qK, qD, qN⟩ := q; exact ⟨q0, q1, qP, va_K.moved (u := U) (U := U.calling g mk a) (Vm.Alike.refl U.vm) qK, qD, NW_same (u := U) rfl qN⟩, va_recv hK hPc (ci := 4) (q0 := 0) rfl rfl, fun U hU hW => ⟨rfl, by rw [hU], by rw [hU]; exact hPc, va_K.moved hW.alike hK, hDc.weaken (fun _ _ _ _ => trivial), NW_warm hW hN⟩⟩ rfl rfl hl.1 rfl (lv_room (Nat.le_of_ble_eq_true rfl)) d_Header_listItems_80 ⟨Nat.le_of_ble_eq_true rfl, Nat.le_of_ble_eq_true rfl⟩) hS (fun q _ h => hFc q h) hFc (fun u t H1 locs htH hvm hw hB hz1 hk1 hS => ?_)
          obtain ⟨hP1, hK1, hD1⟩ := hB
          rw [htH] at hP1
          obtain ⟨hP, hD⟩ := va_join (wr := [(h_t_lengths, .inl (cI, 316, .inl f_t_lengths))]) (w1 := [(h_t, .inr (4, [.ref h_t_code, .ref h_t_counts, .ref h_t_lengths, .ref h_t_items, .int y28.1, .int v_t_symbols, .int v_t_distances, .int v_t_codes])), (h_t_items, .inl (cI, 316, .inl y28.2.1)), (h_t_counts, .inl (cI, 19, .inl y28.2.2))]) hP hD [0, 3, 1] [2] rfl rfl (by decide) (by decide) hk1 hFc hP1 hD1
          generalize H1 = H at hP hS ⊢
          have hP : va_P (dC, dI) vwCl [(h_t, .inr (4, [.ref h_t_code, .ref h_t_counts, .ref h_t_lengths, .ref h_t_items, .int y28.1, .int v_t_symbols, .int v_t_distances, .int v_t_codes])), (h_t_counts, .inl (cI, 19, .inl y28.2.2)), (h_t_lengths, .inl (cI, 316, .inl f_t_lengths)), (h_t_items, .inl (cI, 316, .inl y28.2.1))] H := hP.sub [1, 3, 0, 2] rfl
          have hD : va_D A [(h_t, .inr (4, [.ref h_t_code, .ref h_t_counts, .ref h_t_lengths, .ref h_t_items, .int y28.1, .int v_t_symbols, .int v_t_distances, .int v_t_codes])), (h_t_counts, .inl (cI, 19, .inl y28.2.2)), (h_t_lengths, .inl (cI, 316, .inl f_t_lengths)), (h_t_items, .inl (cI, 316, .inl y28.2.1))] := hD.sub [1, 3, 0, 2] (by decide) rfl
          refine lv_iload_n hx hb d_Header_listItems_83 rfl (lv_at hl 4 rfl) ?_
          refine lv_iload_n hx hb d_Header_listItems_84 rfl (lv_at hl 1 rfl) ?_
          refine lv_iadd hx hb d_Header_listItems_85 ?_
          refine lv_istore_n (lv' := [(2, .int (x2 + y3)), (4, .int y17), (3, .int y3), (0, .ref h_t), (1, .int x1)]) hx hb d_Header_listItems_86 rfl hl (by decide) rfl (fun ls hl => ?_)
          refine lv_goto (tgt := 149) hx hb d_Header_listItems_87 (by decide) ?_
          refine lv_goto (tgt := 15) hx hb d_Header_listItems_149 (by decide) ?_
          exact ih (x2 + y3) y28.1 y28.2.2 y28.2.1 _ _ _ _ hP hD hS (lv_sub hl [3, 4, 0] rfl) h kx
set_option maxHeartbeats 4000000 in
set_option maxRecDepth 100000 in
theorem cHeader_listItems (l : Launch) (dC : Nat → ClassId) (dI : Nat → Nat → Nat) (h_t h_t_code h_t_counts h_t_lengths h_t_items : Nat) (cB cI cJ : ClassId) (sz : Nat) (N : Nat) (p1 : Int32) (v_t_itemCount : Int32) (v_t_symbols : Int32) (v_t_distances : Int32) (v_t_codes : Int32) (f_t_counts : Nat → Int32) (f_t_lengths : Nat → Int32) (f_t_items : Nat → Int32) (o : Int32 × (Nat → Int32) × (Nat → Int32)) (h : fHeader_listItems N p1 f_t_counts f_t_lengths f_t_items = some o) : Met l y_Header_listItems w_Header_listItems ({ frames := 1, cells := 0, slots := 0, locals := 24 } : Room) (va_Pc [.ref h_t, .int p1] (fun U => U.heap.size = sz ∧ va_P (dC, dI) vwCl [(h_t, .inr (4, [.ref h_t_code, .ref h_t_counts, .ref h_t_lengths, .ref h_t_items, .int v_t_itemCount, .int v_t_symbols, .int v_t_distances, .int v_t_codes])), (h_t_counts, .inl (cI, 19, .inl f_t_counts)), (h_t_lengths, .inl (cI, 316, .inl f_t_lengths)), (h_t_items, .inl (cI, 316, .inl f_t_items))] U.heap ∧ va_K (dC, dI) vwCl [(cB, .byte), (cI, .int), (cJ, .long)] U ∧ va_D (fun _ => True) [(h_t, .inr (4, [.ref h_t_code, .ref h_t_counts, .ref h_t_lengths, .ref h_t_items, .int v_t_itemCount, .int v_t_symbols, .int v_t_distances, .int v_t_codes])), (h_t_counts, .inl (cI, 19, .inl f_t_counts)), (h_t_lengths, .inl (cI, 316, .inl f_t_lengths)), (h_t_items, .inl (cI, 316, .inl f_t_items))] ∧ NW U)) (va_Qv (fun _ : Unit => True) (fun _ t => va_P (dC, dI) vwCl [(h_t, .inr (4, [.ref h_t_code, .ref h_t_counts, .ref h_t_lengths, .ref h_t_items, .int o.1, .int v_t_symbols, .int v_t_distances, .int v_t_codes])), (h_t_counts, .inl (cI, 19, .inl o.2.1)), (h_t_lengths, .inl (cI, 316, .inl f_t_lengths)), (h_t_items, .inl (cI, 316, .inl o.2.2))] t.heap ∧ va_K (dC, dI) vwCl [(cB, .byte), (cI, .int), (cJ, .long)] t ∧ va_D (va_A [(h_t, .inr (4, [.ref h_t_code, .ref h_t_counts, .ref h_t_lengths, .ref h_t_items, .int v_t_itemCount, .int v_t_symbols, .int v_t_distances, .int v_t_codes])), (h_t_counts, .inl (cI, 19, .inl f_t_counts)), (h_t_lengths, .inl (cI, 316, .inl f_t_lengths)), (h_t_items, .inl (cI, 316, .inl f_t_items))] sz) [(h_t, .inr (4, [.ref h_t_code, .ref h_t_counts, .ref h_t_lengths, .ref h_t_items, .int o.1, .int v_t_symbols, .int v_t_distances, .int v_t_codes])), (h_t_counts, .inl (cI, 19, .inl o.2.1)), (h_t_lengths, .inl (cI, 316, .inl f_t_lengths)), (h_t_items, .inl (cI, 316, .inl o.2.2))]) (va_A [(h_t, .inr (4, [.ref h_t_code, .ref h_t_counts, .ref h_t_lengths, .ref h_t_items, .int v_t_itemCount, .int v_t_symbols, .int v_t_distances, .int v_t_codes])), (h_t_counts, .inl (cI, 19, .inl f_t_counts)), (h_t_lengths, .inl (cI, 316, .inl f_t_lengths)), (h_t_items, .inl (cI, 316, .inl f_t_items))] sz)) 0 0 (va_A [(h_t, .inr (4, [.ref h_t_code, .ref h_t_counts, .ref h_t_lengths, .ref h_t_items, .int v_t_itemCount, .int v_t_symbols, .int v_t_distances, .int v_t_codes])), (h_t_counts, .inl (cI, 19, .inl f_t_counts)), (h_t_lengths, .inl (cI, 316, .inl f_t_lengths)), (h_t_items, .inl (cI, 316, .inl f_t_items))] sz) := by
  refine Met.ofW (cc := b_Header_listItems) (maxL := 5) (ret := none) (by decide) rfl ?_
  intro p e s m args below meth c s₁ B hml hv
  obtain ⟨rfl, hsz, hP, hK, hD0, hN⟩ := hv
  have hx := B.exec
  have hb := B.bytes
  have hr := B.returns
  have hts := atoms_spec (ws := w_Header_listItems) B.pre
  have ht : ∀ w ∈ TB, w.before ([.ref h_t, .int p1]).toArray s = true := fun w h => hts w (List.mem_cons_of_mem _ h)
  have hown : s.vm.findClass R_Header = some m.cls := findClass_of_methodNamed B.named
  have hlocks := B.notSynchronized
  subst hsz
  have hD := hD0.self (sz := s.heap.size)
  generalize hAe : va_A [(h_t, .inr (4, [.ref h_t_code, .ref h_t_counts, .ref h_t_lengths, .ref h_t_items, .int v_t_itemCount, .int v_t_symbols, .int v_t_distances, .int v_t_codes])), (h_t_counts, .inl (cI, 19, .inl f_t_counts)), (h_t_lengths, .inl (cI, 316, .inl f_t_lengths)), (h_t_items, .inl (cI, 316, .inl f_t_items))] s.heap.size = A at hD ⊢
  have hA : ∀ q : Nat, s.heap.size ≤ q → A q := fun q h => by rw [← hAe]; exact Or.inr h
  have hS : va_S A s.heap s.heap [] := va_S.rf
  have hP : va_P (dC, dI) vwCl [(h_t, .inr (4, [.ref h_t_code, .ref h_t_counts, .ref h_t_lengths, .ref h_t_items, .int v_t_itemCount, .int v_t_symbols, .int v_t_distances, .int v_t_codes])), (h_t_counts, .inl (cI, 19, .inl f_t_counts)), (h_t_lengths, .inl (cI, 316, .inl f_t_lengths)), (h_t_items, .inl (cI, 316, .inl f_t_items))] s.heap := hP
  have C : CX p s m ([.ref h_t, .int p1]).toArray c b_Header_listItems 5 R_Header A (dC, dI) [(cB, .byte), (cI, .int), (cJ, .long)] := ⟨hx, hb, hml, hown, ht, hA, hK, hN⟩
  have hl := lv_entry ([.ref h_t, .int p1]) (n := 5) (Nat.le_of_ble_eq_true rfl)
  rw [lg_entry_eq]
  generalize (lg_sl ([.ref h_t, .int p1]) ++ List.replicate (5 - (lg_sl ([.ref h_t, .int p1])).length) Slot.unset).toArray = ls at hl ⊢
  have hl : lv_has ls 5 [(0, .ref h_t), (1, .int p1)] := hl
  refine lv_aload_n hx hb d_Header_listItems_0 rfl (lv_at hl 0 rfl) ?_
  refine va_get (D := (dC, dI)) (ci := 4) (v := .ref h_t_counts) (C := R_Header) (T := F_Header) (N := 8) hx hb ht in_Header hown hK hP 0 rfl rfl 1 (by decide) (ht _ k_189) (fun _ h9 => h9) rfl d_Header_listItems_1 ?_
  refine lv_iconst (v := (0 : Int32)) hx hb d_Header_listItems_4 (by decide) ?_
  obtain ⟨y1, hy1, h⟩ := bd h
  have hPc := hP.sub (ws' := [(h_t_counts, .inl (cI, 19, .inl f_t_counts))]) [1] rfl
  have hDc := hD.sub (ws' := [(h_t_counts, .inl (cI, 19, .inl f_t_counts))]) [1] (by decide) rfl
  have hFc := va_free (wc := [(h_t_counts, .inl (cI, 19, .inl f_t_counts))]) hD hS hA [1] rfl
  refine va_callv (va_runS (As := [.ref h_t_counts, .int (0 : Int32)]) (rest := []) ⟨hx, hb, hml, hown, ht⟩ (cJA_fill l dC dI h_t_counts cB cI cJ _ N (0 : Int32) 19 f_t_counts y1 hy1) (⟨callB_of 2 ht (gTB (k_226)) rfl rfl rfl (ht _ k_71) (ht _ k_550) (by decide +kernel) ⟨Nat.le_of_ble_eq_true rfl, Nat.le_of_ble_eq_true rfl⟩, ht _ k_225⟩) ⟨fun a U g mk q => by obtain ⟨q0, q1, qP, qK, qD, qN⟩ := q; exact ⟨q0, q1, qP, va_K.moved (u := U) (U := U.calling g mk a) (Vm.Alike.refl U.vm) qK, qD, NW_same (u := U) rfl qN⟩, fun U hU hW => ⟨rfl, by rw [hU], by rw [hU]; exact hPc, va_K.moved hW.alike hK, hDc.weaken (fun _ _ _ _ => trivial), NW_warm hW hN⟩⟩ rfl rfl hl.1 rfl (lv_room (Nat.le_of_ble_eq_true rfl)) d_Header_listItems_5 ⟨Nat.le_of_ble_eq_true rfl, Nat.le_of_ble_eq_true rfl⟩) hS (fun q _ h => hFc q h) hFc (fun u t H1 locs htH hvm hw hB hz1 hk1 hS => ?_)
  obtain ⟨hP1, hK1, hD1⟩ := hB
  rw [htH] at hP1
  obtain ⟨hP, hD⟩ := va_join (wr := [(h_t, .inr (4, [.ref h_t_code, .ref h_t_counts, .ref h_t_lengths, .ref h_t_items, .int v_t_itemCount, .int v_t_symbols, .int v_t_distances, .int v_t_codes])), (h_t_lengths, .inl (cI, 316, .inl f_t_lengths)), (h_t_items, .inl (cI, 316, .inl f_t_items))]) (w1 := [(h_t_counts, .inl (cI, 19, .inl y1))]) hP hD [1] [0, 2, 3] rfl rfl (by decide) (by decide) hk1 hFc hP1 hD1
  generalize H1 = H at hP hS ⊢
  have hP : va_P (dC, dI) vwCl [(h_t, .inr (4, [.ref h_t_code, .ref h_t_counts, .ref h_t_lengths, .ref h_t_items, .int v_t_itemCount, .int v_t_symbols, .int v_t_distances, .int v_t_codes])), (h_t_counts, .inl (cI, 19, .inl y1)), (h_t_lengths, .inl (cI, 316, .inl f_t_lengths)), (h_t_items, .inl (cI, 316, .inl f_t_items))] H := hP.sub [0, 3, 1, 2] rfl
  have hD : va_D A [(h_t, .inr (4, [.ref h_t_code, .ref h_t_counts, .ref h_t_lengths, .ref h_t_items, .int v_t_itemCount, .int v_t_symbols, .int v_t_distances, .int v_t_codes])), (h_t_counts, .inl (cI, 19, .inl y1)), (h_t_lengths, .inl (cI, 316, .inl f_t_lengths)), (h_t_items, .inl (cI, 316, .inl f_t_items))] := hD.sub [0, 3, 1, 2] (by decide) rfl
  refine lv_aload_n hx hb d_Header_listItems_8 rfl (lv_at hl 0 rfl) ?_
  refine lv_iconst (v := (0 : Int32)) hx hb d_Header_listItems_9 (by decide) ?_
  refine va_put (D := (dC, dI)) (ci := 4) (v := .int (0 : Int32)) (ty := .int) (C := R_Header) (T := F_Header) (N := 8) hx hb ht in_Header t_Header t_Header_ok n_Header hown hK hP hD hS 0 rfl rfl 4 (by decide) (ht _ k_192) (fun _ h9 => h9) rfl (by decide +kernel) rfl rfl (Nat.le_of_ble_eq_true rfl) d_Header_listItems_10 (fun H locs hP hD hS => ?_)
  have hP : va_P (dC, dI) vwCl [(h_t, .inr (4, [.ref h_t_code, .ref h_t_counts, .ref h_t_lengths, .ref h_t_items, .int (0 : Int32), .int v_t_symbols, .int v_t_distances, .int v_t_codes])), (h_t_counts, .inl (cI, 19, .inl y1)), (h_t_lengths, .inl (cI, 316, .inl f_t_lengths)), (h_t_items, .inl (cI, 316, .inl f_t_items))] H := hP
  have hD : va_D A [(h_t, .inr (4, [.ref h_t_code, .ref h_t_counts, .ref h_t_lengths, .ref h_t_items, .int (0 : Int32), .int v_t_symbols, .int v_t_distances, .int v_t_codes])), (h_t_counts, .inl (cI, 19, .inl y1)), (h_t_lengths, .inl (cI, 316, .inl f_t_lengths)), (h_t_items, .inl (cI, 316, .inl f_t_items))] := hD
  refine lv_iconst (v := (0 : Int32)) hx hb d_Header_listItems_13 (by decide) ?_
  refine lv_istore_n (lv' := [(2, .int (0 : Int32)), (0, .ref h_t), (1, .int p1)]) hx hb d_Header_listItems_14 rfl hl (by decide) rfl (fun ls hl => ?_)
  obtain ⟨y29, hy29, h⟩ := bd h
  refine wHeader_listItems_15 h_t h_t_code h_t_counts h_t_lengths h_t_items cB cI cJ N v_t_symbols v_t_distances v_t_codes f_t_lengths p1 C N (0 : Int32) (0 : Int32) y1 f_t_items _ _ _ _ hP hD hS (lv_sub hl [1, 2, 0] rfl) hy29 (fun H locs ls hP hD hS hl => ?_)
  obtain rfl := Option.some.inj h
  exact W.vret hx hb hr (fun t ht hW => ⟨⟨(), rfl, trivial, by rw [ht]; exact hP, va_K.moved hW.alike hK, hD⟩, hS.F ht⟩) hS.2.2 d_Header_listItems_152
/-! PackedBytes$Header.prepare(LPackedBytes$Code;LPackedBytes$Code;LPackedBytes$Trees;)V -/
def fHeader_prepare_106 (N : Nat) (n_t_code_lengths : Nat) (f_t_code_lengths : Nat → Int32) : Nat → (Int32) → Option (Int32)
  | 0, _ => none
  | k + 1, v_t_codes =>
    if v_t_codes ≤ (4 : Int32) then
      some v_t_codes
    else
      if ¬ ((v_t_codes - (1 : Int32)) < 0 ∨ 19 ≤ (v_t_codes - (1 : Int32)).toNatClampNeg) then
        if ¬ ((S_LENGTH_ORDER (v_t_codes - (1 : Int32)).toNatClampNeg) < 0 ∨ n_t_code_lengths ≤ (S_LENGTH_ORDER (v_t_codes - (1 : Int32)).toNatClampNeg).toNatClampNeg) then
          if (f_t_code_lengths (S_LENGTH_ORDER (v_t_codes - (1 : Int32)).toNatClampNeg).toNatClampNeg) = 0 then
            fHeader_prepare_106 N n_t_code_lengths f_t_code_lengths k (v_t_codes - (1 : Int32))
          else
            some v_t_codes
        else none
      else none
def fHeader_prepare (N : Nat) (n_p1_lengths : Nat) (f_p1_lengths : Nat → Int32) (n_p2_lengths : Nat) (f_p2_lengths : Nat → Int32) (f_t_lengths : Nat → Int32) (f_t_counts : Nat → Int32) (f_t_items : Nat → Int32) (n_t_code_lengths : Nat) (f_t_code_lengths : Nat → Int32) (f_p3_shrunk : Nat → Int32) (f_p3_weights : Nat → Int32) (f_p3_leafSymbols : Nat → Int32) (f_p3_parents : Nat → Int32) (f_p3_depths : Nat → Int32) (f_t_code_next : Nat → Int32) (n_t_code_bits : Nat) (f_t_code_bits : Nat → Int32) : Option (Int32 × Int32 × Int32 × Int32 × (Nat → Int32) × (Nat → Int32) × (Nat → Int32) × Int32 × Int32 × Int32 × Int32 × (Nat → Int32) × (Nat → Int32) × (Nat → Int32) × (Nat → Int32) × (Nat → Int32) × (Nat → Int32) × (Nat → Int32) × (Nat → Int32)) :=
    (fHeader_countUsed N (257 : Int32) n_p1_lengths f_p1_lengths).bind (fun y1 =>
      (fHeader_countUsed N (1 : Int32) n_p2_lengths f_p2_lengths).bind (fun y2 =>
        if ¬ (0 : Int32) < 0 then
          if ¬ (0 : Int32) < 0 then
            if ¬ y1 < 0 then
              if (0 : Int32).toNatClampNeg + y1.toNatClampNeg ≤ n_p1_lengths then
                if (0 : Int32).toNatClampNeg + y1.toNatClampNeg ≤ 316 then
                  if ¬ (0 : Int32) < 0 then
                    if ¬ y1 < 0 then
                      if ¬ y2 < 0 then
                        if (0 : Int32).toNatClampNeg + y2.toNatClampNeg ≤ n_p2_lengths then
                          if y1.toNatClampNeg + y2.toNatClampNeg ≤ 316 then
                            (fHeader_listItems N (y1 + y2) f_t_counts (va_cpy f_p2_lengths (va_cpy f_p1_lengths f_t_lengths (0 : Int32).toNatClampNeg (0 : Int32).toNatClampNeg y1.toNatClampNeg) (0 : Int32).toNatClampNeg y1.toNatClampNeg y2.toNatClampNeg) f_t_items).bind (fun y13 =>
                              (fTrees_findLengths N (7 : Int32) 19 y13.2.1 n_t_code_lengths f_t_code_lengths f_p3_shrunk f_p3_weights f_p3_leafSymbols f_p3_parents f_p3_depths).bind (fun y14 =>
                                (fCode_number N f_t_code_next n_t_code_lengths y14.2.2.2.2.1 n_t_code_bits f_t_code_bits).bind (fun y15 =>
                                  (fHeader_prepare_106 N n_t_code_lengths y14.2.2.2.2.1 N (19 : Int32)).bind (fun y20 =>
                                    some (y13.1, y1, y2, y20, (va_cpy f_p2_lengths (va_cpy f_p1_lengths f_t_lengths (0 : Int32).toNatClampNeg (0 : Int32).toNatClampNeg y1.toNatClampNeg) (0 : Int32).toNatClampNeg y1.toNatClampNeg y2.toNatClampNeg), y13.2.1, y13.2.2, y14.1, y14.2.1, y14.2.2.1, y14.2.2.2.1, y14.2.2.2.2.1, y14.2.2.2.2.2.1, y14.2.2.2.2.2.2.1, y14.2.2.2.2.2.2.2.1, y14.2.2.2.2.2.2.2.2.1, y14.2.2.2.2.2.2.2.2.2, y15.1, y15.2)))))
                          else none
                        else none
                      else none
                    else none
                  else none
                else none
              else none
            else none
          else none
        else none))
set_option maxHeartbeats 4000000 in
set_option maxRecDepth 100000 in
theorem wHeader_prepare_106 {p : Program} {l : Launch} {e : Env} {s : State} {m : MethodId} {args : Array Value} {below : List Frame} {meth : Method} {c : Code} {Q : State → Prop} {A : Nat → Prop} {dC : Nat → ClassId} {dI : Nat → Nat → Nat} (h_t h_t_code h_t_counts h_t_lengths h_t_items h_p1 h_p1_lengths h_p1_bits h_p1_next h_p2 h_p2_lengths h_p2_bits h_p2_next h_t_code_lengths h_t_code_bits h_t_code_next h_p3 h_p3_weights h_p3_parents h_p3_depths h_p3_leafSymbols h_p3_shrunk b_LENGTH_ORDER : Nat) (cB cI cJ : ClassId) (N : Nat) (v_t_itemCount : Int32) (v_t_symbols : Int32) (v_t_distances : Int32) (n_p1_lengths : Nat) (f_p1_lengths : Nat → Int32) (n_p2_lengths : Nat) (f_p2_lengths : Nat → Int32) (f_t_lengths : Nat → Int32) (f_t_counts : Nat → Int32) (f_t_items : Nat → Int32) (v_p3_leaves : Int32) (v_p3_made : Int32) (v_p3_nextLeaf : Int32) (v_p3_nextJoined : Int32) (n_t_code_lengths : Nat) (f_t_code_lengths : Nat → Int32) (f_p3_shrunk : Nat → Int32) (f_p3_weights : Nat → Int32) (f_p3_leafSymbols : Nat → Int32) (f_p3_parents : Nat → Int32) (f_p3_depths : Nat → Int32) (f_t_code_next : Nat → Int32) (n_t_code_bits : Nat) (f_t_code_bits : Nat → Int32) (C : CX p s m args c b_Header_prepare 4 R_Header A (dC, dI) [(cB, .byte), (cI, .int), (cJ, .long)]) (ro_b_LENGTH_ORDER : roS "PackedBytes" "LENGTH_ORDER" A b_LENGTH_ORDER 19 S_LENGTH_ORDER s) :
    ∀ (n : Nat) (v_t_codes : Int32) (H : Heap) (locs : List Loc) (ls : Array Slot) (o : Int32), va_P (dC, dI) vwCl [(h_t, .inr (4, [.ref h_t_code, .ref h_t_counts, .ref h_t_lengths, .ref h_t_items, .int v_t_itemCount, .int v_t_symbols, .int v_t_distances, .int v_t_codes])), (h_p1, .inr (2, [.ref h_p1_lengths, .ref h_p1_bits, .ref h_p1_next])), (h_p1_lengths, .inl (cI, n_p1_lengths, .inl f_p1_lengths)), (h_p2, .inr (2, [.ref h_p2_lengths, .ref h_p2_bits, .ref h_p2_next])), (h_p2_lengths, .inl (cI, n_p2_lengths, .inl f_p2_lengths)), (h_t_lengths, .inl (cI, 316, .inl f_t_lengths)), (h_t_counts, .inl (cI, 19, .inl f_t_counts)), (h_t_items, .inl (cI, 316, .inl f_t_items)), (h_t_code, .inr (2, [.ref h_t_code_lengths, .ref h_t_code_bits, .ref h_t_code_next])), (h_p3, .inr (8, [.ref h_p3_weights, .ref h_p3_parents, .ref h_p3_depths, .ref h_p3_leafSymbols, .ref h_p3_shrunk, .int v_p3_leaves, .int v_p3_made, .int v_p3_nextLeaf, .int v_p3_nextJoined])), (h_t_code_lengths, .inl (cI, n_t_code_lengths, .inl f_t_code_lengths)), (h_p3_shrunk, .inl (cI, 286, .inl f_p3_shrunk)), (h_p3_weights, .inl (cI, 572, .inl f_p3_weights)), (h_p3_leafSymbols, .inl (cI, 286, .inl f_p3_leafSymbols)), (h_p3_parents, .inl (cI, 572, .inl f_p3_parents)), (h_p3_depths, .inl (cI, 572, .inl f_p3_depths)), (h_t_code_next, .inl (cI, 17, .inl f_t_code_next)), (h_t_code_bits, .inl (cI, n_t_code_bits, .inl f_t_code_bits))] H → va_D A [(h_t, .inr (4, [.ref h_t_code, .ref h_t_counts, .ref h_t_lengths, .ref h_t_items, .int v_t_itemCount, .int v_t_symbols, .int v_t_distances, .int v_t_codes])), (h_p1, .inr (2, [.ref h_p1_lengths, .ref h_p1_bits, .ref h_p1_next])), (h_p1_lengths, .inl (cI, n_p1_lengths, .inl f_p1_lengths)), (h_p2, .inr (2, [.ref h_p2_lengths, .ref h_p2_bits, .ref h_p2_next])), (h_p2_lengths, .inl (cI, n_p2_lengths, .inl f_p2_lengths)), (h_t_lengths, .inl (cI, 316, .inl f_t_lengths)), (h_t_counts, .inl (cI, 19, .inl f_t_counts)), (h_t_items, .inl (cI, 316, .inl f_t_items)), (h_t_code, .inr (2, [.ref h_t_code_lengths, .ref h_t_code_bits, .ref h_t_code_next])), (h_p3, .inr (8, [.ref h_p3_weights, .ref h_p3_parents, .ref h_p3_depths, .ref h_p3_leafSymbols, .ref h_p3_shrunk, .int v_p3_leaves, .int v_p3_made, .int v_p3_nextLeaf, .int v_p3_nextJoined])), (h_t_code_lengths, .inl (cI, n_t_code_lengths, .inl f_t_code_lengths)), (h_p3_shrunk, .inl (cI, 286, .inl f_p3_shrunk)), (h_p3_weights, .inl (cI, 572, .inl f_p3_weights)), (h_p3_leafSymbols, .inl (cI, 286, .inl f_p3_leafSymbols)), (h_p3_parents, .inl (cI, 572, .inl f_p3_parents)), (h_p3_depths, .inl (cI, 572, .inl f_p3_depths)), (h_t_code_next, .inl (cI, 17, .inl f_t_code_next)), (h_t_code_bits, .inl (cI, n_t_code_bits, .inl f_t_code_bits))] → va_S A s.heap H locs → lv_has ls 4 [(0, .ref h_t)] → fHeader_prepare_106 N n_t_code_lengths f_t_code_lengths n v_t_codes = some o → (∀ (H : Heap) (locs : List Loc) (ls : Array Slot), va_P (dC, dI) vwCl [(h_t, .inr (4, [.ref h_t_code, .ref h_t_counts, .ref h_t_lengths, .ref h_t_items, .int v_t_itemCount, .int v_t_symbols, .int v_t_distances, .int o])), (h_p1, .inr (2, [.ref h_p1_lengths, .ref h_p1_bits, .ref h_p1_next])), (h_p1_lengths, .inl (cI, n_p1_lengths, .inl f_p1_lengths)), (h_p2, .inr (2, [.ref h_p2_lengths, .ref h_p2_bits, .ref h_p2_next])), (h_p2_lengths, .inl (cI, n_p2_lengths, .inl f_p2_lengths)), (h_t_lengths, .inl (cI, 316, .inl f_t_lengths)), (h_t_counts, .inl (cI, 19, .inl f_t_counts)), (h_t_items, .inl (cI, 316, .inl f_t_items)), (h_t_code, .inr (2, [.ref h_t_code_lengths, .ref h_t_code_bits, .ref h_t_code_next])), (h_p3, .inr (8, [.ref h_p3_weights, .ref h_p3_parents, .ref h_p3_depths, .ref h_p3_leafSymbols, .ref h_p3_shrunk, .int v_p3_leaves, .int v_p3_made, .int v_p3_nextLeaf, .int v_p3_nextJoined])), (h_t_code_lengths, .inl (cI, n_t_code_lengths, .inl f_t_code_lengths)), (h_p3_shrunk, .inl (cI, 286, .inl f_p3_shrunk)), (h_p3_weights, .inl (cI, 572, .inl f_p3_weights)), (h_p3_leafSymbols, .inl (cI, 286, .inl f_p3_leafSymbols)), (h_p3_parents, .inl (cI, 572, .inl f_p3_parents)), (h_p3_depths, .inl (cI, 572, .inl f_p3_depths)), (h_t_code_next, .inl (cI, 17, .inl f_t_code_next)), (h_t_code_bits, .inl (cI, n_t_code_bits, .inl f_t_code_bits))] H → va_D A [(h_t, .inr (4, [.ref h_t_code, .ref h_t_counts, .ref h_t_lengths, .ref h_t_items, .int v_t_itemCount, .int v_t_symbols, .int v_t_distances, .int o])), (h_p1, .inr (2, [.ref h_p1_lengths, .ref h_p1_bits, .ref h_p1_next])), (h_p1_lengths, .inl (cI, n_p1_lengths, .inl f_p1_lengths)), (h_p2, .inr (2, [.ref h_p2_lengths, .ref h_p2_bits, .ref h_p2_next])), (h_p2_lengths, .inl (cI, n_p2_lengths, .inl f_p2_lengths)), (h_t_lengths, .inl (cI, 316, .inl f_t_lengths)), (h_t_counts, .inl (cI, 19, .inl f_t_counts)), (h_t_items, .inl (cI, 316, .inl f_t_items)), (h_t_code, .inr (2, [.ref h_t_code_lengths, .ref h_t_code_bits, .ref h_t_code_next])), (h_p3, .inr (8, [.ref h_p3_weights, .ref h_p3_parents, .ref h_p3_depths, .ref h_p3_leafSymbols, .ref h_p3_shrunk, .int v_p3_leaves, .int v_p3_made, .int v_p3_nextLeaf, .int v_p3_nextJoined])), (h_t_code_lengths, .inl (cI, n_t_code_lengths, .inl f_t_code_lengths)), (h_p3_shrunk, .inl (cI, 286, .inl f_p3_shrunk)), (h_p3_weights, .inl (cI, 572, .inl f_p3_weights)), (h_p3_leafSymbols, .inl (cI, 286, .inl f_p3_leafSymbols)), (h_p3_parents, .inl (cI, 572, .inl f_p3_parents)), (h_p3_depths, .inl (cI, 572, .inl f_p3_depths)), (h_t_code_next, .inl (cI, 17, .inl f_t_code_next)), (h_t_code_bits, .inl (cI, n_t_code_bits, .inl f_t_code_bits))] → va_S A s.heap H locs → lv_has ls 4 [] → W p l e ({ frames := 3, cells := 0, slots := 0, locals := 70 } : Room) s m args below meth c H locs 0 0 Q (F0 m 148 ls [])) → W p l e ({ frames := 3, cells := 0, slots := 0, locals := 70 } : Room) s m args below meth c H locs 0 0 Q (F0 m 106 ls []) := by
  obtain ⟨hx, hb, hml, hown, ht, hA, hK, hN⟩ := id C
  intro n
  induction n with
  | zero => intro v_t_codes H locs ls o _ _ _ _ h; exact nomatch h
  | succ k ih =>
    intro v_t_codes H locs ls o hP hD hS hl h kx
    refine lv_aload_n hx hb d_Header_prepare_106 rfl (lv_at hl 0 rfl) ?_
    refine va_get (D := (dC, dI)) (ci := 4) (v := .int v_t_codes) (C := R_Header) (T := F_Header) (N := 8) hx hb ht in_Header hown hK hP 0 rfl rfl 7 (by decide) (ht _ k_195) (fun _ h9 => h9) rfl d_Header_prepare_107 ?_
    refine lv_iconst (v := (4 : Int32)) hx hb d_Header_prepare_110 (by decide) ?_
    refine lv_icmp_le (tgt := 148) hx hb d_Header_prepare_111 (by decide) (fun c16 => ?_) (fun c16 => ?_)
    · replace h := ip_p c16 h
      obtain rfl := Option.some.inj h
      exact kx _ _ _ hP hD hS (lv_sub hl [] rfl)
    · replace h := ip_n c16 h
      refine lv_aload_n hx hb d_Header_prepare_114 rfl (lv_at hl 0 rfl) ?_
      refine va_get (D := (dC, dI)) (ci := 4) (v := .ref h_t_code) (C := R_Header) (T := F_Header) (N := 8) hx hb ht in_Header hown hK hP 0 rfl rfl 0 (by decide) (ht _ k_187) (fun _ h9 => h9) rfl d_Header_prepare_115 ?_
      refine va_get (D := (dC, dI)) (ci := 2) (v := .ref h_t_code_lengths) (C := R_Code) (T := F_Code) (N := 3) hx hb ht in_Code hown hK hP 8 rfl rfl 0 (by decide) (ht _ k_174) (fun _ h9 => h9) rfl d_Header_prepare_118 ?_
      refine va_getsN hx hb ro_b_LENGTH_ORDER.1 hS hown (va_Nw.use rfl (hN _ nw_11)) (fun _ h9 => h9) d_Header_prepare_121 ?_
      refine lv_aload_n hx hb d_Header_prepare_124 rfl (lv_at hl 0 rfl) ?_
      refine va_get (D := (dC, dI)) (ci := 4) (v := .int v_t_codes) (C := R_Header) (T := F_Header) (N := 8) hx hb ht in_Header hown hK hP 0 rfl rfl 7 (by decide) (ht _ k_195) (fun _ h9 => h9) rfl d_Header_prepare_125 ?_
      refine lv_iconst (v := (1 : Int32)) hx hb d_Header_prepare_128 (by decide) ?_
      refine lv_isub hx hb d_Header_prepare_129 ?_
      obtain ⟨g17, h⟩ := gd h
      refine va_sld hx hb ro_b_LENGTH_ORDER.2.1 ro_b_LENGTH_ORDER.2.2.1 ro_b_LENGTH_ORDER.2.2.2 hS g17 d_Header_prepare_130 ?_
      obtain ⟨g18, h⟩ := gd h
      refine va_iald hx hb hK hP 10 1 rfl rfl g18 d_Header_prepare_131 ?_
      refine lv_if_ne (tgt := 148) hx hb d_Header_prepare_132 (by decide) (fun c19 => ?_) (fun c19 => ?_)
      · replace h := ip_n c19 h
        obtain rfl := Option.some.inj h
        exact kx _ _ _ hP hD hS (lv_sub hl [] rfl)
      · replace h := ip_p c19 h
        refine lv_aload_n hx hb d_Header_prepare_135 rfl (lv_at hl 0 rfl) ?_
        refine lv_dup hx hb d_Header_prepare_136 rfl ?_
        refine va_get (D := (dC, dI)) (ci := 4) (v := .int v_t_codes) (C := R_Header) (T := F_Header) (N := 8) hx hb ht in_Header hown hK hP 0 rfl rfl 7 (by decide) (ht _ k_195) (fun _ h9 => h9) rfl d_Header_prepare_137 ?_
        refine lv_iconst (v := (1 : Int32)) hx hb d_Header_prepare_140 (by decide) ?_
        refine lv_isub hx hb d_Header_prepare_141 ?_
        refine va_put (D := (dC, dI)) (ci := 4) (v := .int (v_t_codes - (1 : Int32))) (ty := .int) (C := R_Header) (T := F_Header) (N := 8) hx hb ht in_Header t_Header t_Header_ok n_Header hown hK hP hD hS 0 rfl rfl 7 (by decide) (ht _ k_195) (fun _ h9 => h9) rfl (by decide +kernel) rfl rfl (Nat.le_of_ble_eq_true rfl) d_Header_prepare_142 (fun H locs hP hD hS => ?_)
        have hP : va_P (dC, dI) vwCl [(h_t, .inr (4, [.ref h_t_code, .ref h_t_counts, .ref h_t_lengths, .ref h_t_items, .int v_t_itemCount, .int v_t_symbols, .int v_t_distances, .int (v_t_codes - (1 : Int32))])), (h_p1, .inr (2, [.ref h_p1_lengths, .ref h_p1_bits, .ref h_p1_next])), (h_p1_lengths, .inl (cI, n_p1_lengths, .inl f_p1_lengths)), (h_p2, .inr (2, [.ref h_p2_lengths, .ref h_p2_bits, .ref h_p2_next])), (h_p2_lengths, .inl (cI, n_p2_lengths, .inl f_p2_lengths)), (h_t_lengths, .inl (cI, 316, .inl f_t_lengths)), (h_t_counts, .inl (cI, 19, .inl f_t_counts)), (h_t_items, .inl (cI, 316, .inl f_t_items)), (h_t_code, .inr (2, [.ref h_t_code_lengths, .ref h_t_code_bits, .ref h_t_code_next])), (h_p3, .inr (8, [.ref h_p3_weights, .ref h_p3_parents, .ref h_p3_depths, .ref h_p3_leafSymbols, .ref h_p3_shrunk, .int v_p3_leaves, .int v_p3_made, .int v_p3_nextLeaf, .int v_p3_nextJoined])), (h_t_code_lengths, .inl (cI, n_t_code_lengths, .inl f_t_code_lengths)), (h_p3_shrunk, .inl (cI, 286, .inl f_p3_shrunk)), (h_p3_weights, .inl (cI, 572, .inl f_p3_weights)), (h_p3_leafSymbols, .inl (cI, 286, .inl f_p3_leafSymbols)), (h_p3_parents, .inl (cI, 572, .inl f_p3_parents)), (h_p3_depths, .inl (cI, 572, .inl f_p3_depths)), (h_t_code_next, .inl (cI, 17, .inl f_t_code_next)), (h_t_code_bits, .inl (cI, n_t_code_bits, .inl f_t_code_bits))] H := hP
        have hD : va_D A [(h_t, .inr (4, [.ref h_t_code, .ref h_t_counts, .ref h_t_lengths, .ref h_t_items, .int v_t_itemCount, .int v_t_symbols, .int v_t_distances, .int (v_t_codes - (1 : Int32))])), (h_p1, .inr (2, [.ref h_p1_lengths, .ref h_p1_bits, .ref h_p1_next])), (h_p1_lengths, .inl (cI, n_p1_lengths, .inl f_p1_lengths)), (h_p2, .inr (2, [.ref h_p2_lengths, .ref h_p2_bits, .ref h_p2_next])), (h_p2_lengths, .inl (cI, n_p2_lengths, .inl f_p2_lengths)), (h_t_lengths, .inl (cI, 316, .inl f_t_lengths)), (h_t_counts, .inl (cI, 19, .inl f_t_counts)), (h_t_items, .inl (cI, 316, .inl f_t_items)), (h_t_code, .inr (2, [.ref h_t_code_lengths, .ref h_t_code_bits, .ref h_t_code_next])), (h_p3, .inr (8, [.ref h_p3_weights, .ref h_p3_parents, .ref h_p3_depths, .ref h_p3_leafSymbols, .ref h_p3_shrunk, .int v_p3_leaves, .int v_p3_made, .int v_p3_nextLeaf, .int v_p3_nextJoined])), (h_t_code_lengths, .inl (cI, n_t_code_lengths, .inl f_t_code_lengths)), (h_p3_shrunk, .inl (cI, 286, .inl f_p3_shrunk)), (h_p3_weights, .inl (cI, 572, .inl f_p3_weights)), (h_p3_leafSymbols, .inl (cI, 286, .inl f_p3_leafSymbols)), (h_p3_parents, .inl (cI, 572, .inl f_p3_parents)), (h_p3_depths, .inl (cI, 572, .inl f_p3_depths)), (h_t_code_next, .inl (cI, 17, .inl f_t_code_next)), (h_t_code_bits, .inl (cI, n_t_code_bits, .inl f_t_code_bits))] := hD
        refine lv_goto (tgt := 106) hx hb d_Header_prepare_145 (by decide) ?_
        exact ih (v_t_codes - (1 : Int32)) _ _ _ _ hP hD hS (lv_sub hl [0] rfl) h kx
set_option maxHeartbeats 4000000 in
set_option maxRecDepth 100000 in
theorem cHeader_prepare (l : Launch) (dC : Nat → ClassId) (dI : Nat → Nat → Nat) (h_t h_t_code h_t_counts h_t_lengths h_t_items h_p1 h_p1_lengths h_p1_bits h_p1_next h_p2 h_p2_lengths h_p2_bits h_p2_next h_t_code_lengths h_t_code_bits h_t_code_next h_p3 h_p3_weights h_p3_parents h_p3_depths h_p3_leafSymbols h_p3_shrunk b_LENGTH_ORDER : Nat) (cB cI cJ : ClassId) (sz : Nat) (N : Nat) (v_t_itemCount : Int32) (v_t_symbols : Int32) (v_t_distances : Int32) (v_t_codes : Int32) (n_p1_lengths : Nat) (f_p1_lengths : Nat → Int32) (n_p2_lengths : Nat) (f_p2_lengths : Nat → Int32) (f_t_lengths : Nat → Int32) (f_t_counts : Nat → Int32) (f_t_items : Nat → Int32) (v_p3_leaves : Int32) (v_p3_made : Int32) (v_p3_nextLeaf : Int32) (v_p3_nextJoined : Int32) (n_t_code_lengths : Nat) (f_t_code_lengths : Nat → Int32) (f_p3_shrunk : Nat → Int32) (f_p3_weights : Nat → Int32) (f_p3_leafSymbols : Nat → Int32) (f_p3_parents : Nat → Int32) (f_p3_depths : Nat → Int32) (f_t_code_next : Nat → Int32) (n_t_code_bits : Nat) (f_t_code_bits : Nat → Int32) (o : Int32 × Int32 × Int32 × Int32 × (Nat → Int32) × (Nat → Int32) × (Nat → Int32) × Int32 × Int32 × Int32 × Int32 × (Nat → Int32) × (Nat → Int32) × (Nat → Int32) × (Nat → Int32) × (Nat → Int32) × (Nat → Int32) × (Nat → Int32) × (Nat → Int32)) (h : fHeader_prepare N n_p1_lengths f_p1_lengths n_p2_lengths f_p2_lengths f_t_lengths f_t_counts f_t_items n_t_code_lengths f_t_code_lengths f_p3_shrunk f_p3_weights f_p3_leafSymbols f_p3_parents f_p3_depths f_t_code_next n_t_code_bits f_t_code_bits = some o) : Met l y_Header_prepare w_Header_prepare ({ frames := 3, cells := 0, slots := 0, locals := 70 } : Room) (va_Pc [.ref h_t, .ref h_p1, .ref h_p2, .ref h_p3] (fun U => U.heap.size = sz ∧ va_P (dC, dI) vwCl [(h_t, .inr (4, [.ref h_t_code, .ref h_t_counts, .ref h_t_lengths, .ref h_t_items, .int v_t_itemCount, .int v_t_symbols, .int v_t_distances, .int v_t_codes])), (h_p1, .inr (2, [.ref h_p1_lengths, .ref h_p1_bits, .ref h_p1_next])), (h_p1_lengths, .inl (cI, n_p1_lengths, .inl f_p1_lengths)), (h_p2, .inr (2, [.ref h_p2_lengths, .ref h_p2_bits, .ref h_p2_next])), (h_p2_lengths, .inl (cI, n_p2_lengths, .inl f_p2_lengths)), (h_t_lengths, .inl (cI, 316, .inl f_t_lengths)), (h_t_counts, .inl (cI, 19, .inl f_t_counts)), (h_t_items, .inl (cI, 316, .inl f_t_items)), (h_t_code, .inr (2, [.ref h_t_code_lengths, .ref h_t_code_bits, .ref h_t_code_next])), (h_p3, .inr (8, [.ref h_p3_weights, .ref h_p3_parents, .ref h_p3_depths, .ref h_p3_leafSymbols, .ref h_p3_shrunk, .int v_p3_leaves, .int v_p3_made, .int v_p3_nextLeaf, .int v_p3_nextJoined])), (h_t_code_lengths, .inl (cI, n_t_code_lengths, .inl f_t_code_lengths)), (h_p3_shrunk, .inl (cI, 286, .inl f_p3_shrunk)), (h_p3_weights, .inl (cI, 572, .inl f_p3_weights)), (h_p3_leafSymbols, .inl (cI, 286, .inl f_p3_leafSymbols)), (h_p3_parents, .inl (cI, 572, .inl f_p3_parents)), (h_p3_depths, .inl (cI, 572, .inl f_p3_depths)), (h_t_code_next, .inl (cI, 17, .inl f_t_code_next)), (h_t_code_bits, .inl (cI, n_t_code_bits, .inl f_t_code_bits))] U.heap ∧ va_K (dC, dI) vwCl [(cB, .byte), (cI, .int), (cJ, .long)] U ∧ va_D (fun _ => True) [(h_t, .inr (4, [.ref h_t_code, .ref h_t_counts, .ref h_t_lengths, .ref h_t_items, .int v_t_itemCount, .int v_t_symbols, .int v_t_distances, .int v_t_codes])), (h_p1, .inr (2, [.ref h_p1_lengths, .ref h_p1_bits, .ref h_p1_next])), (h_p1_lengths, .inl (cI, n_p1_lengths, .inl f_p1_lengths)), (h_p2, .inr (2, [.ref h_p2_lengths, .ref h_p2_bits, .ref h_p2_next])), (h_p2_lengths, .inl (cI, n_p2_lengths, .inl f_p2_lengths)), (h_t_lengths, .inl (cI, 316, .inl f_t_lengths)), (h_t_counts, .inl (cI, 19, .inl f_t_counts)), (h_t_items, .inl (cI, 316, .inl f_t_items)), (h_t_code, .inr (2, [.ref h_t_code_lengths, .ref h_t_code_bits, .ref h_t_code_next])), (h_p3, .inr (8, [.ref h_p3_weights, .ref h_p3_parents, .ref h_p3_depths, .ref h_p3_leafSymbols, .ref h_p3_shrunk, .int v_p3_leaves, .int v_p3_made, .int v_p3_nextLeaf, .int v_p3_nextJoined])), (h_t_code_lengths, .inl (cI, n_t_code_lengths, .inl f_t_code_lengths)), (h_p3_shrunk, .inl (cI, 286, .inl f_p3_shrunk)), (h_p3_weights, .inl (cI, 572, .inl f_p3_weights)), (h_p3_leafSymbols, .inl (cI, 286, .inl f_p3_leafSymbols)), (h_p3_parents, .inl (cI, 572, .inl f_p3_parents)), (h_p3_depths, .inl (cI, 572, .inl f_p3_depths)), (h_t_code_next, .inl (cI, 17, .inl f_t_code_next)), (h_t_code_bits, .inl (cI, n_t_code_bits, .inl f_t_code_bits))] ∧ NW U ∧ roS "PackedBytes" "LENGTH_ORDER" (va_A [(h_t, .inr (4, [.ref h_t_code, .ref h_t_counts, .ref h_t_lengths, .ref h_t_items, .int v_t_itemCount, .int v_t_symbols, .int v_t_distances, .int v_t_codes])), (h_p1, .inr (2, [.ref h_p1_lengths, .ref h_p1_bits, .ref h_p1_next])), (h_p1_lengths, .inl (cI, n_p1_lengths, .inl f_p1_lengths)), (h_p2, .inr (2, [.ref h_p2_lengths, .ref h_p2_bits, .ref h_p2_next])), (h_p2_lengths, .inl (cI, n_p2_lengths, .inl f_p2_lengths)), (h_t_lengths, .inl (cI, 316, .inl f_t_lengths)), (h_t_counts, .inl (cI, 19, .inl f_t_counts)), (h_t_items, .inl (cI, 316, .inl f_t_items)), (h_t_code, .inr (2, [.ref h_t_code_lengths, .ref h_t_code_bits, .ref h_t_code_next])), (h_p3, .inr (8, [.ref h_p3_weights, .ref h_p3_parents, .ref h_p3_depths, .ref h_p3_leafSymbols, .ref h_p3_shrunk, .int v_p3_leaves, .int v_p3_made, .int v_p3_nextLeaf, .int v_p3_nextJoined])), (h_t_code_lengths, .inl (cI, n_t_code_lengths, .inl f_t_code_lengths)), (h_p3_shrunk, .inl (cI, 286, .inl f_p3_shrunk)), (h_p3_weights, .inl (cI, 572, .inl f_p3_weights)), (h_p3_leafSymbols, .inl (cI, 286, .inl f_p3_leafSymbols)), (h_p3_parents, .inl (cI, 572, .inl f_p3_parents)), (h_p3_depths, .inl (cI, 572, .inl f_p3_depths)), (h_t_code_next, .inl (cI, 17, .inl f_t_code_next)), (h_t_code_bits, .inl (cI, n_t_code_bits, .inl f_t_code_bits))] sz) b_LENGTH_ORDER 19 S_LENGTH_ORDER U)) (va_Qv (fun _ : Unit => True) (fun _ t => va_P (dC, dI) vwCl [(h_t, .inr (4, [.ref h_t_code, .ref h_t_counts, .ref h_t_lengths, .ref h_t_items, .int o.1, .int o.2.1, .int o.2.2.1, .int o.2.2.2.1])), (h_p1, .inr (2, [.ref h_p1_lengths, .ref h_p1_bits, .ref h_p1_next])), (h_p1_lengths, .inl (cI, n_p1_lengths, .inl f_p1_lengths)), (h_p2, .inr (2, [.ref h_p2_lengths, .ref h_p2_bits, .ref h_p2_next])), (h_p2_lengths, .inl (cI, n_p2_lengths, .inl f_p2_lengths)), (h_t_lengths, .inl (cI, 316, .inl o.2.2.2.2.1)), (h_t_counts, .inl (cI, 19, .inl o.2.2.2.2.2.1)), (h_t_items, .inl (cI, 316, .inl o.2.2.2.2.2.2.1)), (h_t_code, .inr (2, [.ref h_t_code_lengths, .ref h_t_code_bits, .ref h_t_code_next])), (h_p3, .inr (8, [.ref h_p3_weights, .ref h_p3_parents, .ref h_p3_depths, .ref h_p3_leafSymbols, .ref h_p3_shrunk, .int o.2.2.2.2.2.2.2.1, .int o.2.2.2.2.2.2.2.2.1, .int o.2.2.2.2.2.2.2.2.2.1, .int o.2.2.2.2.2.2.2.2.2.2.1])), (h_t_code_lengths, .inl (cI, n_t_code_lengths, .inl o.2.2.2.2.2.2.2.2.2.2.2.1)), (h_p3_shrunk, .inl (cI, 286, .inl o.2.2.2.2.2.2.2.2.2.2.2.2.1)), (h_p3_weights, .inl (cI, 572, .inl o.2.2.2.2.2.2.2.2.2.2.2.2.2.1)), (h_p3_leafSymbols, .inl (cI, 286, .inl o.2.2.2.2.2.2.2.2.2.2.2.2.2.2.1)), (h_p3_parents, .inl (cI, 572, .inl o.2.2.2.2.2.2.2.2.2.2.2.2.2.2.2.1)), (h_p3_depths, .inl (cI, 572, .inl o.2.2.2.2.2.2.2.2.2.2.2.2.2.2.2.2.1)), (h_t_code_next, .inl (cI, 17, .inl o.2.2.2.2.2.2.2.2.2.2.2.2.2.2.2.2.2.1)), (h_t_code_bits, .inl (cI, n_t_code_bits, .inl o.2.2.2.2.2.2.2.2.2.2.2.2.2.2.2.2.2.2))] t.heap ∧ va_K (dC, dI) vwCl [(cB, .byte), (cI, .int), (cJ, .long)] t ∧ va_D (va_A [(h_t, .inr (4, [.ref h_t_code, .ref h_t_counts, .ref h_t_lengths, .ref h_t_items, .int v_t_itemCount, .int v_t_symbols, .int v_t_distances, .int v_t_codes])), (h_p1, .inr (2, [.ref h_p1_lengths, .ref h_p1_bits, .ref h_p1_next])), (h_p1_lengths, .inl (cI, n_p1_lengths, .inl f_p1_lengths)), (h_p2, .inr (2, [.ref h_p2_lengths, .ref h_p2_bits, .ref h_p2_next])), (h_p2_lengths, .inl (cI, n_p2_lengths, .inl f_p2_lengths)), (h_t_lengths, .inl (cI, 316, .inl f_t_lengths)), (h_t_counts, .inl (cI, 19, .inl f_t_counts)), (h_t_items, .inl (cI, 316, .inl f_t_items)), (h_t_code, .inr (2, [.ref h_t_code_lengths, .ref h_t_code_bits, .ref h_t_code_next])), (h_p3, .inr (8, [.ref h_p3_weights, .ref h_p3_parents, .ref h_p3_depths, .ref h_p3_leafSymbols, .ref h_p3_shrunk, .int v_p3_leaves, .int v_p3_made, .int v_p3_nextLeaf, .int v_p3_nextJoined])), (h_t_code_lengths, .inl (cI, n_t_code_lengths, .inl f_t_code_lengths)), (h_p3_shrunk, .inl (cI, 286, .inl f_p3_shrunk)), (h_p3_weights, .inl (cI, 572, .inl f_p3_weights)), (h_p3_leafSymbols, .inl (cI, 286, .inl f_p3_leafSymbols)), (h_p3_parents, .inl (cI, 572, .inl f_p3_parents)), (h_p3_depths, .inl (cI, 572, .inl f_p3_depths)), (h_t_code_next, .inl (cI, 17, .inl f_t_code_next)), (h_t_code_bits, .inl (cI, n_t_code_bits, .inl f_t_code_bits))] sz) [(h_t, .inr (4, [.ref h_t_code, .ref h_t_counts, .ref h_t_lengths, .ref h_t_items, .int o.1, .int o.2.1, .int o.2.2.1, .int o.2.2.2.1])), (h_p1, .inr (2, [.ref h_p1_lengths, .ref h_p1_bits, .ref h_p1_next])), (h_p1_lengths, .inl (cI, n_p1_lengths, .inl f_p1_lengths)), (h_p2, .inr (2, [.ref h_p2_lengths, .ref h_p2_bits, .ref h_p2_next])), (h_p2_lengths, .inl (cI, n_p2_lengths, .inl f_p2_lengths)), (h_t_lengths, .inl (cI, 316, .inl o.2.2.2.2.1)), (h_t_counts, .inl (cI, 19, .inl o.2.2.2.2.2.1)), (h_t_items, .inl (cI, 316, .inl o.2.2.2.2.2.2.1)), (h_t_code, .inr (2, [.ref h_t_code_lengths, .ref h_t_code_bits, .ref h_t_code_next])), (h_p3, .inr (8, [.ref h_p3_weights, .ref h_p3_parents, .ref h_p3_depths, .ref h_p3_leafSymbols, .ref h_p3_shrunk, .int o.2.2.2.2.2.2.2.1, .int o.2.2.2.2.2.2.2.2.1, .int o.2.2.2.2.2.2.2.2.2.1, .int o.2.2.2.2.2.2.2.2.2.2.1])), (h_t_code_lengths, .inl (cI, n_t_code_lengths, .inl o.2.2.2.2.2.2.2.2.2.2.2.1)), (h_p3_shrunk, .inl (cI, 286, .inl o.2.2.2.2.2.2.2.2.2.2.2.2.1)), (h_p3_weights, .inl (cI, 572, .inl o.2.2.2.2.2.2.2.2.2.2.2.2.2.1)), (h_p3_leafSymbols, .inl (cI, 286, .inl o.2.2.2.2.2.2.2.2.2.2.2.2.2.2.1)), (h_p3_parents, .inl (cI, 572, .inl o.2.2.2.2.2.2.2.2.2.2.2.2.2.2.2.1)), (h_p3_depths, .inl (cI, 572, .inl o.2.2.2.2.2.2.2.2.2.2.2.2.2.2.2.2.1)), (h_t_code_next, .inl (cI, 17, .inl o.2.2.2.2.2.2.2.2.2.2.2.2.2.2.2.2.2.1)), (h_t_code_bits, .inl (cI, n_t_code_bits, .inl o.2.2.2.2.2.2.2.2.2.2.2.2.2.2.2.2.2.2))]) (va_A [(h_t, .inr (4, [.ref h_t_code, .ref h_t_counts, .ref h_t_lengths, .ref h_t_items, .int v_t_itemCount, .int v_t_symbols, .int v_t_distances, .int v_t_codes])), (h_p1, .inr (2, [.ref h_p1_lengths, .ref h_p1_bits, .ref h_p1_next])), (h_p1_lengths, .inl (cI, n_p1_lengths, .inl f_p1_lengths)), (h_p2, .inr (2, [.ref h_p2_lengths, .ref h_p2_bits, .ref h_p2_next])), (h_p2_lengths, .inl (cI, n_p2_lengths, .inl f_p2_lengths)), (h_t_lengths, .inl (cI, 316, .inl f_t_lengths)), (h_t_counts, .inl (cI, 19, .inl f_t_counts)), (h_t_items, .inl (cI, 316, .inl f_t_items)), (h_t_code, .inr (2, [.ref h_t_code_lengths, .ref h_t_code_bits, .ref h_t_code_next])), (h_p3, .inr (8, [.ref h_p3_weights, .ref h_p3_parents, .ref h_p3_depths, .ref h_p3_leafSymbols, .ref h_p3_shrunk, .int v_p3_leaves, .int v_p3_made, .int v_p3_nextLeaf, .int v_p3_nextJoined])), (h_t_code_lengths, .inl (cI, n_t_code_lengths, .inl f_t_code_lengths)), (h_p3_shrunk, .inl (cI, 286, .inl f_p3_shrunk)), (h_p3_weights, .inl (cI, 572, .inl f_p3_weights)), (h_p3_leafSymbols, .inl (cI, 286, .inl f_p3_leafSymbols)), (h_p3_parents, .inl (cI, 572, .inl f_p3_parents)), (h_p3_depths, .inl (cI, 572, .inl f_p3_depths)), (h_t_code_next, .inl (cI, 17, .inl f_t_code_next)), (h_t_code_bits, .inl (cI, n_t_code_bits, .inl f_t_code_bits))] sz)) 0 0 (va_A [(h_t, .inr (4, [.ref h_t_code, .ref h_t_counts, .ref h_t_lengths, .ref h_t_items, .int v_t_itemCount, .int v_t_symbols, .int v_t_distances, .int v_t_codes])), (h_p1, .inr (2, [.ref h_p1_lengths, .ref h_p1_bits, .ref h_p1_next])), (h_p1_lengths, .inl (cI, n_p1_lengths, .inl f_p1_lengths)), (h_p2, .inr (2, [.ref h_p2_lengths, .ref h_p2_bits, .ref h_p2_next])), (h_p2_lengths, .inl (cI, n_p2_lengths, .inl f_p2_lengths)), (h_t_lengths, .inl (cI, 316, .inl f_t_lengths)), (h_t_counts, .inl (cI, 19, .inl f_t_counts)), (h_t_items, .inl (cI, 316, .inl f_t_items)), (h_t_code, .inr (2, [.ref h_t_code_lengths, .ref h_t_code_bits, .ref h_t_code_next])), (h_p3, .inr (8, [.ref h_p3_weights, .ref h_p3_parents, .ref h_p3_depths, .ref h_p3_leafSymbols, .ref h_p3_shrunk, .int v_p3_leaves, .int v_p3_made, .int v_p3_nextLeaf, .int v_p3_nextJoined])), (h_t_code_lengths, .inl (cI, n_t_code_lengths, .inl f_t_code_lengths)), (h_p3_shrunk, .inl (cI, 286, .inl f_p3_shrunk)), (h_p3_weights, .inl (cI, 572, .inl f_p3_weights)), (h_p3_leafSymbols, .inl (cI, 286, .inl f_p3_leafSymbols)), (h_p3_parents, .inl (cI, 572, .inl f_p3_parents)), (h_p3_depths, .inl (cI, 572, .inl f_p3_depths)), (h_t_code_next, .inl (cI, 17, .inl f_t_code_next)), (h_t_code_bits, .inl (cI, n_t_code_bits, .inl f_t_code_bits))] sz) := by
  refine Met.ofW (cc := b_Header_prepare) (maxL := 4) (ret := none) (by decide) rfl ?_
  intro p e s m args below meth c s₁ B hml hv
  obtain ⟨rfl, hsz, hP, hK, hD0, hN, ro_b_LENGTH_ORDER⟩ := hv
  have hx := B.exec
  have hb := B.bytes
  have hr := B.returns
  have hts := atoms_spec (ws := w_Header_prepare) B.pre
  have ht : ∀ w ∈ TB, w.before ([.ref h_t, .ref h_p1, .ref h_p2, .ref h_p3]).toArray s = true := fun w h => hts w (List.mem_cons_of_mem _ h)
  have hown : s.vm.findClass R_Header = some m.cls := findClass_of_methodNamed B.named
  have hlocks := B.notSynchronized
  subst hsz
  have hD := hD0.self (sz := s.heap.size)
  generalize hAe : va_A [(h_t, .inr (4, [.ref h_t_code, .ref h_t_counts, .ref h_t_lengths, .ref h_t_items, .int v_t_itemCount, .int v_t_symbols, .int v_t_distances, .int v_t_codes])), (h_p1, .inr (2, [.ref h_p1_lengths, .ref h_p1_bits, .ref h_p1_next])), (h_p1_lengths, .inl (cI, n_p1_lengths, .inl f_p1_lengths)), (h_p2, .inr (2, [.ref h_p2_lengths, .ref h_p2_bits, .ref h_p2_next])), (h_p2_lengths, .inl (cI, n_p2_lengths, .inl f_p2_lengths)), (h_t_lengths, .inl (cI, 316, .inl f_t_lengths)), (h_t_counts, .inl (cI, 19, .inl f_t_counts)), (h_t_items, .inl (cI, 316, .inl f_t_items)), (h_t_code, .inr (2, [.ref h_t_code_lengths, .ref h_t_code_bits, .ref h_t_code_next])), (h_p3, .inr (8, [.ref h_p3_weights, .ref h_p3_parents, .ref h_p3_depths, .ref h_p3_leafSymbols, .ref h_p3_shrunk, .int v_p3_leaves, .int v_p3_made, .int v_p3_nextLeaf, .int v_p3_nextJoined])), (h_t_code_lengths, .inl (cI, n_t_code_lengths, .inl f_t_code_lengths)), (h_p3_shrunk, .inl (cI, 286, .inl f_p3_shrunk)), (h_p3_weights, .inl (cI, 572, .inl f_p3_weights)), (h_p3_leafSymbols, .inl (cI, 286, .inl f_p3_leafSymbols)), (h_p3_parents, .inl (cI, 572, .inl f_p3_parents)), (h_p3_depths, .inl (cI, 572, .inl f_p3_depths)), (h_t_code_next, .inl (cI, 17, .inl f_t_code_next)), (h_t_code_bits, .inl (cI, n_t_code_bits, .inl f_t_code_bits))] s.heap.size = A at hD ro_b_LENGTH_ORDER ⊢
  have hA : ∀ q : Nat, s.heap.size ≤ q → A q := fun q h => by rw [← hAe]; exact Or.inr h
  have hS : va_S A s.heap s.heap [] := va_S.rf
  have hP : va_P (dC, dI) vwCl [(h_t, .inr (4, [.ref h_t_code, .ref h_t_counts, .ref h_t_lengths, .ref h_t_items, .int v_t_itemCount, .int v_t_symbols, .int v_t_distances, .int v_t_codes])), (h_p1, .inr (2, [.ref h_p1_lengths, .ref h_p1_bits, .ref h_p1_next])), (h_p1_lengths, .inl (cI, n_p1_lengths, .inl f_p1_lengths)), (h_p2, .inr (2, [.ref h_p2_lengths, .ref h_p2_bits, .ref h_p2_next])), (h_p2_lengths, .inl (cI, n_p2_lengths, .inl f_p2_lengths)), (h_t_lengths, .inl (cI, 316, .inl f_t_lengths)), (h_t_counts, .inl (cI, 19, .inl f_t_counts)), (h_t_items, .inl (cI, 316, .inl f_t_items)), (h_t_code, .inr (2, [.ref h_t_code_lengths, .ref h_t_code_bits, .ref h_t_code_next])), (h_p3, .inr (8, [.ref h_p3_weights, .ref h_p3_parents, .ref h_p3_depths, .ref h_p3_leafSymbols, .ref h_p3_shrunk, .int v_p3_leaves, .int v_p3_made, .int v_p3_nextLeaf, .int v_p3_nextJoined])), (h_t_code_lengths, .inl (cI, n_t_code_lengths, .inl f_t_code_lengths)), (h_p3_shrunk, .inl (cI, 286, .inl f_p3_shrunk)), (h_p3_weights, .inl (cI, 572, .inl f_p3_weights)), (h_p3_leafSymbols, .inl (cI, 286, .inl f_p3_leafSymbols)), (h_p3_parents, .inl (cI, 572, .inl f_p3_parents)), (h_p3_depths, .inl (cI, 572, .inl f_p3_depths)), (h_t_code_next, .inl (cI, 17, .inl f_t_code_next)), (h_t_code_bits, .inl (cI, n_t_code_bits, .inl f_t_code_bits))] s.heap := hP
  have C : CX p s m ([.ref h_t, .ref h_p1, .ref h_p2, .ref h_p3]).toArray c b_Header_prepare 4 R_Header A (dC, dI) [(cB, .byte), (cI, .int), (cJ, .long)] := ⟨hx, hb, hml, hown, ht, hA, hK, hN⟩
  have hl := lv_entry ([.ref h_t, .ref h_p1, .ref h_p2, .ref h_p3]) (n := 4) (Nat.le_of_ble_eq_true rfl)
  rw [lg_entry_eq]
  generalize (lg_sl ([.ref h_t, .ref h_p1, .ref h_p2, .ref h_p3]) ++ List.replicate (4 - (lg_sl ([.ref h_t, .ref h_p1, .ref h_p2, .ref h_p3])).length) Slot.unset).toArray = ls at hl ⊢
  have hl : lv_has ls 4 [(0, .ref h_t), (1, .ref h_p1), (2, .ref h_p2), (3, .ref h_p3)] := hl
  refine lv_aload_n hx hb d_Header_prepare_0 rfl (lv_at hl 0 rfl) ?_
  refine lv_aload_n hx hb d_Header_prepare_1 rfl (lv_at hl 1 rfl) ?_
  refine va_get (D := (dC, dI)) (ci := 2) (v := .ref h_p1_lengths) (C := R_Code) (T := F_Code) (N := 3) hx hb ht in_Code hown hK hP 1 rfl rfl 0 (by decide) (ht _ k_174) (fun _ h9 => h9) rfl d_Header_prepare_2 ?_
  refine lv_sipush (v := (257 : Int32)) hx hb d_Header_prepare_5 (by decide) ?_
  obtain ⟨y1, hy1, h⟩ := bd h
  have hPc := hP.sub (ws' := [(h_p1_lengths, .inl (cI, n_p1_lengths, .inl f_p1_lengths))]) [2] rfl
  have hDc := hD.sub (ws' := [(h_p1_lengths, .inl (cI, n_p1_lengths, .inl f_p1_lengths))]) [2] (by decide) rfl
  have hFc := va_free (wc := [(h_p1_lengths, .inl (cI, n_p1_lengths, .inl f_p1_lengths))]) hD hS hA [2] rfl
  refine va_calli (va_runS (As := [.ref h_p1_lengths, .int (257 : Int32)]) (rest := [.ref h_t]) ⟨hx, hb, hml, hown, ht⟩ (cHeader_countUsed l dC dI h_p1_lengths cB cI cJ _ N (257 : Int32) n_p1_lengths f_p1_lengths y1 hy1) (⟨callB_of 2 ht (gTB (k_544)) rfl rfl rfl (ht _ k_69) (ht _ k_542) (by decide +kernel) ⟨Nat.le_of_ble_eq_true rfl, Nat.le_of_ble_eq_true rfl⟩, ht _ k_543⟩) ⟨fun a U g mk q => by obtain ⟨q0, q1, qP, qK, qD, qN⟩ := q; exact ⟨q0, q1, qP, va_K.moved (u := U) (U := U.calling g mk a) (Vm.Alike.refl U.vm) qK, qD, NW_same (u := U) rfl qN⟩, fun U hU hW => ⟨rfl, by rw [hU], by rw [hU]; exact hPc, va_K.moved hW.alike hK, hDc.weaken (fun _ _ _ _ => trivial), NW_warm hW hN⟩⟩ rfl rfl hl.1 rfl (lv_room (Nat.le_of_ble_eq_true rfl)) d_Header_prepare_8 ⟨Nat.le_of_ble_eq_true rfl, Nat.le_of_ble_eq_true rfl⟩) hS (fun q _ h => hFc q h) hFc (fun ry1 u t H1 locs htH hvm hw hB hz1 hk1 hS => ?_)
  obtain ⟨hP1, hK1, hD1⟩ := hB
  rw [htH] at hP1
  obtain ⟨hP, hD⟩ := va_join (wr := [(h_t, .inr (4, [.ref h_t_code, .ref h_t_counts, .ref h_t_lengths, .ref h_t_items, .int v_t_itemCount, .int v_t_symbols, .int v_t_distances, .int v_t_codes])), (h_p1, .inr (2, [.ref h_p1_lengths, .ref h_p1_bits, .ref h_p1_next])), (h_p2, .inr (2, [.ref h_p2_lengths, .ref h_p2_bits, .ref h_p2_next])), (h_p2_lengths, .inl (cI, n_p2_lengths, .inl f_p2_lengths)), (h_t_lengths, .inl (cI, 316, .inl f_t_lengths)), (h_t_counts, .inl (cI, 19, .inl f_t_counts)), (h_t_items, .inl (cI, 316, .inl f_t_items)), (h_t_code, .inr (2, [.ref h_t_code_lengths, .ref h_t_code_bits, .ref h_t_code_next])), (h_p3, .inr (8, [.ref h_p3_weights, .ref h_p3_parents, .ref h_p3_depths, .ref h_p3_leafSymbols, .ref h_p3_shrunk, .int v_p3_leaves, .int v_p3_made, .int v_p3_nextLeaf, .int v_p3_nextJoined])), (h_t_code_lengths, .inl (cI, n_t_code_lengths, .inl f_t_code_lengths)), (h_p3_shrunk, .inl (cI, 286, .inl f_p3_shrunk)), (h_p3_weights, .inl (cI, 572, .inl f_p3_weights)), (h_p3_leafSymbols, .inl (cI, 286, .inl f_p3_leafSymbols)), (h_p3_parents, .inl (cI, 572, .inl f_p3_parents)), (h_p3_depths, .inl (cI, 572, .inl f_p3_depths)), (h_t_code_next, .inl (cI, 17, .inl f_t_code_next)), (h_t_code_bits, .inl (cI, n_t_code_bits, .inl f_t_code_bits))]) (w1 := [(h_p1_lengths, .inl (cI, n_p1_lengths, .inl f_p1_lengths))]) hP hD [2] [0, 1, 3, 4, 5, 6, 7, 8, 9, 10, 11, 12, 13, 14, 15, 16, 17] rfl rfl (by decide) (by decide) hk1 hFc hP1 hD1
  generalize H1 = H at hP hS ⊢
  have hP : va_P (dC, dI) vwCl [(h_t, .inr (4, [.ref h_t_code, .ref h_t_counts, .ref h_t_lengths, .ref h_t_items, .int v_t_itemCount, .int v_t_symbols, .int v_t_distances, .int v_t_codes])), (h_p1, .inr (2, [.ref h_p1_lengths, .ref h_p1_bits, .ref h_p1_next])), (h_p1_lengths, .inl (cI, n_p1_lengths, .inl f_p1_lengths)), (h_p2, .inr (2, [.ref h_p2_lengths, .ref h_p2_bits, .ref h_p2_next])), (h_p2_lengths, .inl (cI, n_p2_lengths, .inl f_p2_lengths)), (h_t_lengths, .inl (cI, 316, .inl f_t_lengths)), (h_t_counts, .inl (cI, 19, .inl f_t_counts)), (h_t_items, .inl (cI, 316, .inl f_t_items)), (h_t_code, .inr (2, [.ref h_t_code_lengths, .ref h_t_code_bits, .ref h_t_code_next])), (h_p3, .inr (8, [.ref h_p3_weights, .ref h_p3_parents, .ref h_p3_depths, .ref h_p3_leafSymbols, .ref h_p3_shrunk, .int v_p3_leaves, .int v_p3_made, .int v_p3_nextLeaf, .int v_p3_nextJoined])), (h_t_code_lengths, .inl (cI, n_t_code_lengths, .inl f_t_code_lengths)), (h_p3_shrunk, .inl (cI, 286, .inl f_p3_shrunk)), (h_p3_weights, .inl (cI, 572, .inl f_p3_weights)), (h_p3_leafSymbols, .inl (cI, 286, .inl f_p3_leafSymbols)), (h_p3_parents, .inl (cI, 572, .inl f_p3_parents)), (h_p3_depths, .inl (cI, 572, .inl f_p3_depths)), (h_t_code_next, .inl (cI, 17, .inl f_t_code_next)), (h_t_code_bits, .inl (cI, n_t_code_bits, .inl f_t_code_bits))] H := hP.sub [0, 1, 17, 2, 3, 4, 5, 6, 7, 8, 9, 10, 11, 12, 13, 14, 15, 16] rfl
  have hD : va_D A [(h_t, .inr (4, [.ref h_t_code, .ref h_t_counts, .ref h_t_lengths, .ref h_t_items, .int v_t_itemCount, .int v_t_symbols, .int v_t_distances, .int v_t_codes])), (h_p1, .inr (2, [.ref h_p1_lengths, .ref h_p1_bits, .ref h_p1_next])), (h_p1_lengths, .inl (cI, n_p1_lengths, .inl f_p1_lengths)), (h_p2, .inr (2, [.ref h_p2_lengths, .ref h_p2_bits, .ref h_p2_next])), (h_p2_lengths, .inl (cI, n_p2_lengths, .inl f_p2_lengths)), (h_t_lengths, .inl (cI, 316, .inl f_t_lengths)), (h_t_counts, .inl (cI, 19, .inl f_t_counts)), (h_t_items, .inl (cI, 316, .inl f_t_items)), (h_t_code, .inr (2, [.ref h_t_code_lengths, .ref h_t_code_bits, .ref h_t_code_next])), (h_p3, .inr (8, [.ref h_p3_weights, .ref h_p3_parents, .ref h_p3_depths, .ref h_p3_leafSymbols, .ref h_p3_shrunk, .int v_p3_leaves, .int v_p3_made, .int v_p3_nextLeaf, .int v_p3_nextJoined])), (h_t_code_lengths, .inl (cI, n_t_code_lengths, .inl f_t_code_lengths)), (h_p3_shrunk, .inl (cI, 286, .inl f_p3_shrunk)), (h_p3_weights, .inl (cI, 572, .inl f_p3_weights)), (h_p3_leafSymbols, .inl (cI, 286, .inl f_p3_leafSymbols)), (h_p3_parents, .inl (cI, 572, .inl f_p3_parents)), (h_p3_depths, .inl (cI, 572, .inl f_p3_depths)), (h_t_code_next, .inl (cI, 17, .inl f_t_code_next)), (h_t_code_bits, .inl (cI, n_t_code_bits, .inl f_t_code_bits))] := hD.sub [0, 1, 17, 2, 3, 4, 5, 6, 7, 8, 9, 10, 11, 12, 13, 14, 15, 16] (by decide) rfl
  replace hw := hw.symm
  subst hw
  refine va_put (D := (dC, dI)) (ci := 4) (v := .int y1) (ty := .int) (C := R_Header) (T := F_Header) (N := 8) hx hb ht in_Header t_Header t_Header_ok n_Header hown hK hP hD hS 0 rfl rfl 5 (by decide) (ht _ k_193) (fun _ h9 => h9) rfl (by decide +kernel) rfl rfl (Nat.le_of_ble_eq_true rfl) d_Header_prepare_11 (fun H locs hP hD hS => ?_)
  have hP : va_P (dC, dI) vwCl [(h_t, .inr (4, [.ref h_t_code, .ref h_t_counts, .ref h_t_lengths, .ref h_t_items, .int v_t_itemCount, .int y1, .int v_t_distances, .int v_t_codes])), (h_p1, .inr (2, [.ref h_p1_lengths, .ref h_p1_bits, .ref h_p1_next])), (h_p1_lengths, .inl (cI, n_p1_lengths, .inl f_p1_lengths)), (h_p2, .inr (2, [.ref h_p2_lengths, .ref h_p2_bits, .ref h_p2_next])), (h_p2_lengths, .inl (cI, n_p2_lengths, .inl f_p2_lengths)), (h_t_lengths, .inl (cI, 316, .inl f_t_lengths)), (h_t_counts, .inl (cI, 19, .inl f_t_counts)), (h_t_items, .inl (cI, 316, .inl f_t_items)), (h_t_code, .inr (2, [.ref h_t_code_lengths, .ref h_t_code_bits, .ref h_t_code_next])), (h_p3, .inr (8, [.ref h_p3_weights, .ref h_p3_parents, .ref h_p3_depths, .ref h_p3_leafSymbols, .ref h_p3_shrunk, .int v_p3_leaves, .int v_p3_made, .int v_p3_nextLeaf, .int v_p3_nextJoined])), (h_t_code_lengths, .inl (cI, n_t_code_lengths, .inl f_t_code_lengths)), (h_p3_shrunk, .inl (cI, 286, .inl f_p3_shrunk)), (h_p3_weights, .inl (cI, 572, .inl f_p3_weights)), (h_p3_leafSymbols, .inl (cI, 286, .inl f_p3_leafSymbols)), (h_p3_parents, .inl (cI, 572, .inl f_p3_parents)), (h_p3_depths, .inl (cI, 572, .inl f_p3_depths)), (h_t_code_next, .inl (cI, 17, .inl f_t_code_next)), (h_t_code_bits, .inl (cI, n_t_code_bits, .inl f_t_code_bits))] H := hP
  have hD : va_D A [(h_t, .inr (4, [.ref h_t_code, .ref h_t_counts, .ref h_t_lengths, .ref h_t_items, .int v_t_itemCount, .int y1, .int v_t_distances, .int v_t_codes])), (h_p1, .inr (2, [.ref h_p1_lengths, .ref h_p1_bits, .ref h_p1_next])), (h_p1_lengths, .inl (cI, n_p1_lengths, .inl f_p1_lengths)), (h_p2, .inr (2, [.ref h_p2_lengths, .ref h_p2_bits, .ref h_p2_next])), (h_p2_lengths, .inl (cI, n_p2_lengths, .inl f_p2_lengths)), (h_t_lengths, .inl (cI, 316, .inl f_t_lengths)), (h_t_counts, .inl (cI, 19, .inl f_t_counts)), (h_t_items, .inl (cI, 316, .inl f_t_items)), (h_t_code, .inr (2, [.ref h_t_code_lengths, .ref h_t_code_bits, .ref h_t_code_next])), (h_p3, .inr (8, [.ref h_p3_weights, .ref h_p3_parents, .ref h_p3_depths, .ref h_p3_leafSymbols, .ref h_p3_shrunk, .int v_p3_leaves, .int v_p3_made, .int v_p3_nextLeaf, .int v_p3_nextJoined])), (h_t_code_lengths, .inl (cI, n_t_code_lengths, .inl f_t_code_lengths)), (h_p3_shrunk, .inl (cI, 286, .inl f_p3_shrunk)), (h_p3_weights, .inl (cI, 572, .inl f_p3_weights)), (h_p3_leafSymbols, .inl (cI, 286, .inl f_p3_leafSymbols)), (h_p3_parents, .inl (cI, 572, .inl f_p3_parents)), (h_p3_depths, .inl (cI, 572, .inl f_p3_depths)), (h_t_code_next, .inl (cI, 17, .inl f_t_code_next)), (h_t_code_bits, .inl (cI, n_t_code_bits, .inl f_t_code_bits))] := hD
  refine lv_aload_n hx hb d_Header_prepare_14 rfl (lv_at hl 0 rfl) ?_
  refine lv_aload_n hx hb d_Header_prepare_15 rfl (lv_at hl 2 rfl) ?_
  refine va_get (D := (dC, dI)) (ci := 2) (v := .ref h_p2_lengths) (C := R_Code) (T := F_Code) (N := 3) hx hb ht in_Code hown hK hP 3 rfl rfl 0 (by decide) (ht _ k_174) (fun _ h9 => h9) rfl d_Header_prepare_16 ?_
  refine lv_iconst (v := (1 : Int32)) hx hb d_Header_prepare_19 (by decide) ?_
  obtain ⟨y2, hy2, h⟩ := bd h
  have hPc := hP.sub (ws' := [(h_p2_lengths, .inl (cI, n_p2_lengths, .inl f_p2_lengths))]) [4] rfl
  have hDc := hD.sub (ws' := [(h_p2_lengths, .inl (cI, n_p2_lengths, .inl f_p2_lengths))]) [4] (by decide) rfl
  have hFc := va_free (wc := [(h_p2_lengths, .inl (cI, n_p2_lengths, .inl f_p2_lengths))]) hD hS hA [4] rfl
  refine va_calli (va_runS (As := [.ref h_p2_lengths, .int (1 : Int32)]) (rest := [.ref h_t]) ⟨hx, hb, hml, hown, ht⟩ (cHeader_countUsed l dC dI h_p2_lengths cB cI cJ _ N (1 : Int32) n_p2_lengths f_p2_lengths y2 hy2) (⟨callB_of 2 ht (gTB (k_544)) rfl rfl rfl (ht _ k_69) (ht _ k_542) (by decide +kernel) ⟨Nat.le_of_ble_eq_true rfl, Nat.le_of_ble_eq_true rfl⟩, ht _ k_543⟩) ⟨fun a U g mk q => by obtain ⟨q0, q1, qP, qK, qD, qN⟩ := q; exact ⟨q0, q1, qP, va_K.moved (u := U) (U := U.calling g mk a) (Vm.Alike.refl U.vm) qK, qD, NW_same (u := U) rfl qN⟩, fun U hU hW => ⟨rfl, by rw [hU], by rw [hU]; exact hPc, va_K.moved hW.alike hK, hDc.weaken (fun _ _ _ _ => trivial), NW_warm hW hN⟩⟩ rfl rfl hl.1 rfl (lv_room (Nat.le_of_ble_eq_true rfl)) d_Header_prepare_20 ⟨Nat.le_of_ble_eq_true rfl, Nat.le_of_ble_eq_true rfl⟩) hS (fun q _ h => hFc q h) hFc (fun ry2 u t H1 locs htH hvm hw hB hz1 hk1 hS => ?_)
  obtain ⟨hP1, hK1, hD1⟩ := hB
  rw [htH] at hP1
  obtain ⟨hP, hD⟩ := va_join (wr := [(h_t, .inr (4, [.ref h_t_code, .ref h_t_counts, .ref h_t_lengths, .ref h_t_items, .int v_t_itemCount, .int y1, .int v_t_distances, .int v_t_codes])), (h_p1, .inr (2, [.ref h_p1_lengths, .ref h_p1_bits, .ref h_p1_next])), (h_p1_lengths, .inl (cI, n_p1_lengths, .inl f_p1_lengths)), (h_p2, .inr (2, [.ref h_p2_lengths, .ref h_p2_bits, .ref h_p2_next])), (h_t_lengths, .inl (cI, 316, .inl f_t_lengths)), (h_t_counts, .inl (cI, 19, .inl f_t_counts)), (h_t_items, .inl (cI, 316, .inl f_t_items)), (h_t_code, .inr (2, [.ref h_t_code_lengths, .ref h_t_code_bits, .ref h_t_code_next])), (h_p3, .inr (8, [.ref h_p3_weights, .ref h_p3_parents, .ref h_p3_depths, .ref h_p3_leafSymbols, .ref h_p3_shrunk, .int v_p3_leaves, .int v_p3_made, .int v_p3_nextLeaf, .int v_p3_nextJoined])), (h_t_code_lengths, .inl (cI, n_t_code_lengths, .inl f_t_code_lengths)), (h_p3_shrunk, .inl (cI, 286, .inl f_p3_shrunk)), (h_p3_weights, .inl (cI, 572, .inl f_p3_weights)), (h_p3_leafSymbols, .inl (cI, 286, .inl f_p3_leafSymbols)), (h_p3_parents, .inl (cI, 572, .inl f_p3_parents)), (h_p3_depths, .inl (cI, 572, .inl f_p3_depths)), (h_t_code_next, .inl (cI, 17, .inl f_t_code_next)), (h_t_code_bits, .inl (cI, n_t_code_bits, .inl f_t_code_bits))]) (w1 := [(h_p2_lengths, .inl (cI, n_p2_lengths, .inl f_p2_lengths))]) hP hD [4] [0, 1, 2, 3, 5, 6, 7, 8, 9, 10, 11, 12, 13, 14, 15, 16, 17] rfl rfl (by decide) (by decide) hk1 hFc hP1 hD1
  generalize H1 = H at hP hS ⊢
  have hP : va_P (dC, dI) vwCl [(h_t, .inr (4, [.ref h_t_code, .ref h_t_counts, .ref h_t_lengths, .ref h_t_items, .int v_t_itemCount, .int y1, .int v_t_distances, .int v_t_codes])), (h_p1, .inr (2, [.ref h_p1_lengths, .ref h_p1_bits, .ref h_p1_next])), (h_p1_lengths, .inl (cI, n_p1_lengths, .inl f_p1_lengths)), (h_p2, .inr (2, [.ref h_p2_lengths, .ref h_p2_bits, .ref h_p2_next])), (h_p2_lengths, .inl (cI, n_p2_lengths, .inl f_p2_lengths)), (h_t_lengths, .inl (cI, 316, .inl f_t_lengths)), (h_t_counts, .inl (cI, 19, .inl f_t_counts)), (h_t_items, .inl (cI, 316, .inl f_t_items)), (h_t_code, .inr (2, [.ref h_t_code_lengths, .ref h_t_code_bits, .ref h_t_code_next])), (h_p3, .inr (8, [.ref h_p3_weights, .ref h_p3_parents, .ref h_p3_depths, .ref h_p3_leafSymbols, .ref h_p3_shrunk, .int v_p3_leaves, .int v_p3_made, .int v_p3_nextLeaf, .int v_p3_nextJoined])), (h_t_code_lengths, .inl (cI, n_t_code_lengths, .inl f_t_code_lengths)), (h_p3_shrunk, .inl (cI, 286, .inl f_p3_shrunk)), (h_p3_weights, .inl (cI, 572, .inl f_p3_weights)), (h_p3_leafSymbols, .inl (cI, 286, .inl f_p3_leafSymbols)), (h_p3_parents, .inl (cI, 572, .inl f_p3_parents)), (h_p3_depths, .inl (cI, 572, .inl f_p3_depths)), (h_t_code_next, .inl (cI, 17, .inl f_t_code_next)), (h_t_code_bits, .inl (cI, n_t_code_bits, .inl f_t_code_bits))] H := hP.sub [0, 1, 2, 3, 17, 4, 5, 6, 7, 8, 9, 10, 11, 12, 13, 14, 15, 16] rfl
  have hD : va_D A [(h_t, .inr (4, [.ref h_t_code, .ref h_t_counts, .ref h_t_lengths, .ref h_t_items, .int v_t_itemCount, .int y1, .int v_t_distances, .int v_t_codes])), (h_p1, .inr (2, [.ref h_p1_lengths, .ref h_p1_bits, .ref h_p1_next])), (h_p1_lengths, .inl (cI, n_p1_lengths, .inl f_p1_lengths)), (h_p2, .inr (2, [.ref h_p2_lengths, .ref h_p2_bits, .ref h_p2_next])), (h_p2_lengths, .inl (cI, n_p2_lengths, .inl f_p2_lengths)), (h_t_lengths, .inl (cI, 316, .inl f_t_lengths)), (h_t_counts, .inl (cI, 19, .inl f_t_counts)), (h_t_items, .inl (cI, 316, .inl f_t_items)), (h_t_code, .inr (2, [.ref h_t_code_lengths, .ref h_t_code_bits, .ref h_t_code_next])), (h_p3, .inr (8, [.ref h_p3_weights, .ref h_p3_parents, .ref h_p3_depths, .ref h_p3_leafSymbols, .ref h_p3_shrunk, .int v_p3_leaves, .int v_p3_made, .int v_p3_nextLeaf, .int v_p3_nextJoined])), (h_t_code_lengths, .inl (cI, n_t_code_lengths, .inl f_t_code_lengths)), (h_p3_shrunk, .inl (cI, 286, .inl f_p3_shrunk)), (h_p3_weights, .inl (cI, 572, .inl f_p3_weights)), (h_p3_leafSymbols, .inl (cI, 286, .inl f_p3_leafSymbols)), (h_p3_parents, .inl (cI, 572, .inl f_p3_parents)), (h_p3_depths, .inl (cI, 572, .inl f_p3_depths)), (h_t_code_next, .inl (cI, 17, .inl f_t_code_next)), (h_t_code_bits, .inl (cI, n_t_code_bits, .inl f_t_code_bits))] := hD.sub [0, 1, 2, 3, 17, 4, 5, 6, 7, 8, 9, 10, 11, 12, 13, 14, 15, 16] (by decide) rfl
  replace hw := hw.symm
  subst hw
  refine va_put (D := (dC, dI)) (ci := 4) (v := .int y2) (ty := .int) (C := R_Header) (T := F_Header) (N := 8) hx hb ht in_Header t_Header t_Header_ok n_Header hown hK hP hD hS 0 rfl rfl 6 (by decide) (ht _ k_194) (fun _ h9 => h9) rfl (by decide +kernel) rfl rfl (Nat.le_of_ble_eq_true rfl) d_Header_prepare_23 (fun H locs hP hD hS => ?_)
  have hP : va_P (dC, dI) vwCl [(h_t, .inr (4, [.ref h_t_code, .ref h_t_counts, .ref h_t_lengths, .ref h_t_items, .int v_t_itemCount, .int y1, .int y2, .int v_t_codes])), (h_p1, .inr (2, [.ref h_p1_lengths, .ref h_p1_bits, .ref h_p1_next])), (h_p1_lengths, .inl (cI, n_p1_lengths, .inl f_p1_lengths)), (h_p2, .inr (2, [.ref h_p2_lengths, .ref h_p2_bits, .ref h_p2_next])), (h_p2_lengths, .inl (cI, n_p2_lengths, .inl f_p2_lengths)), (h_t_lengths, .inl (cI, 316, .inl f_t_lengths)), (h_t_counts, .inl (cI, 19, .inl f_t_counts)), (h_t_items, .inl (cI, 316, .inl f_t_items)), (h_t_code, .inr (2, [.ref h_t_code_lengths, .ref h_t_code_bits, .ref h_t_code_next])), (h_p3, .inr (8, [.ref h_p3_weights, .ref h_p3_parents, .ref h_p3_depths, .ref h_p3_leafSymbols, .ref h_p3_shrunk, .int v_p3_leaves, .int v_p3_made, .int v_p3_nextLeaf, .int v_p3_nextJoined])), (h_t_code_lengths, .inl (cI, n_t_code_lengths, .inl f_t_code_lengths)), (h_p3_shrunk, .inl (cI, 286, .inl f_p3_shrunk)), (h_p3_weights, .inl (cI, 572, .inl f_p3_weights)), (h_p3_leafSymbols, .inl (cI, 286, .inl f_p3_leafSymbols)), (h_p3_parents, .inl (cI, 572, .inl f_p3_parents)), (h_p3_depths, .inl (cI, 572, .inl f_p3_depths)), (h_t_code_next, .inl (cI, 17, .inl f_t_code_next)), (h_t_code_bits, .inl (cI, n_t_code_bits, .inl f_t_code_bits))] H := hP
  have hD : va_D A [(h_t, .inr (4, [.ref h_t_code, .ref h_t_counts, .ref h_t_lengths, .ref h_t_items, .int v_t_itemCount, .int y1, .int y2, .int v_t_codes])), (h_p1, .inr (2, [.ref h_p1_lengths, .ref h_p1_bits, .ref h_p1_next])), (h_p1_lengths, .inl (cI, n_p1_lengths, .inl f_p1_lengths)), (h_p2, .inr (2, [.ref h_p2_lengths, .ref h_p2_bits, .ref h_p2_next])), (h_p2_lengths, .inl (cI, n_p2_lengths, .inl f_p2_lengths)), (h_t_lengths, .inl (cI, 316, .inl f_t_lengths)), (h_t_counts, .inl (cI, 19, .inl f_t_counts)), (h_t_items, .inl (cI, 316, .inl f_t_items)), (h_t_code, .inr (2, [.ref h_t_code_lengths, .ref h_t_code_bits, .ref h_t_code_next])), (h_p3, .inr (8, [.ref h_p3_weights, .ref h_p3_parents, .ref h_p3_depths, .ref h_p3_leafSymbols, .ref h_p3_shrunk, .int v_p3_leaves, .int v_p3_made, .int v_p3_nextLeaf, .int v_p3_nextJoined])), (h_t_code_lengths, .inl (cI, n_t_code_lengths, .inl f_t_code_lengths)), (h_p3_shrunk, .inl (cI, 286, .inl f_p3_shrunk)), (h_p3_weights, .inl (cI, 572, .inl f_p3_weights)), (h_p3_leafSymbols, .inl (cI, 286, .inl f_p3_leafSymbols)), (h_p3_parents, .inl (cI, 572, .inl f_p3_parents)), (h_p3_depths, .inl (cI, 572, .inl f_p3_depths)), (h_t_code_next, .inl (cI, 17, .inl f_t_code_next)), (h_t_code_bits, .inl (cI, n_t_code_bits, .inl f_t_code_bits))] := hD
  refine lv_aload_n hx hb d_Header_prepare_26 rfl (lv_at hl 1 rfl) ?_
  refine va_get (D := (dC, dI)) (ci := 2) (v := .ref h_p1_lengths) (C := R_Code) (T := F_Code) (N := 3) hx hb ht in_Code hown hK hP 1 rfl rfl 0 (by decide) (ht _ k_174) (fun _ h9 => h9) rfl d_Header_prepare_27 ?_
  refine lv_iconst (v := (0 : Int32)) hx hb d_Header_prepare_30 (by decide) ?_
  refine lv_aload_n hx hb d_Header_prepare_31 rfl (lv_at hl 0 rfl) ?_
  refine va_get (D := (dC, dI)) (ci := 4) (v := .ref h_t_lengths) (C := R_Header) (T := F_Header) (N := 8) hx hb ht in_Header hown hK hP 0 rfl rfl 2 (by decide) (ht _ k_190) (fun _ h9 => h9) rfl d_Header_prepare_32 ?_
  refine lv_iconst (v := (0 : Int32)) hx hb d_Header_prepare_35 (by decide) ?_
  refine lv_aload_n hx hb d_Header_prepare_36 rfl (lv_at hl 0 rfl) ?_
  refine va_get (D := (dC, dI)) (ci := 4) (v := .int y1) (C := R_Header) (T := F_Header) (N := 8) hx hb ht in_Header hown hK hP 0 rfl rfl 5 (by decide) (ht _ k_193) (fun _ h9 => h9) rfl d_Header_prepare_37 ?_
  obtain ⟨g3, h⟩ := gd h
  obtain ⟨g4, h⟩ := gd h
  obtain ⟨g5, h⟩ := gd h
  obtain ⟨g6, h⟩ := gd h
  obtain ⟨g7, h⟩ := gd h
  refine va_copyi hx hb (hml.trans hl.1.symm) hown (ht _ k_545) (ht _ k_511) (ht _ k_510) (ht _ k_85) hK hP hD hS 2 5 1 1 rfl rfl rfl rfl rfl g3 g4 g5 g6 g7 (fun _ _ => rfl) (Nat.le_of_ble_eq_true rfl) (by decide) d_Header_prepare_40 (fun H locs hP hD hS => ?_)
  have hP : va_P (dC, dI) vwCl [(h_t, .inr (4, [.ref h_t_code, .ref h_t_counts, .ref h_t_lengths, .ref h_t_items, .int v_t_itemCount, .int y1, .int y2, .int v_t_codes])), (h_p1, .inr (2, [.ref h_p1_lengths, .ref h_p1_bits, .ref h_p1_next])), (h_p1_lengths, .inl (cI, n_p1_lengths, .inl f_p1_lengths)), (h_p2, .inr (2, [.ref h_p2_lengths, .ref h_p2_bits, .ref h_p2_next])), (h_p2_lengths, .inl (cI, n_p2_lengths, .inl f_p2_lengths)), (h_t_lengths, .inl (cI, 316, .inl (va_cpy f_p1_lengths f_t_lengths (0 : Int32).toNatClampNeg (0 : Int32).toNatClampNeg y1.toNatClampNeg))), (h_t_counts, .inl (cI, 19, .inl f_t_counts)), (h_t_items, .inl (cI, 316, .inl f_t_items)), (h_t_code, .inr (2, [.ref h_t_code_lengths, .ref h_t_code_bits, .ref h_t_code_next])), (h_p3, .inr (8, [.ref h_p3_weights, .ref h_p3_parents, .ref h_p3_depths, .ref h_p3_leafSymbols, .ref h_p3_shrunk, .int v_p3_leaves, .int v_p3_made, .int v_p3_nextLeaf, .int v_p3_nextJoined])), (h_t_code_lengths, .inl (cI, n_t_code_lengths, .inl f_t_code_lengths)), (h_p3_shrunk, .inl (cI, 286, .inl f_p3_shrunk)), (h_p3_weights, .inl (cI, 572, .inl f_p3_weights)), (h_p3_leafSymbols, .inl (cI, 286, .inl f_p3_leafSymbols)), (h_p3_parents, .inl (cI, 572, .inl f_p3_parents)), (h_p3_depths, .inl (cI, 572, .inl f_p3_depths)), (h_t_code_next, .inl (cI, 17, .inl f_t_code_next)), (h_t_code_bits, .inl (cI, n_t_code_bits, .inl f_t_code_bits))] H := hP
  have hD : va_D A [(h_t, .inr (4, [.ref h_t_code, .ref h_t_counts, .ref h_t_lengths, .ref h_t_items, .int v_t_itemCount, .int y1, .int y2, .int v_t_codes])), (h_p1, .inr (2, [.ref h_p1_lengths, .ref h_p1_bits, .ref h_p1_next])), (h_p1_lengths, .inl (cI, n_p1_lengths, .inl f_p1_lengths)), (h_p2, .inr (2, [.ref h_p2_lengths, .ref h_p2_bits, .ref h_p2_next])), (h_p2_lengths, .inl (cI, n_p2_lengths, .inl f_p2_lengths)), (h_t_lengths, .inl (cI, 316, .inl (va_cpy f_p1_lengths f_t_lengths (0 : Int32).toNatClampNeg (0 : Int32).toNatClampNeg y1.toNatClampNeg))), (h_t_counts, .inl (cI, 19, .inl f_t_counts)), (h_t_items, .inl (cI, 316, .inl f_t_items)), (h_t_code, .inr (2, [.ref h_t_code_lengths, .ref h_t_code_bits, .ref h_t_code_next])), (h_p3, .inr (8, [.ref h_p3_weights, .ref h_p3_parents, .ref h_p3_depths, .ref h_p3_leafSymbols, .ref h_p3_shrunk, .int v_p3_leaves, .int v_p3_made, .int v_p3_nextLeaf, .int v_p3_nextJoined])), (h_t_code_lengths, .inl (cI, n_t_code_lengths, .inl f_t_code_lengths)), (h_p3_shrunk, .inl (cI, 286, .inl f_p3_shrunk)), (h_p3_weights, .inl (cI, 572, .inl f_p3_weights)), (h_p3_leafSymbols, .inl (cI, 286, .inl f_p3_leafSymbols)), (h_p3_parents, .inl (cI, 572, .inl f_p3_parents)), (h_p3_depths, .inl (cI, 572, .inl f_p3_depths)), (h_t_code_next, .inl (cI, 17, .inl f_t_code_next)), (h_t_code_bits, .inl (cI, n_t_code_bits, .inl f_t_code_bits))] := hD
  refine lv_aload_n hx hb d_Header_prepare_43 rfl (lv_at hl 2 rfl) ?_
  refine va_get (D := (dC, dI)) (ci := 2) (v := .ref h_p2_lengths) (C := R_Code) (T := F_Code) (N := 3) hx hb ht in_Code hown hK hP 3 rfl rfl 0 (by decide) (ht _ k_174) (fun _ h9 => h9) rfl d_Header_prepare_44 ?_
  refine lv_iconst (v := (0 : Int32)) hx hb d_Header_prepare_47 (by decide) ?_
  refine lv_aload_n hx hb d_Header_prepare_48 rfl (lv_at hl 0 rfl) ?_
  refine va_get (D := (dC, dI)) (ci := 4) (v := .ref h_t_lengths) (C := R_Header) (T := F_Header) (N := 8) hx hb ht in_Header hown hK hP 0 rfl rfl 2 (by decide) (ht _ k_190) (fun _ h9 => h9) rfl d_Header_prepare_49 ?_
  refine lv_aload_n hx hb d_Header_prepare_52 rfl (lv_at hl 0 rfl) ?_
  refine va_get (D := (dC, dI)) (ci := 4) (v := .int y1) (C := R_Header) (T := F_Header) (N := 8) hx hb ht in_Header hown hK hP 0 rfl rfl 5 (by decide) (ht _ k_193) (fun _ h9 => h9) rfl d_Header_prepare_53 ?_
  refine lv_aload_n hx hb d_Header_prepare_56 rfl (lv_at hl 0 rfl) ?_
  refine va_get (D := (dC, dI)) (ci := 4) (v := .int y2) (C := R_Header) (T := F_Header) (N := 8) hx hb ht in_Header hown hK hP 0 rfl rfl 6 (by decide) (ht _ k_194) (fun _ h9 => h9) rfl d_Header_prepare_57 ?_
  obtain ⟨g8, h⟩ := gd h
  obtain ⟨g9, h⟩ := gd h
  obtain ⟨g10, h⟩ := gd h
  obtain ⟨g11, h⟩ := gd h
  obtain ⟨g12, h⟩ := gd h
  refine va_copyi hx hb (hml.trans hl.1.symm) hown (ht _ k_545) (ht _ k_511) (ht _ k_510) (ht _ k_85) hK hP hD hS 4 5 1 1 rfl rfl rfl rfl rfl g8 g9 g10 g11 g12 (fun _ _ => rfl) (Nat.le_of_ble_eq_true rfl) (by decide) d_Header_prepare_60 (fun H locs hP hD hS => ?_)
  have hP : va_P (dC, dI) vwCl [(h_t, .inr (4, [.ref h_t_code, .ref h_t_counts, .ref h_t_lengths, .ref h_t_items, .int v_t_itemCount, .int y1, .int y2, .int v_t_codes])), (h_p1, .inr (2, [.ref h_p1_lengths, .ref h_p1_bits, .ref h_p1_next])), (h_p1_lengths, .inl (cI, n_p1_lengths, .inl f_p1_lengths)), (h_p2, .inr (2, [.ref h_p2_lengths, .ref h_p2_bits, .ref h_p2_next])), (h_p2_lengths, .inl (cI, n_p2_lengths, .inl f_p2_lengths)), (h_t_lengths, .inl (cI, 316, .inl (va_cpy f_p2_lengths (va_cpy f_p1_lengths f_t_lengths (0 : Int32).toNatClampNeg (0 : Int32).toNatClampNeg y1.toNatClampNeg) (0 : Int32).toNatClampNeg y1.toNatClampNeg y2.toNatClampNeg))), (h_t_counts, .inl (cI, 19, .inl f_t_counts)), (h_t_items, .inl (cI, 316, .inl f_t_items)), (h_t_code, .inr (2, [.ref h_t_code_lengths, .ref h_t_code_bits, .ref h_t_code_next])), (h_p3, .inr (8, [.ref h_p3_weights, .ref h_p3_parents, .ref h_p3_depths, .ref h_p3_leafSymbols, .ref h_p3_shrunk, .int v_p3_leaves, .int v_p3_made, .int v_p3_nextLeaf, .int v_p3_nextJoined])), (h_t_code_lengths, .inl (cI, n_t_code_lengths, .inl f_t_code_lengths)), (h_p3_shrunk, .inl (cI, 286, .inl f_p3_shrunk)), (h_p3_weights, .inl (cI, 572, .inl f_p3_weights)), (h_p3_leafSymbols, .inl (cI, 286, .inl f_p3_leafSymbols)), (h_p3_parents, .inl (cI, 572, .inl f_p3_parents)), (h_p3_depths, .inl (cI, 572, .inl f_p3_depths)), (h_t_code_next, .inl (cI, 17, .inl f_t_code_next)), (h_t_code_bits, .inl (cI, n_t_code_bits, .inl f_t_code_bits))] H := hP
  have hD : va_D A [(h_t, .inr (4, [.ref h_t_code, .ref h_t_counts, .ref h_t_lengths, .ref h_t_items, .int v_t_itemCount, .int y1, .int y2, .int v_t_codes])), (h_p1, .inr (2, [.ref h_p1_lengths, .ref h_p1_bits, .ref h_p1_next])), (h_p1_lengths, .inl (cI, n_p1_lengths, .inl f_p1_lengths)), (h_p2, .inr (2, [.ref h_p2_lengths, .ref h_p2_bits, .ref h_p2_next])), (h_p2_lengths, .inl (cI, n_p2_lengths, .inl f_p2_lengths)), (h_t_lengths, .inl (cI, 316, .inl (va_cpy f_p2_lengths (va_cpy f_p1_lengths f_t_lengths (0 : Int32).toNatClampNeg (0 : Int32).toNatClampNeg y1.toNatClampNeg) (0 : Int32).toNatClampNeg y1.toNatClampNeg y2.toNatClampNeg))), (h_t_counts, .inl (cI, 19, .inl f_t_counts)), (h_t_items, .inl (cI, 316, .inl f_t_items)), (h_t_code, .inr (2, [.ref h_t_code_lengths, .ref h_t_code_bits, .ref h_t_code_next])), (h_p3, .inr (8, [.ref h_p3_weights, .ref h_p3_parents, .ref h_p3_depths, .ref h_p3_leafSymbols, .ref h_p3_shrunk, .int v_p3_leaves, .int v_p3_made, .int v_p3_nextLeaf, .int v_p3_nextJoined])), (h_t_code_lengths, .inl (cI, n_t_code_lengths, .inl f_t_code_lengths)), (h_p3_shrunk, .inl (cI, 286, .inl f_p3_shrunk)), (h_p3_weights, .inl (cI, 572, .inl f_p3_weights)), (h_p3_leafSymbols, .inl (cI, 286, .inl f_p3_leafSymbols)), (h_p3_parents, .inl (cI, 572, .inl f_p3_parents)), (h_p3_depths, .inl (cI, 572, .inl f_p3_depths)), (h_t_code_next, .inl (cI, 17, .inl f_t_code_next)), (h_t_code_bits, .inl (cI, n_t_code_bits, .inl f_t_code_bits))] := hD
  refine lv_aload_n hx hb d_Header_prepare_63 rfl (lv_at hl 0 rfl) ?_
  refine lv_aload_n hx hb d_Header_prepare_64 rfl (lv_at hl 0 rfl) ?_
  refine va_get (D := (dC, dI)) (ci := 4) (v := .int y1) (C := R_Header) (T := F_Header) (N := 8) hx hb ht in_Header hown hK hP 0 rfl rfl 5 (by decide) (ht _ k_193) (fun _ h9 => h9) rfl d_Header_prepare_65 ?_
  refine lv_aload_n hx hb d_Header_prepare_68 rfl (lv_at hl 0 rfl) ?_
  refine va_get (D := (dC, dI)) (ci := 4) (v := .int y2) (C := R_Header) (T := F_Header) (N := 8) hx hb ht in_Header hown hK hP 0 rfl rfl 6 (by decide) (ht _ k_194) (fun _ h9 => h9) rfl d_Header_prepare_69 ?_
  refine lv_iadd hx hb d_Header_prepare_72 ?_
  obtain ⟨y13, hy13, h⟩ := bd h
  have hPc := hP.sub (ws' := [(h_t, .inr (4, [.ref h_t_code, .ref h_t_counts, .ref h_t_lengths, .ref h_t_items, .int v_t_itemCount, .int y1, .int y2, .int v_t_codes])), (h_t_counts, .inl (cI, 19, .inl f_t_counts)), (h_t_lengths, .inl (cI, 316, .inl (va_cpy f_p2_lengths (va_cpy f_p1_lengths f_t_lengths (0 : Int32).toNatClampNeg (0 : Int32).toNatClampNeg y1.toNatClampNeg) (0 : Int32).toNatClampNeg y1.toNatClampNeg y2.toNatClampNeg))), (h_t_items, .inl (cI, 316, .inl f_t_items))]) [0, 6, 5, 7] rfl
  have hDc := hD.sub (ws' := [(h_t, .inr (4, [.ref h_t_code, .ref h_t_counts, .ref h_t_lengths, .ref h_t_items, .int v_t_itemCount, .int y1, .int y2, .int v_t_codes])), (h_t_counts, .inl (cI, 19, .inl f_t_counts)), (h_t_lengths, .inl (cI, 316, .inl (va_cpy f_p2_lengths (va_cpy f_p1_lengths f_t_lengths (0 : Int32).toNatClampNeg (0 : Int32).toNatClampNeg y1.toNatClampNeg) (0 : Int32).toNatClampNeg y1.toNatClampNeg y2.toNatClampNeg))), (h_t_items, .inl (cI, 316, .inl f_t_items))]) [0, 6, 5, 7] (by decide) rfl
  have hFc := va_free (wc := [(h_t, .inr (4, [.ref h_t_code, .ref h_t_counts, .ref h_t_lengths, .ref h_t_items, .int v_t_itemCount, .int y1, .int y2, .int v_t_codes])), (h_t_counts, .inl (cI, 19, .inl f_t_counts)), (h_t_lengths, .inl (cI, 316, .inl (va_cpy f_p2_lengths (va_cpy f_p1_lengths f_t_lengths (0 : Int32).toNatClampNeg (0 : Int32).toNatClampNeg y1.toNatClampNeg) (0 : Int32).toNatClampNeg y1.toNatClampNeg y2.toNatClampNeg))), (h_t_items, .inl (cI, 316, .inl f_t_items))]) hD hS hA [0, 6, 5, 7] rfl
  refine va_callv (va_runV (As := [.int (y1 + y2)]) (rest := []) ⟨hx, hb, hml, hown, ht⟩ (cHeader_listItems l dC dI h_t h_t_code h_t_counts h_t_lengths h_t_items cB cI cJ _ N (y1 + y2) v_t_itemCount y1 y2 v_t_codes f_t_counts (va_cpy f_p2_lengths (va_cpy f_p1_lengths f_t_lengths (0 : Int32).toNatClampNeg (0 : Int32).toNatClampNeg y1.toNatClampNeg) (0 : Int32).toNatClampNeg y1.toNatClampNeg y2.toNatClampNeg) f_t_items y13 hy13) (⟨callB_of 1 ht (gTB (k_549)) rfl rfl rfl (ht _ k_69) (ht _ k_546) (by decide +kernel) ⟨Nat.le_of_ble_eq_true rfl, Nat.le_of_ble_eq_true rfl⟩, ht _ k_548, ht _ k_13⟩) ⟨fun a U g mk q => by obtain ⟨q0, q1, qP, qK, qD, qN⟩ := q; exact ⟨q0, q1, qP, va_K.moved (u := U) (U := U.calling g mk a) (Vm.Alike.refl U.vm) qK, qD, NW_same (u := U) rfl qN⟩, va_recv hK hPc (ci := 4) (q0 := 0) rfl rfl, fun U hU hW => ⟨rfl, by rw [hU], by rw [hU]; exact hPc, va_K.moved hW.alike hK, hDc.weaken (fun _ _ _ _ => trivial), NW_warm hW hN⟩⟩ rfl rfl hl.1 rfl (lv_room (Nat.le_of_ble_eq_true rfl)) d_Header_prepare_73 ⟨Nat.le_of_ble_eq_true rfl, Nat.le_of_ble_eq_true rfl⟩) hS (fun q _ h => hFc q h) hFc (fun u t H1 locs htH hvm hw hB hz1 hk1 hS => ?_)
  obtain ⟨hP1, hK1, hD1⟩ := hB
  rw [htH] at hP1
  obtain ⟨hP, hD⟩ := va_join (wr := [(h_p1, .inr (2, [.ref h_p1_lengths, .ref h_p1_bits, .ref h_p1_next])), (h_p1_lengths, .inl (cI, n_p1_lengths, .inl f_p1_lengths)), (h_p2, .inr (2, [.ref h_p2_lengths, .ref h_p2_bits, .ref h_p2_next])), (h_p2_lengths, .inl (cI, n_p2_lengths, .inl f_p2_lengths)), (h_t_code, .inr (2, [.ref h_t_code_lengths, .ref h_t_code_bits, .ref h_t_code_next])), (h_p3, .inr (8, [.ref h_p3_weights, .ref h_p3_parents, .ref h_p3_depths, .ref h_p3_leafSymbols, .ref h_p3_shrunk, .int v_p3_leaves, .int v_p3_made, .int v_p3_nextLeaf, .int v_p3_nextJoined])), (h_t_code_lengths, .inl (cI, n_t_code_lengths, .inl f_t_code_lengths)), (h_p3_shrunk, .inl (cI, 286, .inl f_p3_shrunk)), (h_p3_weights, .inl (cI, 572, .inl f_p3_weights)), (h_p3_leafSymbols, .inl (cI, 286, .inl f_p3_leafSymbols)), (h_p3_parents, .inl (cI, 572, .inl f_p3_parents)), (h_p3_depths, .inl (cI, 572, .inl f_p3_depths)), (h_t_code_next, .inl (cI, 17, .inl f_t_code_next)), (h_t_code_bits, .inl (cI, n_t_code_bits, .inl f_t_code_bits))]) (w1 := [(h_t, .inr (4, [.ref h_t_code, .ref h_t_counts, .ref h_t_lengths, .ref h_t_items, .int y13.1, .int y1, .int y2, .int v_t_codes])), (h_t_counts, .inl (cI, 19, .inl y13.2.1)), (h_t_lengths, .inl (cI, 316, .inl (va_cpy f_p2_lengths (va_cpy f_p1_lengths f_t_lengths (0 : Int32).toNatClampNeg (0 : Int32).toNatClampNeg y1.toNatClampNeg) (0 : Int32).toNatClampNeg y1.toNatClampNeg y2.toNatClampNeg))), (h_t_items, .inl (cI, 316, .inl y13.2.2))]) hP hD [0, 6, 5, 7] [1, 2, 3, 4, 8, 9, 10, 11, 12, 13, 14, 15, 16, 17] rfl rfl (by decide) (by decide) hk1 hFc hP1 hD1
  generalize H1 = H at hP hS ⊢
  have hP : va_P (dC, dI) vwCl [(h_t, .inr (4, [.ref h_t_code, .ref h_t_counts, .ref h_t_lengths, .ref h_t_items, .int y13.1, .int y1, .int y2, .int v_t_codes])), (h_p1, .inr (2, [.ref h_p1_lengths, .ref h_p1_bits, .ref h_p1_next])), (h_p1_lengths, .inl (cI, n_p1_lengths, .inl f_p1_lengths)), (h_p2, .inr (2, [.ref h_p2_lengths, .ref h_p2_bits, .ref h_p2_next])), (h_p2_lengths, .inl (cI, n_p2_lengths, .inl f_p2_lengths)), (h_t_lengths, .inl (cI, 316, .inl (va_cpy f_p2_lengths (va_cpy f_p1_lengths f_t_lengths (0 : Int32).toNatClampNeg (0 : Int32).toNatClampNeg y1.toNatClampNeg) (0 : Int32).toNatClampNeg y1.toNatClampNeg y2.toNatClampNeg))), (h_t_counts, .inl (cI, 19, .inl y13.2.1)), (h_t_items, .inl (cI, 316, .inl y13.2.2)), (h_t_code, .inr (2, [.ref h_t_code_lengths, .ref h_t_code_bits, .ref h_t_code_next])), (h_p3, .inr (8, [.ref h_p3_weights, .ref h_p3_parents, .ref h_p3_depths, .ref h_p3_leafSymbols, .ref h_p3_shrunk, .int v_p3_leaves, .int v_p3_made, .int v_p3_nextLeaf, .int v_p3_nextJoined])), (h_t_code_lengths, .inl (cI, n_t_code_lengths, .inl f_t_code_lengths)), (h_p3_shrunk, .inl (cI, 286, .inl f_p3_shrunk)), (h_p3_weights, .inl (cI, 572, .inl f_p3_weights)), (h_p3_leafSymbols, .inl (cI, 286, .inl f_p3_leafSymbols)), (h_p3_parents, .inl (cI, 572, .inl f_p3_parents)), (h_p3_depths, .inl (cI, 572, .inl f_p3_depths)), (h_t_code_next, .inl (cI, 17, .inl f_t_code_next)), (h_t_code_bits, .inl (cI, n_t_code_bits, .inl f_t_code_bits))] H := hP.sub [14, 0, 1, 2, 3, 16, 15, 17, 4, 5, 6, 7, 8, 9, 10, 11, 12, 13] rfl
  have hD : va_D A [(h_t, .inr (4, [.ref h_t_code, .ref h_t_counts, .ref h_t_lengths, .ref h_t_items, .int y13.1, .int y1, .int y2, .int v_t_codes])), (h_p1, .inr (2, [.ref h_p1_lengths, .ref h_p1_bits, .ref h_p1_next])), (h_p1_lengths, .inl (cI, n_p1_lengths, .inl f_p1_lengths)), (h_p2, .inr (2, [.ref h_p2_lengths, .ref h_p2_bits, .ref h_p2_next])), (h_p2_lengths, .inl (cI, n_p2_lengths, .inl f_p2_lengths)), (h_t_lengths, .inl (cI, 316, .inl (va_cpy f_p2_lengths (va_cpy f_p1_lengths f_t_lengths (0 : Int32).toNatClampNeg (0 : Int32).toNatClampNeg y1.toNatClampNeg) (0 : Int32).toNatClampNeg y1.toNatClampNeg y2.toNatClampNeg))), (h_t_counts, .inl (cI, 19, .inl y13.2.1)), (h_t_items, .inl (cI, 316, .inl y13.2.2)), (h_t_code, .inr (2, [.ref h_t_code_lengths, .ref h_t_code_bits, .ref h_t_code_next])), (h_p3, .inr (8, [.ref h_p3_weights, .ref h_p3_parents, .ref h_p3_depths, .ref h_p3_leafSymbols, .ref h_p3_shrunk, .int v_p3_leaves, .int v_p3_made, .int v_p3_nextLeaf, .int v_p3_nextJoined])), (h_t_code_lengths, .inl (cI, n_t_code_lengths, .inl f_t_code_lengths)), (h_p3_shrunk, .inl (cI, 286, .inl f_p3_shrunk)), (h_p3_weights, .inl (cI, 572, .inl f_p3_weights)), (h_p3_leafSymbols, .inl (cI, 286, .inl f_p3_leafSymbols)), (h_p3_parents, .inl (cI, 572, .inl f_p3_parents)), (h_p3_depths, .inl (cI, 572, .inl f_p3_depths)), (h_t_code_next, .inl (cI, 17, .inl f_t_code_next)), (h_t_code_bits, .inl (cI, n_t_code_bits, .inl f_t_code_bits))] := hD.sub [14, 0, 1, 2, 3, 16, 15, 17, 4, 5, 6, 7, 8, 9, 10, 11, 12, 13] (by decide) rfl
  refine lv_aload_n hx hb d_Header_prepare_76 rfl (lv_at hl 3 rfl) ?_
  refine lv_aload_n hx hb d_Header_prepare_77 rfl (lv_at hl 0 rfl) ?_
  refine va_get (D := (dC, dI)) (ci := 4) (v := .ref h_t_counts) (C := R_Header) (T := F_Header) (N := 8) hx hb ht in_Header hown hK hP 0 rfl rfl 1 (by decide) (ht _ k_189) (fun _ h9 => h9) rfl d_Header_prepare_78 ?_
  refine lv_aload_n hx hb d_Header_prepare_81 rfl (lv_at hl 0 rfl) ?_
  refine va_get (D := (dC, dI)) (ci := 4) (v := .ref h_t_code) (C := R_Header) (T := F_Header) (N := 8) hx hb ht in_Header hown hK hP 0 rfl rfl 0 (by decide) (ht _ k_187) (fun _ h9 => h9) rfl d_Header_prepare_82 ?_
  refine va_get (D := (dC, dI)) (ci := 2) (v := .ref h_t_code_lengths) (C := R_Code) (T := F_Code) (N := 3) hx hb ht in_Code hown hK hP 8 rfl rfl 0 (by decide) (ht _ k_174) (fun _ h9 => h9) rfl d_Header_prepare_85 ?_
  refine lv_bipush (v := (7 : Int32)) hx hb d_Header_prepare_88 (by decide) ?_
  obtain ⟨y14, hy14, h⟩ := bd h
  have hPc := hP.sub (ws' := [(h_p3, .inr (8, [.ref h_p3_weights, .ref h_p3_parents, .ref h_p3_depths, .ref h_p3_leafSymbols, .ref h_p3_shrunk, .int v_p3_leaves, .int v_p3_made, .int v_p3_nextLeaf, .int v_p3_nextJoined])), (h_t_counts, .inl (cI, 19, .inl y13.2.1)), (h_t_code_lengths, .inl (cI, n_t_code_lengths, .inl f_t_code_lengths)), (h_p3_shrunk, .inl (cI, 286, .inl f_p3_shrunk)), (h_p3_weights, .inl (cI, 572, .inl f_p3_weights)), (h_p3_leafSymbols, .inl (cI, 286, .inl f_p3_leafSymbols)), (h_p3_parents, .inl (cI, 572, .inl f_p3_parents)), (h_p3_depths, .inl (cI, 572, .inl f_p3_depths))]) [9, 6, 10, 11, 12, 13, 14, 15] rfl
  have hDc := hD.sub (ws' := [(h_p3, .inr (8, [.ref h_p3_weights, .ref h_p3_parents, .ref h_p3_depths, .ref h_p3_leafSymbols, .ref h_p3_shrunk, .int v_p3_leaves, .int v_p3_made, .int v_p3_nextLeaf, .int v_p3_nextJoined])), (h_t_counts, .inl (cI, 19, .inl y13.2.1)), (h_t_code_lengths, .inl (cI, n_t_code_lengths, .inl f_t_code_lengths)), (h_p3_shrunk, .inl (cI, 286, .inl f_p3_shrunk)), (h_p3_weights, .inl (cI, 572, .inl f_p3_weights)), (h_p3_leafSymbols, .inl (cI, 286, .inl f_p3_leafSymbols)), (h_p3_parents, .inl (cI, 572, .inl f_p3_parents)), (h_p3_depths, .inl (cI, 572, .inl f_p3_depths))]) [9, 6, 10, 11, 12, 13, 14, 15] (by decide) rfl
  have hFc := va_free (wc := [(h_p3, .inr (8, [.ref h_p3_weights, .ref h_p3_parents, .ref h_p3_depths, .ref h_p3_leafSymbols, .ref h_p3_shrunk, .int v_p3_leaves, .int v_p3_made, .int v_p3_nextLeaf, .int v_p3_nextJoined])), (h_t_counts, .inl (cI, 19, .inl y13.2.1)), (h_t_code_lengths, .inl (cI, n_t_code_lengths, .inl f_t_code_lengths)), (h_p3_shrunk, .inl (cI, 286, .inl f_p3_shrunk)), (h_p3_weights, .inl (cI, 572, .inl f_p3_weights)), (h_p3_leafSymbols, .inl (cI, 286, .inl f_p3_leafSymbols)), (h_p3_parents, .inl (cI, 572, .inl f_p3_parents)), (h_p3_depths, .inl (cI, 572, .inl f_p3_depths))]) hD hS hA [9, 6, 10, 11, 12, 13, 14, 15] rfl
  refine va_callv (va_runV (As := [.ref h_t_counts, .ref h_t_code_lengths, .int (7 : Int32)]) (rest := []) ⟨hx, hb, hml, hown, ht⟩ (cTrees_findLengths l dC dI h_p3 h_p3_weights h_p3_parents h_p3_depths h_p3_leafSymbols h_p3_shrunk h_t_counts h_t_code_lengths cB cI cJ _ N (7 : Int32) v_p3_leaves v_p3_made v_p3_nextLeaf v_p3_nextJoined 19 y13.2.1 n_t_code_lengths f_t_code_lengths f_p3_shrunk f_p3_weights f_p3_leafSymbols f_p3_parents f_p3_depths y14 hy14) (⟨callB_of 3 ht (gTB (k_507)) rfl rfl rfl (ht _ k_68) (ht _ k_560) (by decide +kernel) ⟨Nat.le_of_ble_eq_true rfl, Nat.le_of_ble_eq_true rfl⟩, ht _ k_505, ht _ k_506⟩) ⟨fun a U g mk q => by obtain ⟨q0, q1, qP, qK, qD, qN⟩ := q; exact ⟨q0, q1, qP, va_K.moved (u := U) (U := U.calling g mk a) (Vm.Alike.refl U.vm) qK, qD, NW_same (u := U) rfl qN⟩, va_recv hK hPc (ci := 8) (q0 := 0) rfl rfl, fun U hU hW => ⟨rfl, by rw [hU], by rw [hU]; exact hPc, va_K.moved hW.alike hK, hDc.weaken (fun _ _ _ _ => trivial), NW_warm hW hN⟩⟩ rfl rfl hl.1 rfl (lv_room (Nat.le_of_ble_eq_true rfl)) d_Header_prepare_90 ⟨Nat.le_of_ble_eq_true rfl, Nat.le_of_ble_eq_true rfl⟩) hS (fun q _ h => hFc q h) hFc (fun u t H1 locs htH hvm hw hB hz1 hk1 hS => ?_)
  obtain ⟨hP1, hK1, hD1⟩ := hB
  rw [htH] at hP1
  obtain ⟨hP, hD⟩ := va_join (wr := [(h_t, .inr (4, [.ref h_t_code, .ref h_t_counts, .ref h_t_lengths, .ref h_t_items, .int y13.1, .int y1, .int y2, .int v_t_codes])), (h_p1, .inr (2, [.ref h_p1_lengths, .ref h_p1_bits, .ref h_p1_next])), (h_p1_lengths, .inl (cI, n_p1_lengths, .inl f_p1_lengths)), (h_p2, .inr (2, [.ref h_p2_lengths, .ref h_p2_bits, .ref h_p2_next])), (h_p2_lengths, .inl (cI, n_p2_lengths, .inl f_p2_lengths)), (h_t_lengths, .inl (cI, 316, .inl (va_cpy f_p2_lengths (va_cpy f_p1_lengths f_t_lengths (0 : Int32).toNatClampNeg (0 : Int32).toNatClampNeg y1.toNatClampNeg) (0 : Int32).toNatClampNeg y1.toNatClampNeg y2.toNatClampNeg))), (h_t_items, .inl (cI, 316, .inl y13.2.2)), (h_t_code, .inr (2, [.ref h_t_code_lengths, .ref h_t_code_bits, .ref h_t_code_next])), (h_t_code_next, .inl (cI, 17, .inl f_t_code_next)), (h_t_code_bits, .inl (cI, n_t_code_bits, .inl f_t_code_bits))]) (w1 := [(h_p3, .inr (8, [.ref h_p3_weights, .ref h_p3_parents, .ref h_p3_depths, .ref h_p3_leafSymbols, .ref h_p3_shrunk, .int y14.1, .int y14.2.1, .int y14.2.2.1, .int y14.2.2.2.1])), (h_t_counts, .inl (cI, 19, .inl y13.2.1)), (h_t_code_lengths, .inl (cI, n_t_code_lengths, .inl y14.2.2.2.2.1)), (h_p3_shrunk, .inl (cI, 286, .inl y14.2.2.2.2.2.1)), (h_p3_weights, .inl (cI, 572, .inl y14.2.2.2.2.2.2.1)), (h_p3_leafSymbols, .inl (cI, 286, .inl y14.2.2.2.2.2.2.2.1)), (h_p3_parents, .inl (cI, 572, .inl y14.2.2.2.2.2.2.2.2.1)), (h_p3_depths, .inl (cI, 572, .inl y14.2.2.2.2.2.2.2.2.2))]) hP hD [9, 6, 10, 11, 12, 13, 14, 15] [0, 1, 2, 3, 4, 5, 7, 8, 16, 17] rfl rfl (by decide) (by decide) hk1 hFc hP1 hD1
  generalize H1 = H at hP hS ⊢
  have hP : va_P (dC, dI) vwCl [(h_t, .inr (4, [.ref h_t_code, .ref h_t_counts, .ref h_t_lengths, .ref h_t_items, .int y13.1, .int y1, .int y2, .int v_t_codes])), (h_p1, .inr (2, [.ref h_p1_lengths, .ref h_p1_bits, .ref h_p1_next])), (h_p1_lengths, .inl (cI, n_p1_lengths, .inl f_p1_lengths)), (h_p2, .inr (2, [.ref h_p2_lengths, .ref h_p2_bits, .ref h_p2_next])), (h_p2_lengths, .inl (cI, n_p2_lengths, .inl f_p2_lengths)), (h_t_lengths, .inl (cI, 316, .inl (va_cpy f_p2_lengths (va_cpy f_p1_lengths f_t_lengths (0 : Int32).toNatClampNeg (0 : Int32).toNatClampNeg y1.toNatClampNeg) (0 : Int32).toNatClampNeg y1.toNatClampNeg y2.toNatClampNeg))), (h_t_counts, .inl (cI, 19, .inl y13.2.1)), (h_t_items, .inl (cI, 316, .inl y13.2.2)), (h_t_code, .inr (2, [.ref h_t_code_lengths, .ref h_t_code_bits, .ref h_t_code_next])), (h_p3, .inr (8, [.ref h_p3_weights, .ref h_p3_parents, .ref h_p3_depths, .ref h_p3_leafSymbols, .ref h_p3_shrunk, .int y14.1, .int y14.2.1, .int y14.2.2.1, .int y14.2.2.2.1])), (h_t_code_lengths, .inl (cI, n_t_code_lengths, .inl y14.2.2.2.2.1)), (h_p3_shrunk, .inl (cI, 286, .inl y14.2.2.2.2.2.1)), (h_p3_weights, .inl (cI, 572, .inl y14.2.2.2.2.2.2.1)), (h_p3_leafSymbols, .inl (cI, 286, .inl y14.2.2.2.2.2.2.2.1)), (h_p3_parents, .inl (cI, 572, .inl y14.2.2.2.2.2.2.2.2.1)), (h_p3_depths, .inl (cI, 572, .inl y14.2.2.2.2.2.2.2.2.2)), (h_t_code_next, .inl (cI, 17, .inl f_t_code_next)), (h_t_code_bits, .inl (cI, n_t_code_bits, .inl f_t_code_bits))] H := hP.sub [0, 1, 2, 3, 4, 5, 11, 6, 7, 10, 12, 13, 14, 15, 16, 17, 8, 9] rfl
  have hD : va_D A [(h_t, .inr (4, [.ref h_t_code, .ref h_t_counts, .ref h_t_lengths, .ref h_t_items, .int y13.1, .int y1, .int y2, .int v_t_codes])), (h_p1, .inr (2, [.ref h_p1_lengths, .ref h_p1_bits, .ref h_p1_next])), (h_p1_lengths, .inl (cI, n_p1_lengths, .inl f_p1_lengths)), (h_p2, .inr (2, [.ref h_p2_lengths, .ref h_p2_bits, .ref h_p2_next])), (h_p2_lengths, .inl (cI, n_p2_lengths, .inl f_p2_lengths)), (h_t_lengths, .inl (cI, 316, .inl (va_cpy f_p2_lengths (va_cpy f_p1_lengths f_t_lengths (0 : Int32).toNatClampNeg (0 : Int32).toNatClampNeg y1.toNatClampNeg) (0 : Int32).toNatClampNeg y1.toNatClampNeg y2.toNatClampNeg))), (h_t_counts, .inl (cI, 19, .inl y13.2.1)), (h_t_items, .inl (cI, 316, .inl y13.2.2)), (h_t_code, .inr (2, [.ref h_t_code_lengths, .ref h_t_code_bits, .ref h_t_code_next])), (h_p3, .inr (8, [.ref h_p3_weights, .ref h_p3_parents, .ref h_p3_depths, .ref h_p3_leafSymbols, .ref h_p3_shrunk, .int y14.1, .int y14.2.1, .int y14.2.2.1, .int y14.2.2.2.1])), (h_t_code_lengths, .inl (cI, n_t_code_lengths, .inl y14.2.2.2.2.1)), (h_p3_shrunk, .inl (cI, 286, .inl y14.2.2.2.2.2.1)), (h_p3_weights, .inl (cI, 572, .inl y14.2.2.2.2.2.2.1)), (h_p3_leafSymbols, .inl (cI, 286, .inl y14.2.2.2.2.2.2.2.1)), (h_p3_parents, .inl (cI, 572, .inl y14.2.2.2.2.2.2.2.2.1)), (h_p3_depths, .inl (cI, 572, .inl y14.2.2.2.2.2.2.2.2.2)), (h_t_code_next, .inl (cI, 17, .inl f_t_code_next)), (h_t_code_bits, .inl (cI, n_t_code_bits, .inl f_t_code_bits))] := hD.sub [0, 1, 2, 3, 4, 5, 11, 6, 7, 10, 12, 13, 14, 15, 16, 17, 8, 9] (by decide) rfl
  refine lv_aload_n hx hb d_Header_prepare_93 rfl (lv_at hl 0 rfl) ?_
  refine va_get (D := (dC, dI)) (ci := 4) (v := .ref h_t_code) (C := R_Header) (T := F_Header) (N := 8) hx hb ht in_Header hown hK hP 0 rfl rfl 0 (by decide) (ht _ k_187) (fun _ h9 => h9) rfl d_Header_prepare_94 ?_
  obtain ⟨y15, hy15, h⟩ := bd h
  have hPc := hP.sub (ws' := [(h_t_code, .inr (2, [.ref h_t_code_lengths, .ref h_t_code_bits, .ref h_t_code_next])), (h_t_code_next, .inl (cI, 17, .inl f_t_code_next)), (h_t_code_lengths, .inl (cI, n_t_code_lengths, .inl y14.2.2.2.2.1)), (h_t_code_bits, .inl (cI, n_t_code_bits, .inl f_t_code_bits))]) [8, 16, 10, 17] rfl
  have hDc := hD.sub (ws' := [(h_t_code, .inr (2, [.ref h_t_code_lengths, .ref h_t_code_bits, .ref h_t_code_next])), (h_t_code_next, .inl (cI, 17, .inl f_t_code_next)), (h_t_code_lengths, .inl (cI, n_t_code_lengths, .inl y14.2.2.2.2.1)), (h_t_code_bits, .inl (cI, n_t_code_bits, .inl f_t_code_bits))]) [8, 16, 10, 17] (by decide) rfl
  have hFc := va_free (wc := [(h_t_code, .inr (2, [.ref h_t_code_lengths, .ref h_t_code_bits, .ref h_t_code_next])), (h_t_code_next, .inl (cI, 17, .inl f_t_code_next)), (h_t_code_lengths, .inl (cI, n_t_code_lengths, .inl y14.2.2.2.2.1)), (h_t_code_bits, .inl (cI, n_t_code_bits, .inl f_t_code_bits))]) hD hS hA [8, 16, 10, 17] rfl
  refine va_callv (va_runV (As := []) (rest := []) ⟨hx, hb, hml, hown, ht⟩ (cCode_number l dC dI h_t_code h_t_code_lengths h_t_code_bits h_t_code_next cB cI cJ _ N f_t_code_next n_t_code_lengths y14.2.2.2.2.1 n_t_code_bits f_t_code_bits y15 hy15) (⟨callB_of 0 ht (gTB (k_281)) rfl rfl rfl (ht _ k_70) (ht _ k_561) (by decide +kernel) ⟨Nat.le_of_ble_eq_true rfl, Nat.le_of_ble_eq_true rfl⟩, ht _ k_279, ht _ k_280⟩) ⟨fun a U g mk q => by obtain ⟨q0, q1, qP, qK, qD, qN⟩ := q; exact ⟨q0, q1, qP, va_K.moved (u := U) (U := U.calling g mk a) (Vm.Alike.refl U.vm) qK, qD, NW_same (u := U) rfl qN⟩, va_recv hK hPc (ci := 2) (q0 := 0) rfl rfl, fun U hU hW => ⟨rfl, by rw [hU], by rw [hU]; exact hPc, va_K.moved hW.alike hK, hDc.weaken (fun _ _ _ _ => trivial), NW_warm hW hN⟩⟩ rfl rfl hl.1 rfl (lv_room (Nat.le_of_ble_eq_true rfl)) d_Header_prepare_97 ⟨Nat.le_of_ble_eq_true rfl, Nat.le_of_ble_eq_true rfl⟩) hS (fun q _ h => hFc q h) hFc (fun u t H1 locs htH hvm hw hB hz1 hk1 hS => ?_)
  obtain ⟨hP1, hK1, hD1⟩ := hB
  rw [htH] at hP1
  obtain ⟨hP, hD⟩ := va_join (wr := [(h_t, .inr (4, [.ref h_t_code, .ref h_t_counts, .ref h_t_lengths, .ref h_t_items, .int y13.1, .int y1, .int y2, .int v_t_codes])), (h_p1, .inr (2, [.ref h_p1_lengths, .ref h_p1_bits, .ref h_p1_next])), (h_p1_lengths, .inl (cI, n_p1_lengths, .inl f_p1_lengths)), (h_p2, .inr (2, [.ref h_p2_lengths, .ref h_p2_bits, .ref h_p2_next])), (h_p2_lengths, .inl (cI, n_p2_lengths, .inl f_p2_lengths)), (h_t_lengths, .inl (cI, 316, .inl (va_cpy f_p2_lengths (va_cpy f_p1_lengths f_t_lengths (0 : Int32).toNatClampNeg (0 : Int32).toNatClampNeg y1.toNatClampNeg) (0 : Int32).toNatClampNeg y1.toNatClampNeg y2.toNatClampNeg))), (h_t_counts, .inl (cI, 19, .inl y13.2.1)), (h_t_items, .inl (cI, 316, .inl y13.2.2)), (h_p3, .inr (8, [.ref h_p3_weights, .ref h_p3_parents, .ref h_p3_depths, .ref h_p3_leafSymbols, .ref h_p3_shrunk, .int y14.1, .int y14.2.1, .int y14.2.2.1, .int y14.2.2.2.1])), (h_p3_shrunk, .inl (cI, 286, .inl y14.2.2.2.2.2.1)), (h_p3_weights, .inl (cI, 572, .inl y14.2.2.2.2.2.2.1)), (h_p3_leafSymbols, .inl (cI, 286, .inl y14.2.2.2.2.2.2.2.1)), (h_p3_parents, .inl (cI, 572, .inl y14.2.2.2.2.2.2.2.2.1)), (h_p3_depths, .inl (cI, 572, .inl y14.2.2.2.2.2.2.2.2.2))]) (w1 := [(h_t_code, .inr (2, [.ref h_t_code_lengths, .ref h_t_code_bits, .ref h_t_code_next])), (h_t_code_next, .inl (cI, 17, .inl y15.1)), (h_t_code_lengths, .inl (cI, n_t_code_lengths, .inl y14.2.2.2.2.1)), (h_t_code_bits, .inl (cI, n_t_code_bits, .inl y15.2))]) hP hD [8, 16, 10, 17] [0, 1, 2, 3, 4, 5, 6, 7, 9, 11, 12, 13, 14, 15] rfl rfl (by decide) (by decide) hk1 hFc hP1 hD1
  generalize H1 = H at hP hS ⊢
  have hP : va_P (dC, dI) vwCl [(h_t, .inr (4, [.ref h_t_code, .ref h_t_counts, .ref h_t_lengths, .ref h_t_items, .int y13.1, .int y1, .int y2, .int v_t_codes])), (h_p1, .inr (2, [.ref h_p1_lengths, .ref h_p1_bits, .ref h_p1_next])), (h_p1_lengths, .inl (cI, n_p1_lengths, .inl f_p1_lengths)), (h_p2, .inr (2, [.ref h_p2_lengths, .ref h_p2_bits, .ref h_p2_next])), (h_p2_lengths, .inl (cI, n_p2_lengths, .inl f_p2_lengths)), (h_t_lengths, .inl (cI, 316, .inl (va_cpy f_p2_lengths (va_cpy f_p1_lengths f_t_lengths (0 : Int32).toNatClampNeg (0 : Int32).toNatClampNeg y1.toNatClampNeg) (0 : Int32).toNatClampNeg y1.toNatClampNeg y2.toNatClampNeg))), (h_t_counts, .inl (cI, 19, .inl y13.2.1)), (h_t_items, .inl (cI, 316, .inl y13.2.2)), (h_t_code, .inr (2, [.ref h_t_code_lengths, .ref h_t_code_bits, .ref h_t_code_next])), (h_p3, .inr (8, [.ref h_p3_weights, .ref h_p3_parents, .ref h_p3_depths, .ref h_p3_leafSymbols, .ref h_p3_shrunk, .int y14.1, .int y14.2.1, .int y14.2.2.1, .int y14.2.2.2.1])), (h_t_code_lengths, .inl (cI, n_t_code_lengths, .inl y14.2.2.2.2.1)), (h_p3_shrunk, .inl (cI, 286, .inl y14.2.2.2.2.2.1)), (h_p3_weights, .inl (cI, 572, .inl y14.2.2.2.2.2.2.1)), (h_p3_leafSymbols, .inl (cI, 286, .inl y14.2.2.2.2.2.2.2.1)), (h_p3_parents, .inl (cI, 572, .inl y14.2.2.2.2.2.2.2.2.1)), (h_p3_depths, .inl (cI, 572, .inl y14.2.2.2.2.2.2.2.2.2)), (h_t_code_next, .inl (cI, 17, .inl y15.1)), (h_t_code_bits, .inl (cI, n_t_code_bits, .inl y15.2))] H := hP.sub [0, 1, 2, 3, 4, 5, 6, 7, 14, 8, 16, 9, 10, 11, 12, 13, 15, 17] rfl
  have hD : va_D A [(h_t, .inr (4, [.ref h_t_code, .ref h_t_counts, .ref h_t_lengths, .ref h_t_items, .int y13.1, .int y1, .int y2, .int v_t_codes])), (h_p1, .inr (2, [.ref h_p1_lengths, .ref h_p1_bits, .ref h_p1_next])), (h_p1_lengths, .inl (cI, n_p1_lengths, .inl f_p1_lengths)), (h_p2, .inr (2, [.ref h_p2_lengths, .ref h_p2_bits, .ref h_p2_next])), (h_p2_lengths, .inl (cI, n_p2_lengths, .inl f_p2_lengths)), (h_t_lengths, .inl (cI, 316, .inl (va_cpy f_p2_lengths (va_cpy f_p1_lengths f_t_lengths (0 : Int32).toNatClampNeg (0 : Int32).toNatClampNeg y1.toNatClampNeg) (0 : Int32).toNatClampNeg y1.toNatClampNeg y2.toNatClampNeg))), (h_t_counts, .inl (cI, 19, .inl y13.2.1)), (h_t_items, .inl (cI, 316, .inl y13.2.2)), (h_t_code, .inr (2, [.ref h_t_code_lengths, .ref h_t_code_bits, .ref h_t_code_next])), (h_p3, .inr (8, [.ref h_p3_weights, .ref h_p3_parents, .ref h_p3_depths, .ref h_p3_leafSymbols, .ref h_p3_shrunk, .int y14.1, .int y14.2.1, .int y14.2.2.1, .int y14.2.2.2.1])), (h_t_code_lengths, .inl (cI, n_t_code_lengths, .inl y14.2.2.2.2.1)), (h_p3_shrunk, .inl (cI, 286, .inl y14.2.2.2.2.2.1)), (h_p3_weights, .inl (cI, 572, .inl y14.2.2.2.2.2.2.1)), (h_p3_leafSymbols, .inl (cI, 286, .inl y14.2.2.2.2.2.2.2.1)), (h_p3_parents, .inl (cI, 572, .inl y14.2.2.2.2.2.2.2.2.1)), (h_p3_depths, .inl (cI, 572, .inl y14.2.2.2.2.2.2.2.2.2)), (h_t_code_next, .inl (cI, 17, .inl y15.1)), (h_t_code_bits, .inl (cI, n_t_code_bits, .inl y15.2))] := hD.sub [0, 1, 2, 3, 4, 5, 6, 7, 14, 8, 16, 9, 10, 11, 12, 13, 15, 17] (by decide) rfl
  refine lv_aload_n hx hb d_Header_prepare_100 rfl (lv_at hl 0 rfl) ?_
  refine lv_bipush (v := (19 : Int32)) hx hb d_Header_prepare_101 (by decide) ?_
  refine va_put (D := (dC, dI)) (ci := 4) (v := .int (19 : Int32)) (ty := .int) (C := R_Header) (T := F_Header) (N := 8) hx hb ht in_Header t_Header t_Header_ok n_Header hown hK hP hD hS 0 rfl rfl 7 (by decide) (ht _ k_195) (fun _ h9 => h9) rfl (by decide +kernel) rfl rfl (Nat.le_of_ble_eq_true rfl) d_Header_prepare_103 (fun H locs hP hD hS => ?_)
  have hP : va_P (dC, dI) vwCl [(h_t, .inr (4, [.ref h_t_code, .ref h_t_counts, .ref h_t_lengths, .ref h_t_items, .int y13.1, .int y1, .int y2, .int (19 : Int32)])), (h_p1, .inr (2, [.ref h_p1_lengths, .ref h_p1_bits, .ref h_p1_next])), (h_p1_lengths, .inl (cI, n_p1_lengths, .inl f_p1_lengths)), (h_p2, .inr (2, [.ref h_p2_lengths, .ref h_p2_bits, .ref h_p2_next])), (h_p2_lengths, .inl (cI, n_p2_lengths, .inl f_p2_lengths)), (h_t_lengths, .inl (cI, 316, .inl (va_cpy f_p2_lengths (va_cpy f_p1_lengths f_t_lengths (0 : Int32).toNatClampNeg (0 : Int32).toNatClampNeg y1.toNatClampNeg) (0 : Int32).toNatClampNeg y1.toNatClampNeg y2.toNatClampNeg))), (h_t_counts, .inl (cI, 19, .inl y13.2.1)), (h_t_items, .inl (cI, 316, .inl y13.2.2)), (h_t_code, .inr (2, [.ref h_t_code_lengths, .ref h_t_code_bits, .ref h_t_code_next])), (h_p3, .inr (8, [.ref h_p3_weights, .ref h_p3_parents, .ref h_p3_depths, .ref h_p3_leafSymbols, .ref h_p3_shrunk, .int y14.1, .int y14.2.1, .int y14.2.2.1, .int y14.2.2.2.1])), (h_t_code_lengths, .inl (cI, n_t_code_lengths, .inl y14.2.2.2.2.1)), (h_p3_shrunk, .inl (cI, 286, .inl y14.2.2.2.2.2.1)), (h_p3_weights, .inl (cI, 572, .inl y14.2.2.2.2.2.2.1)), (h_p3_leafSymbols, .inl (cI, 286, .inl y14.2.2.2.2.2.2.2.1)), (h_p3_parents, .inl (cI, 572, .inl y14.2.2.2.2.2.2.2.2.1)), (h_p3_depths, .inl (cI, 572, .inl y14.2.2.2.2.2.2.2.2.2)), (h_t_code_next, .inl (cI, 17, .inl y15.1)), (h_t_code_bits, .inl (cI, n_t_code_bits, .inl y15.2))] H := hP
  have hD : va_D A [(h_t, .inr (4, [.ref h_t_code, .ref h_t_counts, .ref h_t_lengths, .ref h_t_items, .int y13.1, .int y1, .int y2, .int (19 : Int32)])), (h_p1, .inr (2, [.ref h_p1_lengths, .ref h_p1_bits, .ref h_p1_next])), (h_p1_lengths, .inl (cI, n_p1_lengths, .inl f_p1_lengths)), (h_p2, .inr (2, [.ref h_p2_lengths, .ref h_p2_bits, .ref h_p2_next])), (h_p2_lengths, .inl (cI, n_p2_lengths, .inl f_p2_lengths)), (h_t_lengths, .inl (cI, 316, .inl (va_cpy f_p2_lengths (va_cpy f_p1_lengths f_t_lengths (0 : Int32).toNatClampNeg (0 : Int32).toNatClampNeg y1.toNatClampNeg) (0 : Int32).toNatClampNeg y1.toNatClampNeg y2.toNatClampNeg))), (h_t_counts, .inl (cI, 19, .inl y13.2.1)), (h_t_items, .inl (cI, 316, .inl y13.2.2)), (h_t_code, .inr (2, [.ref h_t_code_lengths, .ref h_t_code_bits, .ref h_t_code_next])), (h_p3, .inr (8, [.ref h_p3_weights, .ref h_p3_parents, .ref h_p3_depths, .ref h_p3_leafSymbols, .ref h_p3_shrunk, .int y14.1, .int y14.2.1, .int y14.2.2.1, .int y14.2.2.2.1])), (h_t_code_lengths, .inl (cI, n_t_code_lengths, .inl y14.2.2.2.2.1)), (h_p3_shrunk, .inl (cI, 286, .inl y14.2.2.2.2.2.1)), (h_p3_weights, .inl (cI, 572, .inl y14.2.2.2.2.2.2.1)), (h_p3_leafSymbols, .inl (cI, 286, .inl y14.2.2.2.2.2.2.2.1)), (h_p3_parents, .inl (cI, 572, .inl y14.2.2.2.2.2.2.2.2.1)), (h_p3_depths, .inl (cI, 572, .inl y14.2.2.2.2.2.2.2.2.2)), (h_t_code_next, .inl (cI, 17, .inl y15.1)), (h_t_code_bits, .inl (cI, n_t_code_bits, .inl y15.2))] := hD
  obtain ⟨y20, hy20, h⟩ := bd h
  refine wHeader_prepare_106 h_t h_t_code h_t_counts h_t_lengths h_t_items h_p1 h_p1_lengths h_p1_bits h_p1_next h_p2 h_p2_lengths h_p2_bits h_p2_next h_t_code_lengths h_t_code_bits h_t_code_next h_p3 h_p3_weights h_p3_parents h_p3_depths h_p3_leafSymbols h_p3_shrunk b_LENGTH_ORDER cB cI cJ N y13.1 y1 y2 n_p1_lengths f_p1_lengths n_p2_lengths f_p2_lengths (va_cpy f_p2_lengths (va_cpy f_p1_lengths f_t_lengths (0 : Int32).toNatClampNeg (0 : Int32).toNatClampNeg y1.toNatClampNeg) (0 : Int32).toNatClampNeg y1.toNatClampNeg y2.toNatClampNeg) y13.2.1 y13.2.2 y14.1 y14.2.1 y14.2.2.1 y14.2.2.2.1 n_t_code_lengths y14.2.2.2.2.1 y14.2.2.2.2.2.1 y14.2.2.2.2.2.2.1 y14.2.2.2.2.2.2.2.1 y14.2.2.2.2.2.2.2.2.1 y14.2.2.2.2.2.2.2.2.2 y15.1 n_t_code_bits y15.2 C ro_b_LENGTH_ORDER N (19 : Int32) _ _ _ _ hP hD hS (lv_sub hl [0] rfl) hy20 (fun H locs ls hP hD hS hl => ?_)
  obtain rfl := Option.some.inj h
  exact W.vret hx hb hr (fun t ht hW => ⟨⟨(), rfl, trivial, by rw [ht]; exact hP, va_K.moved hW.alike hK, hD⟩, hS.F ht⟩) hS.2.2 d_Header_prepare_148
/-! PackedBytes$Header.bitsInAll()I -/
def fHeader_bitsInAll_25 (N : Nat) (f_t_counts : Nat → Int32) : Nat → (Int32) → (Int32) → Option (Int32)
  | 0, _, _ => none
  | k + 1, x1, x2 =>
    if (19 : Int32) ≤ x2 then
      some x1
    else
      if ¬ (x2 < 0 ∨ 19 ≤ x2.toNatClampNeg) then
        (fPB_repeatBits N x2).bind (fun y4 =>
          fHeader_bitsInAll_25 N f_t_counts k (x1 + ((f_t_counts x2.toNatClampNeg) * y4)) (x2 + (1 : Int32)))
      else none
def fHeader_bitsInAll (N : Nat) (v_t_codes : Int32) (f_t_counts : Nat → Int32) (n_t_code_lengths : Nat) (f_t_code_lengths : Nat → Int32) : Option (Int32) :=
    (fCode_bitsFor N 19 f_t_counts n_t_code_lengths f_t_code_lengths).bind (fun y1 =>
      (fHeader_bitsInAll_25 N f_t_counts N (((14 : Int32) + ((3 : Int32) * v_t_codes)) + y1) (16 : Int32)).bind (fun y5 =>
        some y5))
set_option maxHeartbeats 4000000 in
set_option maxRecDepth 100000 in
theorem wHeader_bitsInAll_25 {p : Program} {l : Launch} {e : Env} {s : State} {m : MethodId} {args : Array Value} {below : List Frame} {meth : Method} {c : Code} {Q : State → Prop} {A : Nat → Prop} {dC : Nat → ClassId} {dI : Nat → Nat → Nat} (h_t h_t_code h_t_counts h_t_lengths h_t_items h_t_code_lengths h_t_code_bits h_t_code_next : Nat) (cB cI cJ : ClassId) (N : Nat) (v_t_itemCount : Int32) (v_t_symbols : Int32) (v_t_distances : Int32) (v_t_codes : Int32) (f_t_counts : Nat → Int32) (n_t_code_lengths : Nat) (f_t_code_lengths : Nat → Int32) (C : CX p s m args c b_Header_bitsInAll 3 R_Header A (dC, dI) [(cB, .byte), (cI, .int), (cJ, .long)]) :
    ∀ (n : Nat) (x1 : Int32) (x2 : Int32) (H : Heap) (locs : List Loc) (ls : Array Slot) (o : Int32), va_P (dC, dI) vwCl [(h_t, .inr (4, [.ref h_t_code, .ref h_t_counts, .ref h_t_lengths, .ref h_t_items, .int v_t_itemCount, .int v_t_symbols, .int v_t_distances, .int v_t_codes])), (h_t_code, .inr (2, [.ref h_t_code_lengths, .ref h_t_code_bits, .ref h_t_code_next])), (h_t_counts, .inl (cI, 19, .inl f_t_counts)), (h_t_code_lengths, .inl (cI, n_t_code_lengths, .inl f_t_code_lengths))] H → va_D A [(h_t, .inr (4, [.ref h_t_code, .ref h_t_counts, .ref h_t_lengths, .ref h_t_items, .int v_t_itemCount, .int v_t_symbols, .int v_t_distances, .int v_t_codes])), (h_t_code, .inr (2, [.ref h_t_code_lengths, .ref h_t_code_bits, .ref h_t_code_next])), (h_t_counts, .inl (cI, 19, .inl f_t_counts)), (h_t_code_lengths, .inl (cI, n_t_code_lengths, .inl f_t_code_lengths))] → va_S A s.heap H locs → lv_has ls 3 [(0, .ref h_t), (1, .int x1), (2, .int x2)] → fHeader_bitsInAll_25 N f_t_counts n x1 x2 = some o → (∀ (H : Heap) (locs : List Loc) (ls : Array Slot), va_P (dC, dI) vwCl [(h_t, .inr (4, [.ref h_t_code, .ref h_t_counts, .ref h_t_lengths, .ref h_t_items, .int v_t_itemCount, .int v_t_symbols, .int v_t_distances, .int v_t_codes])), (h_t_code, .inr (2, [.ref h_t_code_lengths, .ref h_t_code_bits, .ref h_t_code_next])), (h_t_counts, .inl (cI, 19, .inl f_t_counts)), (h_t_code_lengths, .inl (cI, n_t_code_lengths, .inl f_t_code_lengths))] H → va_D A [(h_t, .inr (4, [.ref h_t_code, .ref h_t_counts, .ref h_t_lengths, .ref h_t_items, .int v_t_itemCount, .int v_t_symbols, .int v_t_distances, .int v_t_codes])), (h_t_code, .inr (2, [.ref h_t_code_lengths, .ref h_t_code_bits, .ref h_t_code_next])), (h_t_counts, .inl (cI, 19, .inl f_t_counts)), (h_t_code_lengths, .inl (cI, n_t_code_lengths, .inl f_t_code_lengths))] → va_S A s.heap H locs → lv_has ls 3 [(1, .int o)] → W p l e ({ frames := 2, cells := 0, slots := 0, locals := 38 } : Room) s m args below meth c H locs 0 0 Q (F0 m 51 ls [])) → W p l e ({ frames := 2, cells := 0, slots := 0, locals := 38 } : Room) s m args below meth c H locs 0 0 Q (F0 m 25 ls []) := by
  obtain ⟨hx, hb, hml, hown, ht, hA, hK, hN⟩ := id C
  intro n
  induction n with
  | zero => intro x1 x2 H locs ls o _ _ _ _ h; exact nomatch h
  | succ k ih =>
    intro x1 x2 H locs ls o hP hD hS hl h kx
    refine lv_iload_n hx hb d_Header_bitsInAll_25 rfl (lv_at hl 2 rfl) ?_
    refine lv_bipush (v := (19 : Int32)) hx hb d_Header_bitsInAll_26 (by decide) ?_
    refine lv_icmp_ge (tgt := 51) hx hb d_Header_bitsInAll_28 (by decide) (fun c2 => ?_) (fun c2 => ?_)
    · replace h := ip_p c2 h
      obtain rfl := Option.some.inj h
      exact kx _ _ _ hP hD hS (lv_sub hl [1] rfl)
    · replace h := ip_n c2 h
      refine lv_iload_n hx hb d_Header_bitsInAll_31 rfl (lv_at hl 1 rfl) ?_
      refine lv_aload_n hx hb d_Header_bitsInAll_32 rfl (lv_at hl 0 rfl) ?_
      refine va_get (D := (dC, dI)) (ci := 4) (v := .ref h_t_counts) (C := R_Header) (T := F_Header) (N := 8) hx hb ht in_Header hown hK hP 0 rfl rfl 1 (by decide) (ht _ k_189) (fun _ h9 => h9) rfl d_Header_bitsInAll_33 ?_
      refine lv_iload_n hx hb d_Header_bitsInAll_36 rfl (lv_at hl 2 rfl) ?_
      obtain ⟨g3, h⟩ := gd h
      refine va_iald hx hb hK hP 2 1 rfl rfl g3 d_Header_bitsInAll_37 ?_
      refine lv_iload_n hx hb d_Header_bitsInAll_38 rfl (lv_at hl 2 rfl) ?_
      obtain ⟨y4, hy4, h⟩ := bd h
      have hPc := hP.sub (ws' := []) [] rfl
      have hDc := hD.sub (ws' := []) [] (by decide) rfl
      have hFc := va_free (wc := []) hD hS hA [] rfl
      refine va_calli (va_runSN (As := [.int x2]) (rest := [.int (f_t_counts x2.toNatClampNeg), .int x1]) ⟨hx, hb, hml, hown, ht⟩ (cPB_repeatBits l dC dI cB cI cJ _ N x2 y4 hy4) (⟨va_cnB 1 ht (gTB (k_594)) rfl rfl rfl (hN _ nw_14) (ht _ k_65) (by decide +kernel) ⟨Nat.le_of_ble_eq_true rfl, Nat.le_of_ble_eq_true rfl⟩, ht _ k_593, trivial⟩) ⟨fun a U g mk q => by obtain ⟨q0, q1, qP, qK, qD, qN⟩ := q; exact ⟨q0, q1, qP, va_K.moved (u := U) (U := U.calling g mk a) (Vm.Alike.refl U.vm) qK, qD, NW_same (u := U) rfl qN⟩, fun U hU hW => ⟨rfl, by rw [hU], by rw [hU]; exact hPc, va_K.moved hW.alike hK, hDc.weaken (fun _ _ _ _ => trivial), NW_warm hW hN⟩⟩ rfl rfl hl.1 rfl (lv_room (Nat.le_of_ble_eq_true rfl)) d_Header_bitsInAll_39 ⟨Nat.le_of_ble_eq_true rfl, Nat.le_of_ble_eq_true rfl⟩) hS (fun q _ h => hFc q h) hFc (fun ry4 u t H1 locs htH hvm hw hB hz1 hk1 hS => ?_)
      obtain ⟨hP1, hK1, hD1⟩ := hB
      rw [htH] at hP1
      obtain ⟨hP, hD⟩ := va_join (wr := [(h_t, .inr (4, [.ref h_t_code, .ref h_t_counts, .ref h_t_lengths, .ref h_t_items, .int v_t_itemCount, .int v_t_symbols, .int v_t_distances, .int v_t_codes])), (h_t_code, .inr (2, [.ref h_t_code_lengths, .ref h_t_code_bits, .ref h_t_code_next])), (h_t_counts, .inl (cI, 19, .inl f_t_counts)), (h_t_code_lengths, .inl (cI, n_t_code_lengths, .inl f_t_code_lengths))]) (w1 := []) hP hD [] [0, 1, 2, 3] rfl rfl (by decide) (by decide) hk1 hFc hP1 hD1
      generalize H1 = H at hP hS ⊢
      have hP : va_P (dC, dI) vwCl [(h_t, .inr (4, [.ref h_t_code, .ref h_t_counts, .ref h_t_lengths, .ref h_t_items, .int v_t_itemCount, .int v_t_symbols, .int v_t_distances, .int v_t_codes])), (h_t_code, .inr (2, [.ref h_t_code_lengths, .ref h_t_code_bits, .ref h_t_code_next])), (h_t_counts, .inl (cI, 19, .inl f_t_counts)), (h_t_code_lengths, .inl (cI, n_t_code_lengths, .inl f_t_code_lengths))] H := hP.sub [0, 1, 2, 3] rfl
      have hD : va_D A [(h_t, .inr (4, [.ref h_t_code, .ref h_t_counts, .ref h_t_lengths, .ref h_t_items, .int v_t_itemCount, .int v_t_symbols, .int v_t_distances, .int v_t_codes])), (h_t_code, .inr (2, [.ref h_t_code_lengths, .ref h_t_code_bits, .ref h_t_code_next])), (h_t_counts, .inl (cI, 19, .inl f_t_counts)), (h_t_code_lengths, .inl (cI, n_t_code_lengths, .inl f_t_code_lengths))] := hD.sub [0, 1, 2, 3] (by decide) rfl
      replace hw := hw.symm
      subst hw
      refine lv_imul hx hb d_Header_bitsInAll_42 ?_
      refine lv_iadd hx hb d_Header_bitsInAll_43 ?_
      refine lv_istore_n (lv' := [(1, .int (x1 + ((f_t_counts x2.toNatClampNeg) * y4))), (0, .ref h_t), (2, .int x2)]) hx hb d_Header_bitsInAll_44 rfl hl (by decide) rfl (fun ls hl => ?_)
      refine lv_iinc (v := x2 + (1 : Int32)) (lv' := [(2, .int (x2 + (1 : Int32))), (1, .int (x1 + ((f_t_counts x2.toNatClampNeg) * y4))), (0, .ref h_t)]) hx hb d_Header_bitsInAll_45 hl (k := 2) rfl rfl (by decide) rfl (fun ls hl => ?_)
      refine lv_goto (tgt := 25) hx hb d_Header_bitsInAll_48 (by decide) ?_
      exact ih (x1 + ((f_t_counts x2.toNatClampNeg) * y4)) (x2 + (1 : Int32)) _ _ _ _ hP hD hS (lv_sub hl [2, 1, 0] rfl) h kx
set_option maxHeartbeats 4000000 in
set_option maxRecDepth 100000 in
theorem cHeader_bitsInAll (l : Launch) (dC : Nat → ClassId) (dI : Nat → Nat → Nat) (h_t h_t_code h_t_counts h_t_lengths h_t_items h_t_code_lengths h_t_code_bits h_t_code_next : Nat) (cB cI cJ : ClassId) (sz : Nat) (N : Nat) (v_t_itemCount : Int32) (v_t_symbols : Int32) (v_t_distances : Int32) (v_t_codes : Int32) (f_t_counts : Nat → Int32) (n_t_code_lengths : Nat) (f_t_code_lengths : Nat → Int32) (o : Int32) (h : fHeader_bitsInAll N v_t_codes f_t_counts n_t_code_lengths f_t_code_lengths = some o) : Met l y_Header_bitsInAll w_Header_bitsInAll ({ frames := 2, cells := 0, slots := 0, locals := 38 } : Room) (va_Pc [.ref h_t] (fun U => U.heap.size = sz ∧ va_P (dC, dI) vwCl [(h_t, .inr (4, [.ref h_t_code, .ref h_t_counts, .ref h_t_lengths, .ref h_t_items, .int v_t_itemCount, .int v_t_symbols, .int v_t_distances, .int v_t_codes])), (h_t_code, .inr (2, [.ref h_t_code_lengths, .ref h_t_code_bits, .ref h_t_code_next])), (h_t_counts, .inl (cI, 19, .inl f_t_counts)), (h_t_code_lengths, .inl (cI, n_t_code_lengths, .inl f_t_code_lengths))] U.heap ∧ va_K (dC, dI) vwCl [(cB, .byte), (cI, .int), (cJ, .long)] U ∧ va_D (fun _ => True) [(h_t, .inr (4, [.ref h_t_code, .ref h_t_counts, .ref h_t_lengths, .ref h_t_items, .int v_t_itemCount, .int v_t_symbols, .int v_t_distances, .int v_t_codes])), (h_t_code, .inr (2, [.ref h_t_code_lengths, .ref h_t_code_bits, .ref h_t_code_next])), (h_t_counts, .inl (cI, 19, .inl f_t_counts)), (h_t_code_lengths, .inl (cI, n_t_code_lengths, .inl f_t_code_lengths))] ∧ NW U)) (va_Qi (fun r (_ : Unit) => r = o) (fun _ t => va_P (dC, dI) vwCl [(h_t, .inr (4, [.ref h_t_code, .ref h_t_counts, .ref h_t_lengths, .ref h_t_items, .int v_t_itemCount, .int v_t_symbols, .int v_t_distances, .int v_t_codes])), (h_t_code, .inr (2, [.ref h_t_code_lengths, .ref h_t_code_bits, .ref h_t_code_next])), (h_t_counts, .inl (cI, 19, .inl f_t_counts)), (h_t_code_lengths, .inl (cI, n_t_code_lengths, .inl f_t_code_lengths))] t.heap ∧ va_K (dC, dI) vwCl [(cB, .byte), (cI, .int), (cJ, .long)] t ∧ va_D (va_A [(h_t, .inr (4, [.ref h_t_code, .ref h_t_counts, .ref h_t_lengths, .ref h_t_items, .int v_t_itemCount, .int v_t_symbols, .int v_t_distances, .int v_t_codes])), (h_t_code, .inr (2, [.ref h_t_code_lengths, .ref h_t_code_bits, .ref h_t_code_next])), (h_t_counts, .inl (cI, 19, .inl f_t_counts)), (h_t_code_lengths, .inl (cI, n_t_code_lengths, .inl f_t_code_lengths))] sz) [(h_t, .inr (4, [.ref h_t_code, .ref h_t_counts, .ref h_t_lengths, .ref h_t_items, .int v_t_itemCount, .int v_t_symbols, .int v_t_distances, .int v_t_codes])), (h_t_code, .inr (2, [.ref h_t_code_lengths, .ref h_t_code_bits, .ref h_t_code_next])), (h_t_counts, .inl (cI, 19, .inl f_t_counts)), (h_t_code_lengths, .inl (cI, n_t_code_lengths, .inl f_t_code_lengths))]) (va_A [(h_t, .inr (4, [.ref h_t_code, .ref h_t_counts, .ref h_t_lengths, .ref h_t_items, .int v_t_itemCount, .int v_t_symbols, .int v_t_distances, .int v_t_codes])), (h_t_code, .inr (2, [.ref h_t_code_lengths, .ref h_t_code_bits, .ref h_t_code_next])), (h_t_counts, .inl (cI, 19, .inl f_t_counts)), (h_t_code_lengths, .inl (cI, n_t_code_lengths, .inl f_t_code_lengths))] sz)) 0 0 (va_A [(h_t, .inr (4, [.ref h_t_code, .ref h_t_counts, .ref h_t_lengths, .ref h_t_items, .int v_t_itemCount, .int v_t_symbols, .int v_t_distances, .int v_t_codes])), (h_t_code, .inr (2, [.ref h_t_code_lengths, .ref h_t_code_bits, .ref h_t_code_next])), (h_t_counts, .inl (cI, 19, .inl f_t_counts)), (h_t_code_lengths, .inl (cI, n_t_code_lengths, .inl f_t_code_lengths))] sz) := by
  refine Met.ofW (cc := b_Header_bitsInAll) (maxL := 3) (ret := (some .int)) (by decide) rfl ?_
  intro p e s m args below meth c s₁ B hml hv
  obtain ⟨rfl, hsz, hP, hK, hD0, hN⟩ := hv
  have hx := B.exec
  have hb := B.bytes
  have hr := B.returns
  have hts := atoms_spec (ws := w_Header_bitsInAll) B.pre
  have ht : ∀ w ∈ TB, w.before ([.ref h_t]).toArray s = true := fun w h => hts w (List.mem_cons_of_mem _ h)
  have hown : s.vm.findClass R_Header = some m.cls := findClass_of_methodNamed B.named
  have hlocks := B.notSynchronized
  subst hsz
  have hD := hD0.self (sz := s.heap.size)
  generalize hAe : va_A [(h_t, .inr (4, [.ref h_t_code, .ref h_t_counts, .ref h_t_lengths, .ref h_t_items, .int v_t_itemCount, .int v_t_symbols, .int v_t_distances, .int v_t_codes])), (h_t_code, .inr (2, [.ref h_t_code_lengths, .ref h_t_code_bits, .ref h_t_code_next])), (h_t_counts, .inl (cI, 19, .inl f_t_counts)), (h_t_code_lengths, .inl (cI, n_t_code_lengths, .inl f_t_code_lengths))] s.heap.size = A at hD ⊢
  have hA : ∀ q : Nat, s.heap.size ≤ q → A q := fun q h => by rw [← hAe]; exact Or.inr h
  have hS : va_S A s.heap s.heap [] := va_S.rf
  have hP : va_P (dC, dI) vwCl [(h_t, .inr (4, [.ref h_t_code, .ref h_t_counts, .ref h_t_lengths, .ref h_t_items, .int v_t_itemCount, .int v_t_symbols, .int v_t_distances, .int v_t_codes])), (h_t_code, .inr (2, [.ref h_t_code_lengths, .ref h_t_code_bits, .ref h_t_code_next])), (h_t_counts, .inl (cI, 19, .inl f_t_counts)), (h_t_code_lengths, .inl (cI, n_t_code_lengths, .inl f_t_code_lengths))] s.heap := hP
  have C : CX p s m ([.ref h_t]).toArray c b_Header_bitsInAll 3 R_Header A (dC, dI) [(cB, .byte), (cI, .int), (cJ, .long)] := ⟨hx, hb, hml, hown, ht, hA, hK, hN⟩
  have hl := lv_entry ([.ref h_t]) (n := 3) (Nat.le_of_ble_eq_true rfl)
  rw [lg_entry_eq]
  generalize (lg_sl ([.ref h_t]) ++ List.replicate (3 - (lg_sl ([.ref h_t])).length) Slot.unset).toArray = ls at hl ⊢
  have hl : lv_has ls 3 [(0, .ref h_t)] := hl
  refine lv_bipush (v := (14 : Int32)) hx hb d_Header_bitsInAll_0 (by decide) ?_
  refine lv_iconst (v := (3 : Int32)) hx hb d_Header_bitsInAll_2 (by decide) ?_
  refine lv_aload_n hx hb d_Header_bitsInAll_3 rfl (lv_at hl 0 rfl) ?_
  refine va_get (D := (dC, dI)) (ci := 4) (v := .int v_t_codes) (C := R_Header) (T := F_Header) (N := 8) hx hb ht in_Header hown hK hP 0 rfl rfl 7 (by decide) (ht _ k_195) (fun _ h9 => h9) rfl d_Header_bitsInAll_4 ?_
  refine lv_imul hx hb d_Header_bitsInAll_7 ?_
  refine lv_iadd hx hb d_Header_bitsInAll_8 ?_
  refine lv_aload_n hx hb d_Header_bitsInAll_9 rfl (lv_at hl 0 rfl) ?_
  refine va_get (D := (dC, dI)) (ci := 4) (v := .ref h_t_code) (C := R_Header) (T := F_Header) (N := 8) hx hb ht in_Header hown hK hP 0 rfl rfl 0 (by decide) (ht _ k_187) (fun _ h9 => h9) rfl d_Header_bitsInAll_10 ?_
  refine lv_aload_n hx hb d_Header_bitsInAll_13 rfl (lv_at hl 0 rfl) ?_
  refine va_get (D := (dC, dI)) (ci := 4) (v := .ref h_t_counts) (C := R_Header) (T := F_Header) (N := 8) hx hb ht in_Header hown hK hP 0 rfl rfl 1 (by decide) (ht _ k_189) (fun _ h9 => h9) rfl d_Header_bitsInAll_14 ?_
  obtain ⟨y1, hy1, h⟩ := bd h
  have hPc := hP.sub (ws' := [(h_t_code, .inr (2, [.ref h_t_code_lengths, .ref h_t_code_bits, .ref h_t_code_next])), (h_t_counts, .inl (cI, 19, .inl f_t_counts)), (h_t_code_lengths, .inl (cI, n_t_code_lengths, .inl f_t_code_lengths))]) [1, 2, 3] rfl
  have hDc := hD.sub (ws' := [(h_t_code, .inr (2, [.ref h_t_code_lengths, .ref h_t_code_bits, .ref h_t_code_next])), (h_t_counts, .inl (cI, 19, .inl f_t_counts)), (h_t_code_lengths, .inl (cI, n_t_code_lengths, .inl f_t_code_lengths))]) [1, 2, 3] (by decide) rfl
  have hFc := va_free (wc := [(h_t_code, .inr (2, [.ref h_t_code_lengths, .ref h_t_code_bits, .ref h_t_code_next])), (h_t_counts, .inl (cI, 19, .inl f_t_counts)), (h_t_code_lengths, .inl (cI, n_t_code_lengths, .inl f_t_code_lengths))]) hD hS hA [1, 2, 3] rfl
  refine va_calli (va_runV (As := [.ref h_t_counts]) (rest := [.int ((14 : Int32) + ((3 : Int32) * v_t_codes))]) ⟨hx, hb, hml, hown, ht⟩ (cCode_bitsFor l dC dI h_t_code h_t_code_lengths h_t_code_bits h_t_code_next h_t_counts cB cI cJ _ N 19 f_t_counts n_t_code_lengths f_t_code_lengths y1 hy1) (⟨callB_of 1 ht (gTB (k_585)) rfl rfl rfl (ht _ k_70) (ht _ k_591) (by decide +kernel) ⟨Nat.le_of_ble_eq_true rfl, Nat.le_of_ble_eq_true rfl⟩, ht _ k_583, ht _ k_584⟩) ⟨fun a U g mk q => by obtain ⟨q0, q1, qP, qK, qD, qN⟩ := q; exact ⟨q0, q1, qP, va_K.moved (u := U) (U := U.calling g mk a) (Vm.Alike.refl U.vm) qK, qD, NW_same (u := U) rfl qN⟩, va_recv hK hPc (ci := 2) (q0 := 0) rfl rfl, fun U hU hW => ⟨rfl, by rw [hU], by rw [hU]; exact hPc, va_K.moved hW.alike hK, hDc.weaken (fun _ _ _ _ => trivial), NW_warm hW hN⟩⟩ rfl rfl hl.1 rfl (lv_room (Nat.le_of_ble_eq_true rfl)) d_Header_bitsInAll_17 ⟨Nat.le_of_ble_eq_true rfl, Nat.le_of_ble_eq_true rfl⟩) hS (fun q _ h => hFc q h) hFc (fun ry1 u t H1 locs htH hvm hw hB hz1 hk1 hS => ?_)
  obtain ⟨hP1, hK1, hD1⟩ := hB
  rw [htH] at hP1
  obtain ⟨hP, hD⟩ := va_join (wr := [(h_t, .inr (4, [.ref h_t_code, .ref h_t_counts, .ref h_t_lengths, .ref h_t_items, .int v_t_itemCount, .int v_t_symbols, .int v_t_distances, .int v_t_codes]))]) (w1 := [(h_t_code, .inr (2, [.ref h_t_code_lengths, .ref h_t_code_bits, .ref h_t_code_next])), (h_t_counts, .inl (cI, 19, .inl f_t_counts)), (h_t_code_lengths, .inl (cI, n_t_code_lengths, .inl f_t_code_lengths))]) hP hD [1, 2, 3] [0] rfl rfl (by decide) (by decide) hk1 hFc hP1 hD1
  generalize H1 = H at hP hS ⊢
  have hP : va_P (dC, dI) vwCl [(h_t, .inr (4, [.ref h_t_code, .ref h_t_counts, .ref h_t_lengths, .ref h_t_items, .int v_t_itemCount, .int v_t_symbols, .int v_t_distances, .int v_t_codes])), (h_t_code, .inr (2, [.ref h_t_code_lengths, .ref h_t_code_bits, .ref h_t_code_next])), (h_t_counts, .inl (cI, 19, .inl f_t_counts)), (h_t_code_lengths, .inl (cI, n_t_code_lengths, .inl f_t_code_lengths))] H := hP.sub [0, 1, 2, 3] rfl
  have hD : va_D A [(h_t, .inr (4, [.ref h_t_code, .ref h_t_counts, .ref h_t_lengths, .ref h_t_items, .int v_t_itemCount, .int v_t_symbols, .int v_t_distances, .int v_t_codes])), (h_t_code, .inr (2, [.ref h_t_code_lengths, .ref h_t_code_bits, .ref h_t_code_next])), (h_t_counts, .inl (cI, 19, .inl f_t_counts)), (h_t_code_lengths, .inl (cI, n_t_code_lengths, .inl f_t_code_lengths))] := hD.sub [0, 1, 2, 3] (by decide) rfl
  replace hw := hw.symm
  subst hw
  refine lv_iadd hx hb d_Header_bitsInAll_20 ?_
  refine lv_istore_n (lv' := [(1, .int (((14 : Int32) + ((3 : Int32) * v_t_codes)) + y1)), (0, .ref h_t)]) hx hb d_Header_bitsInAll_21 rfl hl (by decide) rfl (fun ls hl => ?_)
  refine lv_bipush (v := (16 : Int32)) hx hb d_Header_bitsInAll_22 (by decide) ?_
  refine lv_istore_n (lv' := [(2, .int (16 : Int32)), (1, .int (((14 : Int32) + ((3 : Int32) * v_t_codes)) + y1)), (0, .ref h_t)]) hx hb d_Header_bitsInAll_24 rfl hl (by decide) rfl (fun ls hl => ?_)
  obtain ⟨y5, hy5, h⟩ := bd h
  refine wHeader_bitsInAll_25 h_t h_t_code h_t_counts h_t_lengths h_t_items h_t_code_lengths h_t_code_bits h_t_code_next cB cI cJ N v_t_itemCount v_t_symbols v_t_distances v_t_codes f_t_counts n_t_code_lengths f_t_code_lengths C N (((14 : Int32) + ((3 : Int32) * v_t_codes)) + y1) (16 : Int32) _ _ _ _ hP hD hS (lv_sub hl [2, 1, 0] rfl) hy5 (fun H locs ls hP hD hS hl => ?_)
  refine lv_iload_n hx hb d_Header_bitsInAll_51 rfl (lv_at hl 0 rfl) ?_
  obtain rfl := Option.some.inj h
  exact W.iret (v := y5) hx hb hr (fun t ht hW => ⟨⟨_, (), rfl, rfl, by rw [ht]; exact hP, va_K.moved hW.alike hK, hD⟩, hS.F ht⟩) hS.2.2 d_Header_bitsInAll_52
/-! PackedBytes$Header.write(LPackedBytes$BitSink;)V -/
def fHeader_write_37 (N : Nat) (v_t_codes : Int32) (n_t_code_lengths : Nat) (f_t_code_lengths : Nat → Int32) : Nat → (Int32) → (Int32) → (Int32) → (Int32) → (Nat → Int32) → Option (Int32 × Int32 × Int32 × (Nat → Int32))
  | 0, _, _, _, _, _ => none
  | k + 1, x2, v_p1_held, v_p1_heldBits, v_p1_to_count, f_p1_to_cells =>
    if v_t_codes ≤ x2 then
      some (v_p1_held, v_p1_heldBits, v_p1_to_count, f_p1_to_cells)
    else
      if ¬ (x2 < 0 ∨ 19 ≤ x2.toNatClampNeg) then
        if ¬ ((S_LENGTH_ORDER x2.toNatClampNeg) < 0 ∨ n_t_code_lengths ≤ (S_LENGTH_ORDER x2.toNatClampNeg).toNatClampNeg) then
          (fBitSink_put N (f_t_code_lengths (S_LENGTH_ORDER x2.toNatClampNeg).toNatClampNeg) (3 : Int32) v_p1_held v_p1_heldBits v_p1_to_count f_p1_to_cells).bind (fun y7 =>
            fHeader_write_37 N v_t_codes n_t_code_lengths f_t_code_lengths k (x2 + (1 : Int32)) y7.1 y7.2.1 y7.2.2.1 y7.2.2.2)
        else none
      else none
def fHeader_write_71 (N : Nat) (v_t_itemCount : Int32) (n_t_code_lengths : Nat) (f_t_code_lengths : Nat → Int32) (f_t_items : Nat → Int32) (n_t_code_bits : Nat) (f_t_code_bits : Nat → Int32) : Nat → (Int32) → (Int32) → (Int32) → (Int32) → (Nat → Int32) → Option (Int32 × Int32 × Int32 × (Nat → Int32))
  | 0, _, _, _, _, _ => none
  | k + 1, x2, v_p1_held, v_p1_heldBits, v_p1_to_count, f_p1_to_cells =>
    if v_t_itemCount ≤ x2 then
      some (v_p1_held, v_p1_heldBits, v_p1_to_count, f_p1_to_cells)
    else
      if ¬ (x2 < 0 ∨ 316 ≤ x2.toNatClampNeg) then
        if ¬ (((f_t_items x2.toNatClampNeg) &&& (31 : Int32)) < 0 ∨ n_t_code_bits ≤ ((f_t_items x2.toNatClampNeg) &&& (31 : Int32)).toNatClampNeg) then
          if ¬ (((f_t_items x2.toNatClampNeg) &&& (31 : Int32)) < 0 ∨ n_t_code_lengths ≤ ((f_t_items x2.toNatClampNeg) &&& (31 : Int32)).toNatClampNeg) then
            (fBitSink_put N (f_t_code_bits ((f_t_items x2.toNatClampNeg) &&& (31 : Int32)).toNatClampNeg) (f_t_code_lengths ((f_t_items x2.toNatClampNeg) &&& (31 : Int32)).toNatClampNeg) v_p1_held v_p1_heldBits v_p1_to_count f_p1_to_cells).bind (fun y13 =>
              if ¬ (x2 < 0 ∨ 316 ≤ x2.toNatClampNeg) then
                (fPB_repeatBits N ((f_t_items x2.toNatClampNeg) &&& (31 : Int32))).bind (fun y15 =>
                  (fBitSink_put N ((f_t_items x2.toNatClampNeg) >>> ((5 : Int32) &&& 31)) y15 y13.1 y13.2.1 y13.2.2.1 y13.2.2.2).bind (fun y16 =>
                    fHeader_write_71 N v_t_itemCount n_t_code_lengths f_t_code_lengths f_t_items n_t_code_bits f_t_code_bits k (x2 + (1 : Int32)) y16.1 y16.2.1 y16.2.2.1 y16.2.2.2))
              else none)
          else none
        else none
      else none
def fHeader_write (N : Nat) (v_t_itemCount : Int32) (v_t_symbols : Int32) (v_t_distances : Int32) (v_t_codes : Int32) (v_p1_held : Int32) (v_p1_heldBits : Int32) (v_p1_to_count : Int32) (f_p1_to_cells : Nat → Int32) (n_t_code_lengths : Nat) (f_t_code_lengths : Nat → Int32) (f_t_items : Nat → Int32) (n_t_code_bits : Nat) (f_t_code_bits : Nat → Int32) : Option (Int32 × Int32 × Int32 × (Nat → Int32)) :=
    (fBitSink_put N (v_t_symbols - (257 : Int32)) (5 : Int32) v_p1_held v_p1_heldBits v_p1_to_count f_p1_to_cells).bind (fun y1 =>
      (fBitSink_put N (v_t_distances - (1 : Int32)) (5 : Int32) y1.1 y1.2.1 y1.2.2.1 y1.2.2.2).bind (fun y2 =>
        (fBitSink_put N (v_t_codes - (4 : Int32)) (4 : Int32) y2.1 y2.2.1 y2.2.2.1 y2.2.2.2).bind (fun y3 =>
          (fHeader_write_37 N v_t_codes n_t_code_lengths f_t_code_lengths N (0 : Int32) y3.1 y3.2.1 y3.2.2.1 y3.2.2.2).bind (fun y8 =>
            (fHeader_write_71 N v_t_itemCount n_t_code_lengths f_t_code_lengths f_t_items n_t_code_bits f_t_code_bits N (0 : Int32) y8.1 y8.2.1 y8.2.2.1 y8.2.2.2).bind (fun y17 =>
              some (y17.1, y17.2.1, y17.2.2.1, y17.2.2.2))))))
set_option maxHeartbeats 4000000 in
set_option maxRecDepth 100000 in
theorem wHeader_write_37 {p : Program} {l : Launch} {e : Env} {s : State} {m : MethodId} {args : Array Value} {below : List Frame} {meth : Method} {c : Code} {Q : State → Prop} {A : Nat → Prop} {dC : Nat → ClassId} {dI : Nat → Nat → Nat} (h_t h_t_code h_t_counts h_t_lengths h_t_items h_p1 h_p1_to h_p1_to_cells h_t_code_lengths h_t_code_bits h_t_code_next b_LENGTH_ORDER : Nat) (cB cI cJ : ClassId) (N : Nat) (v_t_itemCount : Int32) (v_t_symbols : Int32) (v_t_distances : Int32) (v_t_codes : Int32) (n_t_code_lengths : Nat) (f_t_code_lengths : Nat → Int32) (f_t_items : Nat → Int32) (n_t_code_bits : Nat) (f_t_code_bits : Nat → Int32) (C : CX p s m args c b_Header_write 4 R_Header A (dC, dI) [(cB, .byte), (cI, .int), (cJ, .long)]) (ro_b_LENGTH_ORDER : roS "PackedBytes" "LENGTH_ORDER" A b_LENGTH_ORDER 19 S_LENGTH_ORDER s) :
    ∀ (n : Nat) (x2 : Int32) (v_p1_held : Int32) (v_p1_heldBits : Int32) (v_p1_to_count : Int32) (f_p1_to_cells : Nat → Int32) (H : Heap) (locs : List Loc) (ls : Array Slot) (o : Int32 × Int32 × Int32 × (Nat → Int32)), va_P (dC, dI) vwCl [(h_t, .inr (4, [.ref h_t_code, .ref h_t_counts, .ref h_t_lengths, .ref h_t_items, .int v_t_itemCount, .int v_t_symbols, .int v_t_distances, .int v_t_codes])), (h_p1, .inr (0, [.ref h_p1_to, .int v_p1_held, .int v_p1_heldBits])), (h_p1_to, .inr (7, [.ref h_p1_to_cells, .int v_p1_to_count])), (h_p1_to_cells, .inl (cB, 65546, .inl (bf f_p1_to_cells))), (h_t_code, .inr (2, [.ref h_t_code_lengths, .ref h_t_code_bits, .ref h_t_code_next])), (h_t_code_lengths, .inl (cI, n_t_code_lengths, .inl f_t_code_lengths)), (h_t_items, .inl (cI, 316, .inl f_t_items)), (h_t_code_bits, .inl (cI, n_t_code_bits, .inl f_t_code_bits))] H → va_D A [(h_t, .inr (4, [.ref h_t_code, .ref h_t_counts, .ref h_t_lengths, .ref h_t_items, .int v_t_itemCount, .int v_t_symbols, .int v_t_distances, .int v_t_codes])), (h_p1, .inr (0, [.ref h_p1_to, .int v_p1_held, .int v_p1_heldBits])), (h_p1_to, .inr (7, [.ref h_p1_to_cells, .int v_p1_to_count])), (h_p1_to_cells, .inl (cB, 65546, .inl (bf f_p1_to_cells))), (h_t_code, .inr (2, [.ref h_t_code_lengths, .ref h_t_code_bits, .ref h_t_code_next])), (h_t_code_lengths, .inl (cI, n_t_code_lengths, .inl f_t_code_lengths)), (h_t_items, .inl (cI, 316, .inl f_t_items)), (h_t_code_bits, .inl (cI, n_t_code_bits, .inl f_t_code_bits))] → va_S A s.heap H locs → lv_has ls 4 [(0, .ref h_t), (1, .ref h_p1), (2, .int x2)] → fHeader_write_37 N v_t_codes n_t_code_lengths f_t_code_lengths n x2 v_p1_held v_p1_heldBits v_p1_to_count f_p1_to_cells = some o → (∀ (H : Heap) (locs : List Loc) (ls : Array Slot), va_P (dC, dI) vwCl [(h_t, .inr (4, [.ref h_t_code, .ref h_t_counts, .ref h_t_lengths, .ref h_t_items, .int v_t_itemCount, .int v_t_symbols, .int v_t_distances, .int v_t_codes])), (h_p1, .inr (0, [.ref h_p1_to, .int o.1, .int o.2.1])), (h_p1_to, .inr (7, [.ref h_p1_to_cells, .int o.2.2.1])), (h_p1_to_cells, .inl (cB, 65546, .inl (bf o.2.2.2))), (h_t_code, .inr (2, [.ref h_t_code_lengths, .ref h_t_code_bits, .ref h_t_code_next])), (h_t_code_lengths, .inl (cI, n_t_code_lengths, .inl f_t_code_lengths)), (h_t_items, .inl (cI, 316, .inl f_t_items)), (h_t_code_bits, .inl (cI, n_t_code_bits, .inl f_t_code_bits))] H → va_D A [(h_t, .inr (4, [.ref h_t_code, .ref h_t_counts, .ref h_t_lengths, .ref h_t_items, .int v_t_itemCount, .int v_t_symbols, .int v_t_distances, .int v_t_codes])), (h_p1, .inr (0, [.ref h_p1_to, .int o.1, .int o.2.1])), (h_p1_to, .inr (7, [.ref h_p1_to_cells, .int o.2.2.1])), (h_p1_to_cells, .inl (cB, 65546, .inl (bf o.2.2.2))), (h_t_code, .inr (2, [.ref h_t_code_lengths, .ref h_t_code_bits, .ref h_t_code_next])), (h_t_code_lengths, .inl (cI, n_t_code_lengths, .inl f_t_code_lengths)), (h_t_items, .inl (cI, 316, .inl f_t_items)), (h_t_code_bits, .inl (cI, n_t_code_bits, .inl f_t_code_bits))] → va_S A s.heap H locs → lv_has ls 4 [(0, .ref h_t), (1, .ref h_p1)] → W p l e ({ frames := 2, cells := 0, slots := 0, locals := 43 } : Room) s m args below meth c H locs 0 0 Q (F0 m 69 ls [])) → W p l e ({ frames := 2, cells := 0, slots := 0, locals := 43 } : Room) s m args below meth c H locs 0 0 Q (F0 m 37 ls []) := by
  obtain ⟨hx, hb, hml, hown, ht, hA, hK, hN⟩ := id C
  intro n
  induction n with
  | zero => intro x2 v_p1_held v_p1_heldBits v_p1_to_count f_p1_to_cells H locs ls o _ _ _ _ h; exact nomatch h
  | succ k ih =>
    intro x2 v_p1_held v_p1_heldBits v_p1_to_count f_p1_to_cells H locs ls o hP hD hS hl h kx
    refine lv_iload_n hx hb d_Header_write_37 rfl (lv_at hl 2 rfl) ?_
    refine lv_aload_n hx hb d_Header_write_38 rfl (lv_at hl 0 rfl) ?_
    refine va_get (D := (dC, dI)) (ci := 4) (v := .int v_t_codes) (C := R_Header) (T := F_Header) (N := 8) hx hb ht in_Header hown hK hP 0 rfl rfl 7 (by decide) (ht _ k_195) (fun _ h9 => h9) rfl d_Header_write_39 ?_
    refine lv_icmp_ge (tgt := 69) hx hb d_Header_write_42 (by decide) (fun c4 => ?_) (fun c4 => ?_)
    · replace h := ip_p c4 h
      obtain rfl := Option.some.inj h
      exact kx _ _ _ hP hD hS (lv_sub hl [0, 1] rfl)
    · replace h := ip_n c4 h
      refine lv_aload_n hx hb d_Header_write_45 rfl (lv_at hl 1 rfl) ?_
      refine lv_aload_n hx hb d_Header_write_46 rfl (lv_at hl 0 rfl) ?_
      refine va_get (D := (dC, dI)) (ci := 4) (v := .ref h_t_code) (C := R_Header) (T := F_Header) (N := 8) hx hb ht in_Header hown hK hP 0 rfl rfl 0 (by decide) (ht _ k_187) (fun _ h9 => h9) rfl d_Header_write_47 ?_
      refine va_get (D := (dC, dI)) (ci := 2) (v := .ref h_t_code_lengths) (C := R_Code) (T := F_Code) (N := 3) hx hb ht in_Code hown hK hP 4 rfl rfl 0 (by decide) (ht _ k_174) (fun _ h9 => h9) rfl d_Header_write_50 ?_
      refine va_getsN hx hb ro_b_LENGTH_ORDER.1 hS hown (va_Nw.use rfl (hN _ nw_11)) (fun _ h9 => h9) d_Header_write_53 ?_
      refine lv_iload_n hx hb d_Header_write_56 rfl (lv_at hl 2 rfl) ?_
      obtain ⟨g5, h⟩ := gd h
      refine va_sld hx hb ro_b_LENGTH_ORDER.2.1 ro_b_LENGTH_ORDER.2.2.1 ro_b_LENGTH_ORDER.2.2.2 hS g5 d_Header_write_57 ?_
      obtain ⟨g6, h⟩ := gd h
      refine va_iald hx hb hK hP 5 1 rfl rfl g6 d_Header_write_58 ?_
      refine lv_iconst (v := (3 : Int32)) hx hb d_Header_write_59 (by decide) ?_
      obtain ⟨y7, hy7, h⟩ := bd h
      have hPc := hP.sub (ws' := [(h_p1, .inr (0, [.ref h_p1_to, .int v_p1_held, .int v_p1_heldBits])), (h_p1_to, .inr (7, [.ref h_p1_to_cells, .int v_p1_to_count])), (h_p1_to_cells, .inl (cB, 65546, .inl (bf f_p1_to_cells)))]) [1, 2, 3] rfl
      have hDc := hD.sub (ws' := [(h_p1, .inr (0, [.ref h_p1_to, .int v_p1_held, .int v_p1_heldBits])), (h_p1_to, .inr (7, [.ref h_p1_to_cells, .int v_p1_to_count])), (h_p1_to_cells, .inl (cB, 65546, .inl (bf f_p1_to_cells)))]) [1, 2, 3] (by decide) rfl
      have hFc := va_free (wc := [(h_p1, .inr (0, [.ref h_p1_to, .int v_p1_held, .int v_p1_heldBits])), (h_p1_to, .inr (7, [.ref h_p1_to_cells, .int v_p1_to_count])), (h_p1_to_cells, .inl (cB, 65546, .inl (bf f_p1_to_cells)))]) hD hS hA [1, 2, 3] rfl
      refine va_callv (va_runV (As := [.int (f_t_code_lengths (S_LENGTH_ORDER x2.toNatClampNeg).toNatClampNeg), .int (3 : Int32)]) (rest := []) ⟨hx, hb, hml, hown, ht⟩ (cBitSink_put l dC dI h_p1 h_p1_to h_p1_to_cells cB cI cJ _ N (f_t_code_lengths (S_LENGTH_ORDER x2.toNatClampNeg).toNatClampNeg) (3 : Int32) v_p1_held v_p1_heldBits v_p1_to_count f_p1_to_cells y7 hy7) (⟨callB_of 2 ht (gTB (k_607)) rfl rfl rfl (ht _ k_72) (ht _ k_633) (by decide +kernel) ⟨Nat.le_of_ble_eq_true rfl, Nat.le_of_ble_eq_true rfl⟩, ht _ k_605, ht _ k_606⟩) ⟨fun a U g mk q => by obtain ⟨q0, q1, qP, qK, qD, qN⟩ := q; exact ⟨q0, q1, qP, va_K.moved (u := U) (U := U.calling g mk a) (Vm.Alike.refl U.vm) qK, qD, NW_same (u := U) rfl qN⟩, va_recv hK hPc (ci := 0) (q0 := 0) rfl rfl, fun U hU hW => ⟨rfl, by rw [hU], by rw [hU]; exact hPc, va_K.moved hW.alike hK, hDc.weaken (fun _ _ _ _ => trivial), NW_warm hW hN⟩⟩ rfl rfl hl.1 rfl (lv_room (Nat.le_of_ble_eq_true rfl)) d_Header_write_60 ⟨Nat.le_of_ble_eq_true rfl, Nat.le_of_ble_eq_true rfl⟩) hS (fun q _ h => hFc q h) hFc (fun u t H1 locs htH hvm hw hB hz1 hk1 hS => ?_)
      obtain ⟨hP1, hK1, hD1⟩ := hB
      rw [htH] at hP1
      obtain ⟨hP, hD⟩ := va_join (wr := [(h_t, .inr (4, [.ref h_t_code, .ref h_t_counts, .ref h_t_lengths, .ref h_t_items, .int v_t_itemCount, .int v_t_symbols, .int v_t_distances, .int v_t_codes])), (h_t_code, .inr (2, [.ref h_t_code_lengths, .ref h_t_code_bits, .ref h_t_code_next])), (h_t_code_lengths, .inl (cI, n_t_code_lengths, .inl f_t_code_lengths)), (h_t_items, .inl (cI, 316, .inl f_t_items)), (h_t_code_bits, .inl (cI, n_t_code_bits, .inl f_t_code_bits))]) (w1 := [(h_p1, .inr (0, [.ref h_p1_to, .int y7.1, .int y7.2.1])), (h_p1_to, .inr (7, [.ref h_p1_to_cells, .int y7.2.2.1])), (h_p1_to_cells, .inl (cB, 65546, .inl (bf y7.2.2.2)))]) hP hD [1, 2, 3] [0, 4, 5, 6, 7] rfl rfl (by decide) (by decide) hk1 hFc hP1 hD1
      generalize H1 = H at hP hS ⊢
      have hP : va_P (dC, dI) vwCl [(h_t, .inr (4, [.ref h_t_code, .ref h_t_counts, .ref h_t_lengths, .ref h_t_items, .int v_t_itemCount, .int v_t_symbols, .int v_t_distances, .int v_t_codes])), (h_p1, .inr (0, [.ref h_p1_to, .int y7.1, .int y7.2.1])), (h_p1_to, .inr (7, [.ref h_p1_to_cells, .int y7.2.2.1])), (h_p1_to_cells, .inl (cB, 65546, .inl (bf y7.2.2.2))), (h_t_code, .inr (2, [.ref h_t_code_lengths, .ref h_t_code_bits, .ref h_t_code_next])), (h_t_code_lengths, .inl (cI, n_t_code_lengths, .inl f_t_code_lengths)), (h_t_items, .inl (cI, 316, .inl f_t_items)), (h_t_code_bits, .inl (cI, n_t_code_bits, .inl f_t_code_bits))] H := hP.sub [0, 5, 6, 7, 1, 2, 3, 4] rfl
      have hD : va_D A [(h_t, .inr (4, [.ref h_t_code, .ref h_t_counts, .ref h_t_lengths, .ref h_t_items, .int v_t_itemCount, .int v_t_symbols, .int v_t_distances, .int v_t_codes])), (h_p1, .inr (0, [.ref h_p1_to, .int y7.1, .int y7.2.1])), (h_p1_to, .inr (7, [.ref h_p1_to_cells, .int y7.2.2.1])), (h_p1_to_cells, .inl (cB, 65546, .inl (bf y7.2.2.2))), (h_t_code, .inr (2, [.ref h_t_code_lengths, .ref h_t_code_bits, .ref h_t_code_next])), (h_t_code_lengths, .inl (cI, n_t_code_lengths, .inl f_t_code_lengths)), (h_t_items, .inl (cI, 316, .inl f_t_items)), (h_t_code_bits, .inl (cI, n_t_code_bits, .inl f_t_code_bits))] := hD.sub [0, 5, 6, 7, 1, 2, 3, 4] (by decide) rfl
      refine lv_iinc (v := x2 + (1 : Int32)) (lv' := [(2, .int (x2 + (1 : Int32))), (0, .ref h_t), (1, .ref h_p1)]) hx hb d_Header_write_63 hl (k := 2) rfl rfl (by decide) rfl (fun ls hl => ?_)
      refine lv_goto (tgt := 37) hx hb d_Header_write_66 (by decide) ?_
      exact ih (x2 + (1 : Int32)) y7.1 y7.2.1 y7.2.2.1 y7.2.2.2 _ _ _ _ hP hD hS (lv_sub hl [1, 2, 0] rfl) h kx
set_option maxHeartbeats 4000000 in
set_option maxRecDepth 100000 in
theorem wHeader_write_71 {p : Program} {l : Launch} {e : Env} {s : State} {m : MethodId} {args : Array Value} {below : List Frame} {meth : Method} {c : Code} {Q : State → Prop} {A : Nat → Prop} {dC : Nat → ClassId} {dI : Nat → Nat → Nat} (h_t h_t_code h_t_counts h_t_lengths h_t_items h_p1 h_p1_to h_p1_to_cells h_t_code_lengths h_t_code_bits h_t_code_next b_LENGTH_ORDER : Nat) (cB cI cJ : ClassId) (N : Nat) (v_t_itemCount : Int32) (v_t_symbols : Int32) (v_t_distances : Int32) (v_t_codes : Int32) (n_t_code_lengths : Nat) (f_t_code_lengths : Nat → Int32) (f_t_items : Nat → Int32) (n_t_code_bits : Nat) (f_t_code_bits : Nat → Int32) (C : CX p s m args c b_Header_write 4 R_Header A (dC, dI) [(cB, .byte), (cI, .int), (cJ, .long)]) (ro_b_LENGTH_ORDER : roS "PackedBytes" "LENGTH_ORDER" A b_LENGTH_ORDER 19 S_LENGTH_ORDER s) :
    ∀ (n : Nat) (x2 : Int32) (v_p1_held : Int32) (v_p1_heldBits : Int32) (v_p1_to_count : Int32) (f_p1_to_cells : Nat → Int32) (H : Heap) (locs : List Loc) (ls : Array Slot) (o : Int32 × Int32 × Int32 × (Nat → Int32)), va_P (dC, dI) vwCl [(h_t, .inr (4, [.ref h_t_code, .ref h_t_counts, .ref h_t_lengths, .ref h_t_items, .int v_t_itemCount, .int v_t_symbols, .int v_t_distances, .int v_t_codes])), (h_p1, .inr (0, [.ref h_p1_to, .int v_p1_held, .int v_p1_heldBits])), (h_p1_to, .inr (7, [.ref h_p1_to_cells, .int v_p1_to_count])), (h_p1_to_cells, .inl (cB, 65546, .inl (bf f_p1_to_cells))), (h_t_code, .inr (2, [.ref h_t_code_lengths, .ref h_t_code_bits, .ref h_t_code_next])), (h_t_code_lengths, .inl (cI, n_t_code_lengths, .inl f_t_code_lengths)), (h_t_items, .inl (cI, 316, .inl f_t_items)), (h_t_code_bits, .inl (cI, n_t_code_bits, .inl f_t_code_bits))] H → va_D A [(h_t, .inr (4, [.ref h_t_code, .ref h_t_counts, .ref h_t_lengths, .ref h_t_items, .int v_t_itemCount, .int v_t_symbols, .int v_t_distances, .int v_t_codes])), (h_p1, .inr (0, [.ref h_p1_to, .int v_p1_held, .int v_p1_heldBits])), (h_p1_to, .inr (7, [.ref h_p1_to_cells, .int v_p1_to_count])), (h_p1_to_cells, .inl (cB, 65546, .inl (bf f_p1_to_cells))), (h_t_code, .inr (2, [.ref h_t_code_lengths, .ref h_t_code_bits, .ref h_t_code_next])), (h_t_code_lengths, .inl (cI, n_t_code_lengths, .inl f_t_code_lengths)), (h_t_items, .inl (cI, 316, .inl f_t_items)), (h_t_code_bits, .inl (cI, n_t_code_bits, .inl f_t_code_bits))] → va_S A s.heap H locs → lv_has ls 4 [(0, .ref h_t), (1, .ref h_p1), (2, .int x2)] → fHeader_write_71 N v_t_itemCount n_t_code_lengths f_t_code_lengths f_t_items n_t_code_bits f_t_code_bits n x2 v_p1_held v_p1_heldBits v_p1_to_count f_p1_to_cells = some o → (∀ (H : Heap) (locs : List Loc) (ls : Array Slot), va_P (dC, dI) vwCl [(h_t, .inr (4, [.ref h_t_code, .ref h_t_counts, .ref h_t_lengths, .ref h_t_items, .int v_t_itemCount, .int v_t_symbols, .int v_t_distances, .int v_t_codes])), (h_p1, .inr (0, [.ref h_p1_to, .int o.1, .int o.2.1])), (h_p1_to, .inr (7, [.ref h_p1_to_cells, .int o.2.2.1])), (h_p1_to_cells, .inl (cB, 65546, .inl (bf o.2.2.2))), (h_t_code, .inr (2, [.ref h_t_code_lengths, .ref h_t_code_bits, .ref h_t_code_next])), (h_t_code_lengths, .inl (cI, n_t_code_lengths, .inl f_t_code_lengths)), (h_t_items, .inl (cI, 316, .inl f_t_items)), (h_t_code_bits, .inl (cI, n_t_code_bits, .inl f_t_code_bits))] H → va_D A [(h_t, .inr (4, [.ref h_t_code, .ref h_t_counts, .ref h_t_lengths, .ref h_t_items, .int v_t_itemCount, .int v_t_symbols, .int v_t_distances, .int v_t_codes])), (h_p1, .inr (0, [.ref h_p1_to, .int o.1, .int o.2.1])), (h_p1_to, .inr (7, [.ref h_p1_to_cells, .int o.2.2.1])), (h_p1_to_cells, .inl (cB, 65546, .inl (bf o.2.2.2))), (h_t_code, .inr (2, [.ref h_t_code_lengths, .ref h_t_code_bits, .ref h_t_code_next])), (h_t_code_lengths, .inl (cI, n_t_code_lengths, .inl f_t_code_lengths)), (h_t_items, .inl (cI, 316, .inl f_t_items)), (h_t_code_bits, .inl (cI, n_t_code_bits, .inl f_t_code_bits))] → va_S A s.heap H locs → lv_has ls 4 [] → W p l e ({ frames := 2, cells := 0, slots := 0, locals := 43 } : Room) s m args below meth c H locs 0 0 Q (F0 m 133 ls [])) → W p l e ({ frames := 2, cells := 0, slots := 0, locals := 43 } : Room) s m args below meth c H locs 0 0 Q (F0 m 71 ls []) := by
  obtain ⟨hx, hb, hml, hown, ht, hA, hK, hN⟩ := id C
  intro n
  induction n with
  | zero => intro x2 v_p1_held v_p1_heldBits v_p1_to_count f_p1_to_cells H locs ls o _ _ _ _ h; exact nomatch h
  | succ k ih =>
    intro x2 v_p1_held v_p1_heldBits v_p1_to_count f_p1_to_cells H locs ls o hP hD hS hl h kx
    refine lv_iload_n hx hb d_Header_write_71 rfl (lv_at hl 2 rfl) ?_
    refine lv_aload_n hx hb d_Header_write_72 rfl (lv_at hl 0 rfl) ?_
    refine va_get (D := (dC, dI)) (ci := 4) (v := .int v_t_itemCount) (C := R_Header) (T := F_Header) (N := 8) hx hb ht in_Header hown hK hP 0 rfl rfl 4 (by decide) (ht _ k_192) (fun _ h9 => h9) rfl d_Header_write_73 ?_
    refine lv_icmp_ge (tgt := 133) hx hb d_Header_write_76 (by decide) (fun c9 => ?_) (fun c9 => ?_)
    · replace h := ip_p c9 h
      obtain rfl := Option.some.inj h
      exact kx _ _ _ hP hD hS (lv_sub hl [] rfl)
    · replace h := ip_n c9 h
      refine lv_aload_n hx hb d_Header_write_79 rfl (lv_at hl 0 rfl) ?_
      refine va_get (D := (dC, dI)) (ci := 4) (v := .ref h_t_items) (C := R_Header) (T := F_Header) (N := 8) hx hb ht in_Header hown hK hP 0 rfl rfl 3 (by decide) (ht _ k_191) (fun _ h9 => h9) rfl d_Header_write_80 ?_
      refine lv_iload_n hx hb d_Header_write_83 rfl (lv_at hl 2 rfl) ?_
      obtain ⟨g10, h⟩ := gd h
      refine va_iald hx hb hK hP 6 1 rfl rfl g10 d_Header_write_84 ?_
      refine lv_bipush (v := (31 : Int32)) hx hb d_Header_write_85 (by decide) ?_
      refine lv_iand hx hb d_Header_write_87 ?_
      refine lv_istore_n (lv' := [(3, .int ((f_t_items x2.toNatClampNeg) &&& (31 : Int32))), (0, .ref h_t), (1, .ref h_p1), (2, .int x2)]) hx hb d_Header_write_88 rfl hl (by decide) rfl (fun ls hl => ?_)
      refine lv_aload_n hx hb d_Header_write_89 rfl (lv_at hl 2 rfl) ?_
      refine lv_aload_n hx hb d_Header_write_90 rfl (lv_at hl 1 rfl) ?_
      refine va_get (D := (dC, dI)) (ci := 4) (v := .ref h_t_code) (C := R_Header) (T := F_Header) (N := 8) hx hb ht in_Header hown hK hP 0 rfl rfl 0 (by decide) (ht _ k_187) (fun _ h9 => h9) rfl d_Header_write_91 ?_
      refine va_get (D := (dC, dI)) (ci := 2) (v := .ref h_t_code_bits) (C := R_Code) (T := F_Code) (N := 3) hx hb ht in_Code hown hK hP 4 rfl rfl 1 (by decide) (ht _ k_177) (fun _ h9 => h9) rfl d_Header_write_94 ?_
      refine lv_iload_n hx hb d_Header_write_97 rfl (lv_at hl 0 rfl) ?_
      obtain ⟨g11, h⟩ := gd h
      refine va_iald hx hb hK hP 7 1 rfl rfl g11 d_Header_write_98 ?_
      refine lv_aload_n hx hb d_Header_write_99 rfl (lv_at hl 1 rfl) ?_
      refine va_get (D := (dC, dI)) (ci := 4) (v := .ref h_t_code) (C := R_Header) (T := F_Header) (N := 8) hx hb ht in_Header hown hK hP 0 rfl rfl 0 (by decide) (ht _ k_187) (fun _ h9 => h9) rfl d_Header_write_100 ?_
      refine va_get (D := (dC, dI)) (ci := 2) (v := .ref h_t_code_lengths) (C := R_Code) (T := F_Code) (N := 3) hx hb ht in_Code hown hK hP 4 rfl rfl 0 (by decide) (ht _ k_174) (fun _ h9 => h9) rfl d_Header_write_103 ?_
      refine lv_iload_n hx hb d_Header_write_106 rfl (lv_at hl 0 rfl) ?_
      obtain ⟨g12, h⟩ := gd h
      refine va_iald hx hb hK hP 5 1 rfl rfl g12 d_Header_write_107 ?_
      obtain ⟨y13, hy13, h⟩ := bd h
      have hPc := hP.sub (ws' := [(h_p1, .inr (0, [.ref h_p1_to, .int v_p1_held, .int v_p1_heldBits])), (h_p1_to, .inr (7, [.ref h_p1_to_cells, .int v_p1_to_count])), (h_p1_to_cells, .inl (cB, 65546, .inl (bf f_p1_to_cells)))]) [1, 2, 3] rfl
      have hDc := hD.sub (ws' := [(h_p1, .inr (0, [.ref h_p1_to, .int v_p1_held, .int v_p1_heldBits])), (h_p1_to, .inr (7, [.ref h_p1_to_cells, .int v_p1_to_count])), (h_p1_to_cells, .inl (cB, 65546, .inl (bf f_p1_to_cells)))]) [1, 2, 3] (by decide) rfl
      have hFc := va_free (wc := [(h_p1, .inr (0, [.ref h_p1_to, .int v_p1_held, .int v_p1_heldBits])), (h_p1_to, .inr (7, [.ref h_p1_to_cells, .int v_p1_to_count])), (h_p1_to_cells, .inl (cB, 65546, .inl (bf f_p1_to_cells)))]) hD hS hA [1, 2, 3] rfl
      refine va_callv (va_runV (As := [.int (f_t_code_bits ((f_t_items x2.toNatClampNeg) &&& (31 : Int32)).toNatClampNeg), .int (f_t_code_lengths ((f_t_items x2.toNatClampNeg) &&& (31 : Int32)).toNatClampNeg)]) (rest := []) ⟨hx, hb, hml, hown, ht⟩ (cBitSink_put l dC dI h_p1 h_p1_to h_p1_to_cells cB cI cJ _ N (f_t_code_bits ((f_t_items x2.toNatClampNeg) &&& (31 : Int32)).toNatClampNeg) (f_t_code_lengths ((f_t_items x2.toNatClampNeg) &&& (31 : Int32)).toNatClampNeg) v_p1_held v_p1_heldBits v_p1_to_count f_p1_to_cells y13 hy13) (⟨callB_of 2 ht (gTB (k_607)) rfl rfl rfl (ht _ k_72) (ht _ k_633) (by decide +kernel) ⟨Nat.le_of_ble_eq_true rfl, Nat.le_of_ble_eq_true rfl⟩, ht _ k_605, ht _ k_606⟩) ⟨fun a U g mk q => by obtain ⟨q0, q1, qP, qK, qD, qN⟩ := q; exact ⟨q0, q1, qP, va_K.moved (u := U) (U := U.calling g mk a) (Vm.Alike.refl U.vm) qK, qD, NW_same (u := U) rfl qN⟩, va_recv hK hPc (ci := 0) (q0 := 0) rfl rfl, fun U hU hW => ⟨rfl, by rw [hU], by rw [hU]; exact hPc, va_K.moved hW.alike hK, hDc.weaken (fun _ _ _ _ => trivial), NW_warm hW hN⟩⟩ rfl rfl hl.1 rfl (lv_room (Nat.le_of_ble_eq_true rfl)) d_Header_write_108 ⟨Nat.le_of_ble_eq_true rfl, Nat.le_of_ble_eq_true rfl⟩) hS (fun q _ h => hFc q h) hFc (fun u t H1 locs htH hvm hw hB hz1 hk1 hS => ?_)
      obtain ⟨hP1, hK1, hD1⟩ := hB
      rw [htH] at hP1
      obtain ⟨hP, hD⟩ := va_join (wr := [(h_t, .inr (4, [.ref h_t_code, .ref h_t_counts, .ref h_t_lengths, .ref h_t_items, .int v_t_itemCount, .int v_t_symbols, .int v_t_distances, .int v_t_codes])), (h_t_code, .inr (2, [.ref h_t_code_lengths, .ref h_t_code_bits, .ref h_t_code_next])), (h_t_code_lengths, .inl (cI, n_t_code_lengths, .inl f_t_code_lengths)), (h_t_items, .inl (cI, 316, .inl f_t_items)), (h_t_code_bits, .inl (cI, n_t_code_bits, .inl f_t_code_bits))]) (w1 := [(h_p1, .inr (0, [.ref h_p1_to, .int y13.1, .int y13.2.1])), (h_p1_to, .inr (7, [.ref h_p1_to_cells, .int y13.2.2.1])), (h_p1_to_cells, .inl (cB, 65546, .inl (bf y13.2.2.2)))]) hP hD [1, 2, 3] [0, 4, 5, 6, 7] rfl rfl (by decide) (by decide) hk1 hFc hP1 hD1
      generalize H1 = H at hP hS ⊢
      have hP : va_P (dC, dI) vwCl [(h_t, .inr (4, [.ref h_t_code, .ref h_t_counts, .ref h_t_lengths, .ref h_t_items, .int v_t_itemCount, .int v_t_symbols, .int v_t_distances, .int v_t_codes])), (h_p1, .inr (0, [.ref h_p1_to, .int y13.1, .int y13.2.1])), (h_p1_to, .inr (7, [.ref h_p1_to_cells, .int y13.2.2.1])), (h_p1_to_cells, .inl (cB, 65546, .inl (bf y13.2.2.2))), (h_t_code, .inr (2, [.ref h_t_code_lengths, .ref h_t_code_bits, .ref h_t_code_next])), (h_t_code_lengths, .inl (cI, n_t_code_lengths, .inl f_t_code_lengths)), (h_t_items, .inl (cI, 316, .inl f_t_items)), (h_t_code_bits, .inl (cI, n_t_code_bits, .inl f_t_code_bits))] H := hP.sub [0, 5, 6, 7, 1, 2, 3, 4] rfl
      have hD : va_D A [(h_t, .inr (4, [.ref h_t_code, .ref h_t_counts, .ref h_t_lengths, .ref h_t_items, .int v_t_itemCount, .int v_t_symbols, .int v_t_distances, .int v_t_codes])), (h_p1, .inr (0, [.ref h_p1_to, .int y13.1, .int y13.2.1])), (h_p1_to, .inr (7, [.ref h_p1_to_cells, .int y13.2.2.1])), (h_p1_to_cells, .inl (cB, 65546, .inl (bf y13.2.2.2))), (h_t_code, .inr (2, [.ref h_t_code_lengths, .ref h_t_code_bits, .ref h_t_code_next])), (h_t_code_lengths, .inl (cI, n_t_code_lengths, .inl f_t_code_lengths)), (h_t_items, .inl (cI, 316, .inl f_t_items)), (h_t_code_bits, .inl (cI, n_t_code_bits, .inl f_t_code_bits))] := hD.sub [0, 5, 6, 7, 1, 2, 3, 4] (by decide) rfl
      refine lv_aload_n hx hb d_Header_write_111 rfl (lv_at hl 2 rfl) ?_
      refine lv_aload_n hx hb d_Header_write_112 rfl (lv_at hl 1 rfl) ?_
      refine va_get (D := (dC, dI)) (ci := 4) (v := .ref h_t_items) (C := R_Header) (T := F_Header) (N := 8) hx hb ht in_Header hown hK hP 0 rfl rfl 3 (by decide) (ht _ k_191) (fun _ h9 => h9) rfl d_Header_write_113 ?_
      refine lv_iload_n hx hb d_Header_write_116 rfl (lv_at hl 3 rfl) ?_
      obtain ⟨g14, h⟩ := gd h
      refine va_iald hx hb hK hP 6 1 rfl rfl g14 d_Header_write_117 ?_
      refine lv_iconst (v := (5 : Int32)) hx hb d_Header_write_118 (by decide) ?_
      refine lv_ishr hx hb d_Header_write_119 ?_
      refine lv_iload_n hx hb d_Header_write_120 rfl (lv_at hl 0 rfl) ?_
      obtain ⟨y15, hy15, h⟩ := bd h
      have hPc := hP.sub (ws' := []) [] rfl
      have hDc := hD.sub (ws' := []) [] (by decide) rfl
      have hFc := va_free (wc := []) hD hS hA [] rfl
      refine va_calli (va_runSN (As := [.int ((f_t_items x2.toNatClampNeg) &&& (31 : Int32))]) (rest := [.int ((f_t_items x2.toNatClampNeg) >>> ((5 : Int32) &&& 31)), .ref h_p1]) ⟨hx, hb, hml, hown, ht⟩ (cPB_repeatBits l dC dI cB cI cJ _ N ((f_t_items x2.toNatClampNeg) &&& (31 : Int32)) y15 hy15) (⟨va_cnB 1 ht (gTB (k_594)) rfl rfl rfl (hN _ nw_14) (ht _ k_65) (by decide +kernel) ⟨Nat.le_of_ble_eq_true rfl, Nat.le_of_ble_eq_true rfl⟩, ht _ k_593, trivial⟩) ⟨fun a U g mk q => by obtain ⟨q0, q1, qP, qK, qD, qN⟩ := q; exact ⟨q0, q1, qP, va_K.moved (u := U) (U := U.calling g mk a) (Vm.Alike.refl U.vm) qK, qD, NW_same (u := U) rfl qN⟩, fun U hU hW => ⟨rfl, by rw [hU], by rw [hU]; exact hPc, va_K.moved hW.alike hK, hDc.weaken (fun _ _ _ _ => trivial), NW_warm hW hN⟩⟩ rfl rfl hl.1 rfl (lv_room (Nat.le_of_ble_eq_true rfl)) d_Header_write_121 ⟨Nat.le_of_ble_eq_true rfl, Nat.le_of_ble_eq_true rfl⟩) hS (fun q _ h => hFc q h) hFc (fun ry15 u t H1 locs htH hvm hw hB hz1 hk1 hS => ?_)
      obtain ⟨hP1, hK1, hD1⟩ := hB
      rw [htH] at hP1
      obtain ⟨hP, hD⟩ := va_join (wr := [(h_t, .inr (4, [.ref h_t_code, .ref h_t_counts, .ref h_t_lengths, .ref h_t_items, .int v_t_itemCount, .int v_t_symbols, .int v_t_distances, .int v_t_codes])), (h_p1, .inr (0, [.ref h_p1_to, .int y13.1, .int y13.2.1])), (h_p1_to, .inr (7, [.ref h_p1_to_cells, .int y13.2.2.1])), (h_p1_to_cells, .inl (cB, 65546, .inl (bf y13.2.2.2))), (h_t_code, .inr (2, [.ref h_t_code_lengths, .ref h_t_code_bits, .ref h_t_code_next])), (h_t_code_lengths, .inl (cI, n_t_code_lengths, .inl f_t_code_lengths)), (h_t_items, .inl (cI, 316, .inl f_t_items)), (h_t_code_bits, .inl (cI, n_t_code_bits, .inl f_t_code_bits))]) (w1 := []) hP hD [] [0, 1, 2, 3, 4, 5, 6, 7] rfl rfl (by decide) (by decide) hk1 hFc hP1 hD1
      generalize H1 = H at hP hS ⊢
      have hP : va_P (dC, dI) vwCl [(h_t, .inr (4, [.ref h_t_code, .ref h_t_counts, .ref h_t_lengths, .ref h_t_items, .int v_t_itemCount, .int v_t_symbols, .int v_t_distances, .int v_t_codes])), (h_p1, .inr (0, [.ref h_p1_to, .int y13.1, .int y13.2.1])), (h_p1_to, .inr (7, [.ref h_p1_to_cells, .int y13.2.2.1])), (h_p1_to_cells, .inl (cB, 65546, .inl (bf y13.2.2.2))), (h_t_code, .inr (2, [.ref h_t_code_lengths, .ref h_t_code_bits, .ref h_t_code_next])), (h_t_code_lengths, .inl (cI, n_t_code_lengths, .inl f_t_code_lengths)), (h_t_items, .inl (cI, 316, .inl f_t_items)), (h_t_code_bits, .inl (cI, n_t_code_bits, .inl f_t_code_bits))] H := hP.sub [0, 1, 2, 3, 4, 5, 6, 7] rfl
      have hD : va_D A [(h_t, .inr (4, [.ref h_t_code, .ref h_t_counts, .ref h_t_lengths, .ref h_t_items, .int v_t_itemCount, .int v_t_symbols, .int v_t_distances, .int v_t_codes])), (h_p1, .inr (0, [.ref h_p1_to, .int y13.1, .int y13.2.1])), (h_p1_to, .inr (7, [.ref h_p1_to_cells, .int y13.2.2.1])), (h_p1_to_cells, .inl (cB, 65546, .inl (bf y13.2.2.2))), (h_t_code, .inr (2, [.ref h_t_code_lengths, .ref h_t_code_bits, .ref h_t_code_next])), (h_t_code_lengths, .inl (cI, n_t_code_lengths, .inl f_t_code_lengths)), (h_t_items, .inl (cI, 316, .inl f_t_items)), (h_t_code_bits, .inl (cI, n_t_code_bits, .inl f_t_code_bits))] := hD.sub [0, 1, 2, 3, 4, 5, 6, 7] (by decide) rfl
      replace hw := hw.symm
      subst hw
      obtain ⟨y16, hy16, h⟩ := bd h
      have hPc := hP.sub (ws' := [(h_p1, .inr (0, [.ref h_p1_to, .int y13.1, .int y13.2.1])), (h_p1_to, .inr (7, [.ref h_p1_to_cells, .int y13.2.2.1])), (h_p1_to_cells, .inl (cB, 65546, .inl (bf y13.2.2.2)))]) [1, 2, 3] rfl
      have hDc := hD.sub (ws' := [(h_p1, .inr (0, [.ref h_p1_to, .int y13.1, .int y13.2.1])), (h_p1_to, .inr (7, [.ref h_p1_to_cells, .int y13.2.2.1])), (h_p1_to_cells, .inl (cB, 65546, .inl (bf y13.2.2.2)))]) [1, 2, 3] (by decide) rfl
      have hFc := va_free (wc := [(h_p1, .inr (0, [.ref h_p1_to, .int y13.1, .int y13.2.1])), (h_p1_to, .inr (7, [.ref h_p1_to_cells, .int y13.2.2.1])), (h_p1_to_cells, .inl (cB, 65546, .inl (bf y13.2.2.2)))]) hD hS hA [1, 2, 3] rfl
      refine va_callv (va_runV (As := [.int ((f_t_items x2.toNatClampNeg) >>> ((5 : Int32) &&& 31)), .int y15]) (rest := []) ⟨hx, hb, hml, hown, ht⟩ (cBitSink_put l dC dI h_p1 h_p1_to h_p1_to_cells cB cI cJ _ N ((f_t_items x2.toNatClampNeg) >>> ((5 : Int32) &&& 31)) y15 y13.1 y13.2.1 y13.2.2.1 y13.2.2.2 y16 hy16) (⟨callB_of 2 ht (gTB (k_607)) rfl rfl rfl (ht _ k_72) (ht _ k_633) (by decide +kernel) ⟨Nat.le_of_ble_eq_true rfl, Nat.le_of_ble_eq_true rfl⟩, ht _ k_605, ht _ k_606⟩) ⟨fun a U g mk q => by obtain ⟨q0, q1, qP, qK, qD, qN⟩ := q; exact ⟨q0, q1, qP, va_K.moved (u := U) (U := U.calling g mk a) (Vm.Alike.refl U.vm) qK, qD, NW_same (u := U) rfl qN⟩, va_recv hK hPc (ci := 0) (q0 := 0) rfl rfl, fun U hU hW => ⟨rfl, by rw [hU], by rw [hU]; exact hPc, va_K.moved hW.alike hK, hDc.weaken (fun _ _ _ _ => trivial), NW_warm hW hN⟩⟩ rfl rfl hl.1 rfl (lv_room (Nat.le_of_ble_eq_true rfl)) d_Header_write_124 ⟨Nat.le_of_ble_eq_true rfl, Nat.le_of_ble_eq_true rfl⟩) hS (fun q _ h => hFc q h) hFc (fun u t H1 locs htH hvm hw hB hz1 hk1 hS => ?_)
      obtain ⟨hP1, hK1, hD1⟩ := hB
      rw [htH] at hP1
      obtain ⟨hP, hD⟩ := va_join (wr := [(h_t, .inr (4, [.ref h_t_code, .ref h_t_counts, .ref h_t_lengths, .ref h_t_items, .int v_t_itemCount, .int v_t_symbols, .int v_t_distances, .int v_t_codes])), (h_t_code, .inr (2, [.ref h_t_code_lengths, .ref h_t_code_bits, .ref h_t_code_next])), (h_t_code_lengths, .inl (cI, n_t_code_lengths, .inl f_t_code_lengths)), (h_t_items, .inl (cI, 316, .inl f_t_items)), (h_t_code_bits, .inl (cI, n_t_code_bits, .inl f_t_code_bits))]) (w1 := [(h_p1, .inr (0, [.ref h_p1_to, .int y16.1, .int y16.2.1])), (h_p1_to, .inr (7, [.ref h_p1_to_cells, .int y16.2.2.1])), (h_p1_to_cells, .inl (cB, 65546, .inl (bf y16.2.2.2)))]) hP hD [1, 2, 3] [0, 4, 5, 6, 7] rfl rfl (by decide) (by decide) hk1 hFc hP1 hD1
      generalize H1 = H at hP hS ⊢
      have hP : va_P (dC, dI) vwCl [(h_t, .inr (4, [.ref h_t_code, .ref h_t_counts, .ref h_t_lengths, .ref h_t_items, .int v_t_itemCount, .int v_t_symbols, .int v_t_distances, .int v_t_codes])), (h_p1, .inr (0, [.ref h_p1_to, .int y16.1, .int y16.2.1])), (h_p1_to, .inr (7, [.ref h_p1_to_cells, .int y16.2.2.1])), (h_p1_to_cells, .inl (cB, 65546, .inl (bf y16.2.2.2))), (h_t_code, .inr (2, [.ref h_t_code_lengths, .ref h_t_code_bits, .ref h_t_code_next])), (h_t_code_lengths, .inl (cI, n_t_code_lengths, .inl f_t_code_lengths)), (h_t_items, .inl (cI, 316, .inl f_t_items)), (h_t_code_bits, .inl (cI, n_t_code_bits, .inl f_t_code_bits))] H := hP.sub [0, 5, 6, 7, 1, 2, 3, 4] rfl
      have hD : va_D A [(h_t, .inr (4, [.ref h_t_code, .ref h_t_counts, .ref h_t_lengths, .ref h_t_items, .int v_t_itemCount, .int v_t_symbols, .int v_t_distances, .int v_t_codes])), (h_p1, .inr (0, [.ref h_p1_to, .int y16.1, .int y16.2.1])), (h_p1_to, .inr (7, [.ref h_p1_to_cells, .int y16.2.2.1])), (h_p1_to_cells, .inl (cB, 65546, .inl (bf y16.2.2.2))), (h_t_code, .inr (2, [.ref h_t_code_lengths, .ref h_t_code_bits, .ref h_t_code_next])), (h_t_code_lengths, .inl (cI, n_t_code_lengths, .inl f_t_code_lengths)), (h_t_items, .inl (cI, 316, .inl f_t_items)), (h_t_code_bits, .inl (cI, n_t_code_bits, .inl f_t_code_bits))] := hD.sub [0, 5, 6, 7, 1, 2, 3, 4] (by decide) rfl
      refine lv_iinc (v := x2 + (1 : Int32)) (lv' := [(2, .int (x2 + (1 : Int32))), (3, .int ((f_t_items x2.toNatClampNeg) &&& (31 : Int32))), (0, .ref h_t), (1, .ref h_p1)]) hx hb d_Header_write_127 hl (k := 3) rfl rfl (by decide) rfl (fun ls hl => ?_)
      refine lv_goto (tgt := 71) hx hb d_Header_write_130 (by decide) ?_
      exact ih (x2 + (1 : Int32)) y16.1 y16.2.1 y16.2.2.1 y16.2.2.2 _ _ _ _ hP hD hS (lv_sub hl [2, 3, 0] rfl) h kx
set_option maxHeartbeats 4000000 in
set_option maxRecDepth 100000 in
theorem cHeader_write (l : Launch) (dC : Nat → ClassId) (dI : Nat → Nat → Nat) (h_t h_t_code h_t_counts h_t_lengths h_t_items h_p1 h_p1_to h_p1_to_cells h_t_code_lengths h_t_code_bits h_t_code_next b_LENGTH_ORDER : Nat) (cB cI cJ : ClassId) (sz : Nat) (N : Nat) (v_t_itemCount : Int32) (v_t_symbols : Int32) (v_t_distances : Int32) (v_t_codes : Int32) (v_p1_held : Int32) (v_p1_heldBits : Int32) (v_p1_to_count : Int32) (f_p1_to_cells : Nat → Int32) (n_t_code_lengths : Nat) (f_t_code_lengths : Nat → Int32) (f_t_items : Nat → Int32) (n_t_code_bits : Nat) (f_t_code_bits : Nat → Int32) (o : Int32 × Int32 × Int32 × (Nat → Int32)) (h : fHeader_write N v_t_itemCount v_t_symbols v_t_distances v_t_codes v_p1_held v_p1_heldBits v_p1_to_count f_p1_to_cells n_t_code_lengths f_t_code_lengths f_t_items n_t_code_bits f_t_code_bits = some o) : Met l y_Header_write w_Header_write ({ frames := 2, cells := 0, slots := 0, locals := 43 } : Room) (va_Pc [.ref h_t, .ref h_p1] (fun U => U.heap.size = sz ∧ va_P (dC, dI) vwCl [(h_t, .inr (4, [.ref h_t_code, .ref h_t_counts, .ref h_t_lengths, .ref h_t_items, .int v_t_itemCount, .int v_t_symbols, .int v_t_distances, .int v_t_codes])), (h_p1, .inr (0, [.ref h_p1_to, .int v_p1_held, .int v_p1_heldBits])), (h_p1_to, .inr (7, [.ref h_p1_to_cells, .int v_p1_to_count])), (h_p1_to_cells, .inl (cB, 65546, .inl (bf f_p1_to_cells))), (h_t_code, .inr (2, [.ref h_t_code_lengths, .ref h_t_code_bits, .ref h_t_code_next])), (h_t_code_lengths, .inl (cI, n_t_code_lengths, .inl f_t_code_lengths)), (h_t_items, .inl (cI, 316, .inl f_t_items)), (h_t_code_bits, .inl (cI, n_t_code_bits, .inl f_t_code_bits))] U.heap ∧ va_K (dC, dI) vwCl [(cB, .byte), (cI, .int), (cJ, .long)] U ∧ va_D (fun _ => True) [(h_t, .inr (4, [.ref h_t_code, .ref h_t_counts, .ref h_t_lengths, .ref h_t_items, .int v_t_itemCount, .int v_t_symbols, .int v_t_distances, .int v_t_codes])), (h_p1, .inr (0, [.ref h_p1_to, .int v_p1_held, .int v_p1_heldBits])), (h_p1_to, .inr (7, [.ref h_p1_to_cells, .int v_p1_to_count])), (h_p1_to_cells, .inl (cB, 65546, .inl (bf f_p1_to_cells))), (h_t_code, .inr (2, [.ref h_t_code_lengths, .ref h_t_code_bits, .ref h_t_code_next])), (h_t_code_lengths, .inl (cI, n_t_code_lengths, .inl f_t_code_lengths)), (h_t_items, .inl (cI, 316, .inl f_t_items)), (h_t_code_bits, .inl (cI, n_t_code_bits, .inl f_t_code_bits))] ∧ NW U ∧ roS "PackedBytes" "LENGTH_ORDER" (va_A [(h_t, .inr (4, [.ref h_t_code, .ref h_t_counts, .ref h_t_lengths, .ref h_t_items, .int v_t_itemCount, .int v_t_symbols, .int v_t_distances, .int v_t_codes])), (h_p1, .inr (0, [.ref h_p1_to, .int v_p1_held, .int v_p1_heldBits])), (h_p1_to, .inr (7, [.ref h_p1_to_cells, .int v_p1_to_count])), (h_p1_to_cells, .inl (cB, 65546, .inl (bf f_p1_to_cells))), (h_t_code, .inr (2, [.ref h_t_code_lengths, .ref h_t_code_bits, .ref h_t_code_next])), (h_t_code_lengths, .inl (cI, n_t_code_lengths, .inl f_t_code_lengths)), (h_t_items, .inl (cI, 316, .inl f_t_items)), (h_t_code_bits, .inl (cI, n_t_code_bits, .inl f_t_code_bits))] sz) b_LENGTH_ORDER 19 S_LENGTH_ORDER U)) (va_Qv (fun _ : Unit => True) (fun _ t => va_P (dC, dI) vwCl [(h_t, .inr (4, [.ref h_t_code, .ref h_t_counts, .ref h_t_lengths, .ref h_t_items, .int v_t_itemCount, .int v_t_symbols, .int v_t_distances, .int v_t_codes])), (h_p1, .inr (0, [.ref h_p1_to, .int o.1, .int o.2.1])), (h_p1_to, .inr (7, [.ref h_p1_to_cells, .int o.2.2.1])), (h_p1_to_cells, .inl (cB, 65546, .inl (bf o.2.2.2))), (h_t_code, .inr (2, [.ref h_t_code_lengths, .ref h_t_code_bits, .ref h_t_code_next])), (h_t_code_lengths, .inl (cI, n_t_code_lengths, .inl f_t_code_lengths)), (h_t_items, .inl (cI, 316, .inl f_t_items)), (h_t_code_bits, .inl (cI, n_t_code_bits, .inl f_t_code_bits))] t.heap ∧ va_K (dC, dI) vwCl [(cB, .byte), (cI, .int), (cJ, .long)] t ∧ va_D (va_A [(h_t, .inr (4, [.ref h_t_code, .ref h_t_counts, .ref h_t_lengths, .ref h_t_items, .int v_t_itemCount, .int v_t_symbols, .int v_t_distances, .int v_t_codes])), (h_p1, .inr (0, [.ref h_p1_to, .int v_p1_held, .int v_p1_heldBits])), (h_p1_to, .inr (7, [.ref h_p1_to_cells, .int v_p1_to_count])), (h_p1_to_cells, .inl (cB, 65546, .inl (bf f_p1_to_cells))), (h_t_code, .inr (2, [.ref h_t_code_lengths, .ref h_t_code_bits, .ref h_t_code_next])), (h_t_code_lengths, .inl (cI, n_t_code_lengths, .inl f_t_code_lengths)), (h_t_items, .inl (cI, 316, .inl f_t_items)), (h_t_code_bits, .inl (cI, n_t_code_bits, .inl f_t_code_bits))] sz) [(h_t, .inr (4, [.ref h_t_code, .ref h_t_counts, .ref h_t_lengths, .ref h_t_items, .int v_t_itemCount, .int v_t_symbols, .int v_t_distances, .int v_t_codes])), (h_p1, .inr (0, [.ref h_p1_to, .int o.1, .int o.2.1])), (h_p1_to, .inr (7, [.ref h_p1_to_cells, .int o.2.2.1])), (h_p1_to_cells, .inl (cB, 65546, .inl (bf o.2.2.2))), (h_t_code, .inr (2, [.ref h_t_code_lengths, .ref h_t_code_bits, .ref h_t_code_next])), (h_t_code_lengths, .inl (cI, n_t_code_lengths, .inl f_t_code_lengths)), (h_t_items, .inl (cI, 316, .inl f_t_items)), (h_t_code_bits, .inl (cI, n_t_code_bits, .inl f_t_code_bits))]) (va_A [(h_t, .inr (4, [.ref h_t_code, .ref h_t_counts, .ref h_t_lengths, .ref h_t_items, .int v_t_itemCount, .int v_t_symbols, .int v_t_distances, .int v_t_codes])), (h_p1, .inr (0, [.ref h_p1_to, .int v_p1_held, .int v_p1_heldBits])), (h_p1_to, .inr (7, [.ref h_p1_to_cells, .int v_p1_to_count])), (h_p1_to_cells, .inl (cB, 65546, .inl (bf f_p1_to_cells))), (h_t_code, .inr (2, [.ref h_t_code_lengths, .ref h_t_code_bits, .ref h_t_code_next])), (h_t_code_lengths, .inl (cI, n_t_code_lengths, .inl f_t_code_lengths)), (h_t_items, .inl (cI, 316, .inl f_t_items)), (h_t_code_bits, .inl (cI, n_t_code_bits, .inl f_t_code_bits))] sz)) 0 0 (va_A [(h_t, .inr (4, [.ref h_t_code, .ref h_t_counts, .ref h_t_lengths, .ref h_t_items, .int v_t_itemCount, .int v_t_symbols, .int v_t_distances, .int v_t_codes])), (h_p1, .inr (0, [.ref h_p1_to, .int v_p1_held, .int v_p1_heldBits])), (h_p1_to, .inr (7, [.ref h_p1_to_cells, .int v_p1_to_count])), (h_p1_to_cells, .inl (cB, 65546, .inl (bf f_p1_to_cells))), (h_t_code, .inr (2, [.ref h_t_code_lengths, .ref h_t_code_bits, .ref h_t_code_next])), (h_t_code_lengths, .inl (cI, n_t_code_lengths, .inl f_t_code_lengths)), (h_t_items, .inl (cI, 316, .inl f_t_items)), (h_t_code_bits, .inl (cI, n_t_code_bits, .inl f_t_code_bits))] sz) := by
  refine Met.ofW (cc := b_Header_write) (maxL := 4) (ret := none) (by decide) rfl ?_
  intro p e s m args below meth c s₁ B hml hv
  obtain ⟨rfl, hsz, hP, hK, hD0, hN, ro_b_LENGTH_ORDER⟩ := hv
  have hx := B.exec
  have hb := B.bytes
  have hr := B.returns
  have hts := atoms_spec (ws := w_Header_write) B.pre
  have ht : ∀ w ∈ TB, w.before ([.ref h_t, .ref h_p1]).toArray s = true := fun w h => hts w (List.mem_cons_of_mem _ h)
  have hown : s.vm.findClass R_Header = some m.cls := findClass_of_methodNamed B.named
  have hlocks := B.notSynchronized
  subst hsz
  have hD := hD0.self (sz := s.heap.size)
  generalize hAe : va_A [(h_t, .inr (4, [.ref h_t_code, .ref h_t_counts, .ref h_t_lengths, .ref h_t_items, .int v_t_itemCount, .int v_t_symbols, .int v_t_distances, .int v_t_codes])), (h_p1, .inr (0, [.ref h_p1_to, .int v_p1_held, .int v_p1_heldBits])), (h_p1_to, .inr (7, [.ref h_p1_to_cells, .int v_p1_to_count])), (h_p1_to_cells, .inl (cB, 65546, .inl (bf f_p1_to_cells))), (h_t_code, .inr (2, [.ref h_t_code_lengths, .ref h_t_code_bits, .ref h_t_code_next])), (h_t_code_lengths, .inl (cI, n_t_code_lengths, .inl f_t_code_lengths)), (h_t_items, .inl (cI, 316, .inl f_t_items)), (h_t_code_bits, .inl (cI, n_t_code_bits, .inl f_t_code_bits))] s.heap.size = A at hD ro_b_LENGTH_ORDER ⊢
  have hA : ∀ q : Nat, s.heap.size ≤ q → A q := fun q h => by rw [← hAe]; exact Or.inr h
  have hS : va_S A s.heap s.heap [] := va_S.rf
  have hP : va_P (dC, dI) vwCl [(h_t, .inr (4, [.ref h_t_code, .ref h_t_counts, .ref h_t_lengths, .ref h_t_items, .int v_t_itemCount, .int v_t_symbols, .int v_t_distances, .int v_t_codes])), (h_p1, .inr (0, [.ref h_p1_to, .int v_p1_held, .int v_p1_heldBits])), (h_p1_to, .inr (7, [.ref h_p1_to_cells, .int v_p1_to_count])), (h_p1_to_cells, .inl (cB, 65546, .inl (bf f_p1_to_cells))), (h_t_code, .inr (2, [.ref h_t_code_lengths, .ref h_t_code_bits, .ref h_t_code_next])), (h_t_code_lengths, .inl (cI, n_t_code_lengths, .inl f_t_code_lengths)), (h_t_items, .inl (cI, 316, .inl f_t_items)), (h_t_code_bits, .inl (cI, n_t_code_bits, .inl f_t_code_bits))] s.heap := hP
  have C : CX p s m ([.ref h_t, .ref h_p1]).toArray c b_Header_write 4 R_Header A (dC, dI) [(cB, .byte), (cI, .int), (cJ, .long)] := ⟨hx, hb, hml, hown, ht, hA, hK, hN⟩
  have hl := lv_entry ([.ref h_t, .ref h_p1]) (n := 4) (Nat.le_of_ble_eq_true rfl)
  rw [lg_entry_eq]
  generalize (lg_sl ([.ref h_t, .ref h_p1]) ++ List.replicate (4 - (lg_sl ([.ref h_t, .ref h_p1])).length) Slot.unset).toArray = ls at hl ⊢
  have hl : lv_has ls 4 [(0, .ref h_t), (1, .ref h_p1)] := hl
  refine lv_aload_n hx hb d_Header_write_0 rfl (lv_at hl 1 rfl) ?_
  refine lv_aload_n hx hb d_Header_write_1 rfl (lv_at hl 0 rfl) ?_
  refine va_get (D := (dC, dI)) (ci := 4) (v := .int v_t_symbols) (C := R_Header) (T := F_Header) (N := 8) hx hb ht in_Header hown hK hP 0 rfl rfl 5 (by decide) (ht _ k_193) (fun _ h9 => h9) rfl d_Header_write_2 ?_
  refine lv_sipush (v := (257 : Int32)) hx hb d_Header_write_5 (by decide) ?_
  refine lv_isub hx hb d_Header_write_8 ?_
  refine lv_iconst (v := (5 : Int32)) hx hb d_Header_write_9 (by decide) ?_
  obtain ⟨y1, hy1, h⟩ := bd h
  have hPc := hP.sub (ws' := [(h_p1, .inr (0, [.ref h_p1_to, .int v_p1_held, .int v_p1_heldBits])), (h_p1_to, .inr (7, [.ref h_p1_to_cells, .int v_p1_to_count])), (h_p1_to_cells, .inl (cB, 65546, .inl (bf f_p1_to_cells)))]) [1, 2, 3] rfl
  have hDc := hD.sub (ws' := [(h_p1, .inr (0, [.ref h_p1_to, .int v_p1_held, .int v_p1_heldBits])), (h_p1_to, .inr (7, [.ref h_p1_to_cells, .int v_p1_to_count])), (h_p1_to_cells, .inl (cB, 65546, .inl (bf f_p1_to_cells)))]) [1, 2, 3] (by decide) rfl
  have hFc := va_free (wc := [(h_p1, .inr (0, [.ref h_p1_to, .int v_p1_held, .int v_p1_heldBits])), (h_p1_to, .inr (7, [.ref h_p1_to_cells, .int v_p1_to_count])), (h_p1_to_cells, .inl (cB, 65546, .inl (bf f_p1_to_cells)))]) hD hS hA [1, 2, 3] rfl
  refine va_callv (va_runV (As := [.int (v_t_symbols - (257 : Int32)), .int (5 : Int32)]) (rest := []) ⟨hx, hb, hml, hown, ht⟩ (cBitSink_put l dC dI h_p1 h_p1_to h_p1_to_cells cB cI cJ _ N (v_t_symbols - (257 : Int32)) (5 : Int32) v_p1_held v_p1_heldBits v_p1_to_count f_p1_to_cells y1 hy1) (⟨callB_of 2 ht (gTB (k_607)) rfl rfl rfl (ht _ k_72) (ht _ k_633) (by decide +kernel) ⟨Nat.le_of_ble_eq_true rfl, Nat.le_of_ble_eq_true rfl⟩, ht _ k_605, ht _ k_606⟩) ⟨fun a U g mk q => by obtain ⟨q0, q1, qP, qK, qD, qN⟩ := q; exact ⟨q0, q1, qP, va_K.moved (u := U) (U := U.calling g mk a) (Vm.Alike.refl U.vm) qK, qD, NW_same (u := U) rfl qN⟩, va_recv hK hPc (ci := 0) (q0 := 0) rfl rfl, fun U hU hW => ⟨rfl, by rw [hU], by rw [hU]; exact hPc, va_K.moved hW.alike hK, hDc.weaken (fun _ _ _ _ => trivial), NW_warm hW hN⟩⟩ rfl rfl hl.1 rfl (lv_room (Nat.le_of_ble_eq_true rfl)) d_Header_write_10 ⟨Nat.le_of_ble_eq_true rfl, Nat.le_of_ble_eq_true rfl⟩) hS (fun q _ h => hFc q h) hFc (fun u t H1 locs htH hvm hw hB hz1 hk1 hS => ?_)
  obtain ⟨hP1, hK1, hD1⟩ := hB
  rw [htH] at hP1
  obtain ⟨hP, hD⟩ := va_join (wr := [(h_t, .inr (4, [.ref h_t_code, .ref h_t_counts, .ref h_t_lengths, .ref h_t_items, .int v_t_itemCount, .int v_t_symbols, .int v_t_distances, .int v_t_codes])), (h_t_code, .inr (2, [.ref h_t_code_lengths, .ref h_t_code_bits, .ref h_t_code_next])), (h_t_code_lengths, .inl (cI, n_t_code_lengths, .inl f_t_code_lengths)), (h_t_items, .inl (cI, 316, .inl f_t_items)), (h_t_code_bits, .inl (cI, n_t_code_bits, .inl f_t_code_bits))]) (w1 := [(h_p1, .inr (0, [.ref h_p1_to, .int y1.1, .int y1.2.1])), (h_p1_to, .inr (7, [.ref h_p1_to_cells, .int y1.2.2.1])), (h_p1_to_cells, .inl (cB, 65546, .inl (bf y1.2.2.2)))]) hP hD [1, 2, 3] [0, 4, 5, 6, 7] rfl rfl (by decide) (by decide) hk1 hFc hP1 hD1
  generalize H1 = H at hP hS ⊢
  have hP : va_P (dC, dI) vwCl [(h_t, .inr (4, [.ref h_t_code, .ref h_t_counts, .ref h_t_lengths, .ref h_t_items, .int v_t_itemCount, .int v_t_symbols, .int v_t_distances, .int v_t_codes])), (h_p1, .inr (0, [.ref h_p1_to, .int y1.1, .int y1.2.1])), (h_p1_to, .inr (7, [.ref h_p1_to_cells, .int y1.2.2.1])), (h_p1_to_cells, .inl (cB, 65546, .inl (bf y1.2.2.2))), (h_t_code, .inr (2, [.ref h_t_code_lengths, .ref h_t_code_bits, .ref h_t_code_next])), (h_t_code_lengths, .inl (cI, n_t_code_lengths, .inl f_t_code_lengths)), (h_t_items, .inl (cI, 316, .inl f_t_items)), (h_t_code_bits, .inl (cI, n_t_code_bits, .inl f_t_code_bits))] H := hP.sub [0, 5, 6, 7, 1, 2, 3, 4] rfl
  have hD : va_D A [(h_t, .inr (4, [.ref h_t_code, .ref h_t_counts, .ref h_t_lengths, .ref h_t_items, .int v_t_itemCount, .int v_t_symbols, .int v_t_distances, .int v_t_codes])), (h_p1, .inr (0, [.ref h_p1_to, .int y1.1, .int y1.2.1])), (h_p1_to, .inr (7, [.ref h_p1_to_cells, .int y1.2.2.1])), (h_p1_to_cells, .inl (cB, 65546, .inl (bf y1.2.2.2))), (h_t_code, .inr (2, [.ref h_t_code_lengths, .ref h_t_code_bits, .ref h_t_code_next])), (h_t_code_lengths, .inl (cI, n_t_code_lengths, .inl f_t_code_lengths)), (h_t_items, .inl (cI, 316, .inl f_t_items)), (h_t_code_bits, .inl (cI, n_t_code_bits, .inl f_t_code_bits))] := hD.sub [0, 5, 6, 7, 1, 2, 3, 4] (by decide) rfl
  refine lv_aload_n hx hb d_Header_write_13 rfl (lv_at hl 1 rfl) ?_
  refine lv_aload_n hx hb d_Header_write_14 rfl (lv_at hl 0 rfl) ?_
  refine va_get (D := (dC, dI)) (ci := 4) (v := .int v_t_distances) (C := R_Header) (T := F_Header) (N := 8) hx hb ht in_Header hown hK hP 0 rfl rfl 6 (by decide) (ht _ k_194) (fun _ h9 => h9) rfl d_Header_write_15 ?_
  refine lv_iconst (v := (1 : Int32)) hx hb d_Header_write_18 (by decide) ?_
  refine lv_isub hx hb d_Header_write_19 ?_
  refine lv_iconst (v := (5 : Int32)) hx hb d_Header_write_20 (by decide) ?_
  obtain ⟨y2, hy2, h⟩ := bd h
  have hPc := hP.sub (ws' := [(h_p1, .inr (0, [.ref h_p1_to, .int y1.1, .int y1.2.1])), (h_p1_to, .inr (7, [.ref h_p1_to_cells, .int y1.2.2.1])), (h_p1_to_cells, .inl (cB, 65546, .inl (bf y1.2.2.2)))]) [1, 2, 3] rfl
  have hDc := hD.sub (ws' := [(h_p1, .inr (0, [.ref h_p1_to, .int y1.1, .int y1.2.1])), (h_p1_to, .inr (7, [.ref h_p1_to_cells, .int y1.2.2.1])), (h_p1_to_cells, .inl (cB, 65546, .inl (bf y1.2.2.2)))]) [1, 2, 3] (by decide) rfl
  have hFc := va_free (wc := [(h_p1, .inr (0, [.ref h_p1_to, .int y1.1, .int y1.2.1])), (h_p1_to, .inr (7, [.ref h_p1_to_cells, .int y1.2.2.1])), (h_p1_to_cells, .inl (cB, 65546, .inl (bf y1.2.2.2)))]) hD hS hA [1, 2, 3] rfl
  refine va_callv (va_runV (As := [.int (v_t_distances - (1 : Int32)), .int (5 : Int32)]) (rest := []) ⟨hx, hb, hml, hown, ht⟩ (cBitSink_put l dC dI h_p1 h_p1_to h_p1_to_cells cB cI cJ _ N (v_t_distances - (1 : Int32)) (5 : Int32) y1.1 y1.2.1 y1.2.2.1 y1.2.2.2 y2 hy2) (⟨callB_of 2 ht (gTB (k_607)) rfl rfl rfl (ht _ k_72) (ht _ k_633) (by decide +kernel) ⟨Nat.le_of_ble_eq_true rfl, Nat.le_of_ble_eq_true rfl⟩, ht _ k_605, ht _ k_606⟩) ⟨fun a U g mk q => by obtain ⟨q0, q1, qP, qK, qD, qN⟩ := q; exact ⟨q0, q1, qP, va_K.moved (u := U) (U := U.calling g mk a) (Vm.Alike.refl U.vm) qK, qD, NW_same (u := U) rfl qN⟩, va_recv hK hPc (ci := 0) (q0 := 0) rfl rfl, fun U hU hW => ⟨rfl, by rw [hU], by rw [hU]; exact hPc, va_K.moved hW.alike hK, hDc.weaken (fun _ _ _ _ => trivial), NW_warm hW hN⟩⟩ rfl rfl hl.1 rfl (lv_room (Nat.le_of_ble_eq_true rfl)) d_Header_write_21 ⟨Nat.le_of_ble_eq_true rfl, Nat.le_of_ble_eq_true rfl⟩) hS (fun q _ h => hFc q h) hFc (fun u t H1 locs htH hvm hw hB hz1 hk1 hS => ?_)
  obtain ⟨hP1, hK1, hD1⟩ := hB
  rw [htH] at hP1
  obtain ⟨hP, hD⟩ := va_join (wr := [(h_t, .inr (4, [.ref h_t_code, .ref h_t_counts, .ref h_t_lengths, .ref h_t_items, .int v_t_itemCount, .int v_t_symbols, .int v_t_distances, .int v_t_codes])), (h_t_code, .inr (2, [.ref h_t_code_lengths, .ref h_t_code_bits, .ref h_t_code_next])), (h_t_code_lengths, .inl (cI, n_t_code_lengths, .inl f_t_code_lengths)), (h_t_items, .inl (cI, 316, .inl f_t_items)), (h_t_code_bits, .inl (cI, n_t_code_bits, .inl f_t_code_bits))]) (w1 := [(h_p1, .inr (0, [.ref h_p1_to, .int y2.1, .int y2.2.1])), (h_p1_to, .inr (7, [.ref h_p1_to_cells, .int y2.2.2.1])), (h_p1_to_cells, .inl (cB, 65546, .inl (bf y2.2.2.2)))]) hP hD [1, 2, 3] [0, 4, 5, 6, 7] rfl rfl (by decide) (by decide) hk1 hFc hP1 hD1
  generalize H1 = H at hP hS ⊢
  have hP : va_P (dC, dI) vwCl [(h_t, .inr (4, [.ref h_t_code, .ref h_t_counts, .ref h_t_lengths, .ref h_t_items, .int v_t_itemCount, .int v_t_symbols, .int v_t_distances, .int v_t_codes])), (h_p1, .inr (0, [.ref h_p1_to, .int y2.1, .int y2.2.1])), (h_p1_to, .inr (7, [.ref h_p1_to_cells, .int y2.2.2.1])), (h_p1_to_cells, .inl (cB, 65546, .inl (bf y2.2.2.2))), (h_t_code, .inr (2, [.ref h_t_code_lengths, .ref h_t_code_bits, .ref h_t_code_next])), (h_t_code_lengths, .inl (cI, n_t_code_lengths, .inl f_t_code_lengths)), (h_t_items, .inl (cI, 316, .inl f_t_items)), (h_t_code_bits, .inl (cI, n_t_code_bits, .inl f_t_code_bits))] H := hP.sub [0, 5, 6, 7, 1, 2, 3, 4] rfl
  have hD : va_D A [(h_t, .inr (4, [.ref h_t_code, .ref h_t_counts, .ref h_t_lengths, .ref h_t_items, .int v_t_itemCount, .int v_t_symbols, .int v_t_distances, .int v_t_codes])), (h_p1, .inr (0, [.ref h_p1_to, .int y2.1, .int y2.2.1])), (h_p1_to, .inr (7, [.ref h_p1_to_cells, .int y2.2.2.1])), (h_p1_to_cells, .inl (cB, 65546, .inl (bf y2.2.2.2))), (h_t_code, .inr (2, [.ref h_t_code_lengths, .ref h_t_code_bits, .ref h_t_code_next])), (h_t_code_lengths, .inl (cI, n_t_code_lengths, .inl f_t_code_lengths)), (h_t_items, .inl (cI, 316, .inl f_t_items)), (h_t_code_bits, .inl (cI, n_t_code_bits, .inl f_t_code_bits))] := hD.sub [0, 5, 6, 7, 1, 2, 3, 4] (by decide) rfl
  refine lv_aload_n hx hb d_Header_write_24 rfl (lv_at hl 1 rfl) ?_
  refine lv_aload_n hx hb d_Header_write_25 rfl (lv_at hl 0 rfl) ?_
  refine va_get (D := (dC, dI)) (ci := 4) (v := .int v_t_codes) (C := R_Header) (T := F_Header) (N := 8) hx hb ht in_Header hown hK hP 0 rfl rfl 7 (by decide) (ht _ k_195) (fun _ h9 => h9) rfl d_Header_write_26 ?_
  refine lv_iconst (v := (4 : Int32)) hx hb d_Header_write_29 (by decide) ?_
  refine lv_isub hx hb d_Header_write_30 ?_
  refine lv_iconst (v := (4 : Int32)) hx hb d_Header_write_31 (by decide) ?_
  obtain ⟨y3, hy3, h⟩ := bd h
  have hPc := hP.sub (ws' := [(h_p1, .inr (0, [.ref h_p1_to, .int y2.1, .int y2.2.1])), (h_p1_to, .inr (7, [.ref h_p1_to_cells, .int y2.2.2.1])), (h_p1_to_cells, .inl (cB, 65546, .inl (bf y2.2.2.2)))]) [1, 2, 3] rfl
  have hDc := hD.sub (ws' := [(h_p1, .inr (0, [.ref h_p1_to, .int y2.1, .int y2.2.1])), (h_p1_to, .inr (7, [.ref h_p1_to_cells, .int y2.2.2.1])), (h_p1_to_cells, .inl (cB, 65546, .inl (bf y2.2.2.2)))]) [1, 2, 3] (by decide) rfl
  have hFc := va_free (wc := [(h_p1, .inr (0, [.ref h_p1_to, .int y2.1, .int y2.2.1])), (h_p1_to, .inr (7, [.ref h_p1_to_cells, .int y2.2.2.1])), (h_p1_to_cells, .inl (cB, 65546, .inl (bf y2.2.2.2)))]) hD hS hA [1, 2, 3] rfl
  refine va_callv (va_runV (As := [.int (v_t_codes - (4 : Int32)), .int (4 : Int32)]) (rest := []) ⟨hx, hb, hml, hown, ht⟩ (cBitSink_put l dC dI h_p1 h_p1_to h_p1_to_cells cB cI cJ _ N (v_t_codes - (4 : Int32)) (4 : Int32) y2.1 y2.2.1 y2.2.2.1 y2.2.2.2 y3 hy3) (⟨callB_of 2 ht (gTB (k_607)) rfl rfl rfl (ht _ k_72) (ht _ k_633) (by decide +kernel) ⟨Nat.le_of_ble_eq_true rfl, Nat.le_of_ble_eq_true rfl⟩, ht _ k_605, ht _ k_606⟩) ⟨fun a U g mk q => by obtain ⟨q0, q1, qP, qK, qD, qN⟩ := q; exact ⟨q0, q1, qP, va_K.moved (u := U) (U := U.calling g mk a) (Vm.Alike.refl U.vm) qK, qD, NW_same (u := U) rfl qN⟩, va_recv hK hPc (ci := 0) (q0 := 0) rfl rfl, fun U hU hW => ⟨rfl, by rw [hU], by rw [hU]; exact hPc, va_K.moved hW.alike hK, hDc.weaken (fun _ _ _ _ => trivial), NW_warm hW hN⟩⟩ rfl rfl hl.1 rfl (lv_room (Nat.le_of_ble_eq_true rfl)) d_Header_write_32 ⟨Nat.le_of_ble_eq_true rfl, Nat.le_of_ble_eq_true rfl⟩) hS (fun q _ h => hFc q h) hFc (fun u t H1 locs htH hvm hw hB hz1 hk1 hS => ?_)
  obtain ⟨hP1, hK1, hD1⟩ := hB
  rw [htH] at hP1
  obtain ⟨hP, hD⟩ := va_join (wr := [(h_t, .inr (4, [.ref h_t_code, .ref h_t_counts, .ref h_t_lengths, .ref h_t_items, .int v_t_itemCount, .int v_t_symbols, .int v_t_distances, .int v_t_codes])), (h_t_code, .inr (2, [.ref h_t_code_lengths, .ref h_t_code_bits, .ref h_t_code_next])), (h_t_code_lengths, .inl (cI, n_t_code_lengths, .inl f_t_code_lengths)), (h_t_items, .inl (cI, 316, .inl f_t_items)), (h_t_code_bits, .inl (cI, n_t_code_bits, .inl f_t_code_bits))]) (w1 := [(h_p1, .inr (0, [.ref h_p1_to, .int y3.1, .int y3.2.1])), (h_p1_to, .inr (7, [.ref h_p1_to_cells, .int y3.2.2.1])), (h_p1_to_cells, .inl (cB, 65546, .inl (bf y3.2.2.2)))]) hP hD [1, 2, 3] [0, 4, 5, 6, 7] rfl rfl (by decide) (by decide) hk1 hFc hP1 hD1
  generalize H1 = H at hP hS ⊢
  have hP : va_P (dC, dI) vwCl [(h_t, .inr (4, [.ref h_t_code, .ref h_t_counts, .ref h_t_lengths, .ref h_t_items, .int v_t_itemCount, .int v_t_symbols, .int v_t_distances, .int v_t_codes])), (h_p1, .inr (0, [.ref h_p1_to, .int y3.1, .int y3.2.1])), (h_p1_to, .inr (7, [.ref h_p1_to_cells, .int y3.2.2.1])), (h_p1_to_cells, .inl (cB, 65546, .inl (bf y3.2.2.2))), (h_t_code, .inr (2, [.ref h_t_code_lengths, .ref h_t_code_bits, .ref h_t_code_next])), (h_t_code_lengths, .inl (cI, n_t_code_lengths, .inl f_t_code_lengths)), (h_t_items, .inl (cI, 316, .inl f_t_items)), (h_t_code_bits, .inl (cI, n_t_code_bits, .inl f_t_code_bits))] H := hP.sub [0, 5, 6, 7, 1, 2, 3, 4] rfl
  have hD : va_D A [(h_t, .inr (4, [.ref h_t_code, .ref h_t_counts, .ref h_t_lengths, .ref h_t_items, .int v_t_itemCount, .int v_t_symbols, .int v_t_distances, .int v_t_codes])), (h_p1, .inr (0, [.ref h_p1_to, .int y3.1, .int y3.2.1])), (h_p1_to, .inr (7, [.ref h_p1_to_cells, .int y3.2.2.1])), (h_p1_to_cells, .inl (cB, 65546, .inl (bf y3.2.2.2))), (h_t_code, .inr (2, [.ref h_t_code_lengths, .ref h_t_code_bits, .ref h_t_code_next])), (h_t_code_lengths, .inl (cI, n_t_code_lengths, .inl f_t_code_lengths)), (h_t_items, .inl (cI, 316, .inl f_t_items)), (h_t_code_bits, .inl (cI, n_t_code_bits, .inl f_t_code_bits))] := hD.sub [0, 5, 6, 7, 1, 2, 3, 4] (by decide) rfl
  refine lv_iconst (v := (0 : Int32)) hx hb d_Header_write_35 (by decide) ?_
  refine lv_istore_n (lv' := [(2, .int (0 : Int32)), (0, .ref h_t), (1, .ref h_p1)]) hx hb d_Header_write_36 rfl hl (by decide) rfl (fun ls hl => ?_)
  obtain ⟨y8, hy8, h⟩ := bd h
  refine wHeader_write_37 h_t h_t_code h_t_counts h_t_lengths h_t_items h_p1 h_p1_to h_p1_to_cells h_t_code_lengths h_t_code_bits h_t_code_next b_LENGTH_ORDER cB cI cJ N v_t_itemCount v_t_symbols v_t_distances v_t_codes n_t_code_lengths f_t_code_lengths f_t_items n_t_code_bits f_t_code_bits C ro_b_LENGTH_ORDER N (0 : Int32) y3.1 y3.2.1 y3.2.2.1 y3.2.2.2 _ _ _ _ hP hD hS (lv_sub hl [1, 2, 0] rfl) hy8 (fun H locs ls hP hD hS hl => ?_)
  refine lv_iconst (v := (0 : Int32)) hx hb d_Header_write_69 (by decide) ?_
  refine lv_istore_n (lv' := [(2, .int (0 : Int32)), (0, .ref h_t), (1, .ref h_p1)]) hx hb d_Header_write_70 rfl hl (by decide) rfl (fun ls hl => ?_)
  obtain ⟨y17, hy17, h⟩ := bd h
  refine wHeader_write_71 h_t h_t_code h_t_counts h_t_lengths h_t_items h_p1 h_p1_to h_p1_to_cells h_t_code_lengths h_t_code_bits h_t_code_next b_LENGTH_ORDER cB cI cJ N v_t_itemCount v_t_symbols v_t_distances v_t_codes n_t_code_lengths f_t_code_lengths f_t_items n_t_code_bits f_t_code_bits C ro_b_LENGTH_ORDER N (0 : Int32) y8.1 y8.2.1 y8.2.2.1 y8.2.2.2 _ _ _ _ hP hD hS (lv_sub hl [1, 2, 0] rfl) hy17 (fun H locs ls hP hD hS hl => ?_)
  obtain rfl := Option.some.inj h
  exact W.vret hx hb hr (fun t ht hW => ⟨⟨(), rfl, trivial, by rw [ht]; exact hP, va_K.moved hW.alike hK, hD⟩, hS.F ht⟩) hS.2.2 d_Header_write_133
