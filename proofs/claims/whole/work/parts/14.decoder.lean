theorem d_Decoder_isFull_0 : decode b_Decoder_isFull 0 = .ok (.aload_n 0, 1) := by decide +kernel
theorem d_Decoder_isFull_1 : decode b_Decoder_isFull 1 = .ok (.getfield 25, 3) := by decide +kernel
theorem d_Decoder_isFull_4 : decode b_Decoder_isFull 4 = .ok (.ifCond .ne 7, 3) := by decide +kernel
theorem d_Decoder_isFull_7 : decode b_Decoder_isFull 7 = .ok (.iconst 1, 1) := by decide +kernel
theorem d_Decoder_isFull_8 : decode b_Decoder_isFull 8 = .ok (.goto 4, 3) := by decide +kernel
theorem d_Decoder_isFull_11 : decode b_Decoder_isFull 11 = .ok (.iconst 0, 1) := by decide +kernel
theorem d_Decoder_isFull_12 : decode b_Decoder_isFull 12 = .ok (.ireturn, 1) := by decide +kernel
theorem d_Decoder_isOneBit_0 : decode b_Decoder_isOneBit 0 = .ok (.aload_n 0, 1) := by decide +kernel
theorem d_Decoder_isOneBit_1 : decode b_Decoder_isOneBit 1 = .ok (.getfield 21, 3) := by decide +kernel
theorem d_Decoder_isOneBit_4 : decode b_Decoder_isOneBit 4 = .ok (.iconst 1, 1) := by decide +kernel
theorem d_Decoder_isOneBit_5 : decode b_Decoder_isOneBit 5 = .ok (.if_icmp .ne 17, 3) := by decide +kernel
theorem d_Decoder_isOneBit_8 : decode b_Decoder_isOneBit 8 = .ok (.aload_n 0, 1) := by decide +kernel
theorem d_Decoder_isOneBit_9 : decode b_Decoder_isOneBit 9 = .ok (.getfield 9, 3) := by decide +kernel
theorem d_Decoder_isOneBit_12 : decode b_Decoder_isOneBit 12 = .ok (.iconst 1, 1) := by decide +kernel
theorem d_Decoder_isOneBit_13 : decode b_Decoder_isOneBit 13 = .ok (.iaload, 1) := by decide +kernel
theorem d_Decoder_isOneBit_14 : decode b_Decoder_isOneBit 14 = .ok (.iconst 1, 1) := by decide +kernel
theorem d_Decoder_isOneBit_15 : decode b_Decoder_isOneBit 15 = .ok (.if_icmp .ne 7, 3) := by decide +kernel
theorem d_Decoder_isOneBit_18 : decode b_Decoder_isOneBit 18 = .ok (.iconst 1, 1) := by decide +kernel
theorem d_Decoder_isOneBit_19 : decode b_Decoder_isOneBit 19 = .ok (.goto 4, 3) := by decide +kernel
theorem d_Decoder_isOneBit_22 : decode b_Decoder_isOneBit 22 = .ok (.iconst 0, 1) := by decide +kernel
theorem d_Decoder_isOneBit_23 : decode b_Decoder_isOneBit 23 = .ok (.ireturn, 1) := by decide +kernel
theorem d_Decoder_isEmpty_0 : decode b_Decoder_isEmpty 0 = .ok (.aload_n 0, 1) := by decide +kernel
theorem d_Decoder_isEmpty_1 : decode b_Decoder_isEmpty 1 = .ok (.getfield 21, 3) := by decide +kernel
theorem d_Decoder_isEmpty_4 : decode b_Decoder_isEmpty 4 = .ok (.ifCond .ne 7, 3) := by decide +kernel
theorem d_Decoder_isEmpty_7 : decode b_Decoder_isEmpty 7 = .ok (.iconst 1, 1) := by decide +kernel
theorem d_Decoder_isEmpty_8 : decode b_Decoder_isEmpty 8 = .ok (.goto 4, 3) := by decide +kernel
theorem d_Decoder_isEmpty_11 : decode b_Decoder_isEmpty 11 = .ok (.iconst 0, 1) := by decide +kernel
theorem d_Decoder_isEmpty_12 : decode b_Decoder_isEmpty 12 = .ok (.ireturn, 1) := by decide +kernel
theorem d_Decoder_learn_0 : decode b_Decoder_learn 0 = .ok (.aload_n 0, 1) := by decide +kernel
theorem d_Decoder_learn_1 : decode b_Decoder_learn 1 = .ok (.getfield 9, 3) := by decide +kernel
theorem d_Decoder_learn_4 : decode b_Decoder_learn 4 = .ok (.iconst 0, 1) := by decide +kernel
theorem d_Decoder_learn_5 : decode b_Decoder_learn 5 = .ok (.invokestatic 28, 3) := by decide +kernel
theorem d_Decoder_learn_8 : decode b_Decoder_learn 8 = .ok (.iconst 0, 1) := by decide +kernel
theorem d_Decoder_learn_9 : decode b_Decoder_learn 9 = .ok (.istore 4, 2) := by decide +kernel
theorem d_Decoder_learn_11 : decode b_Decoder_learn 11 = .ok (.iload 4, 2) := by decide +kernel
theorem d_Decoder_learn_13 : decode b_Decoder_learn 13 = .ok (.iload_n 3, 1) := by decide +kernel
theorem d_Decoder_learn_14 : decode b_Decoder_learn 14 = .ok (.if_icmp .ge 24, 3) := by decide +kernel
theorem d_Decoder_learn_17 : decode b_Decoder_learn 17 = .ok (.aload_n 0, 1) := by decide +kernel
theorem d_Decoder_learn_18 : decode b_Decoder_learn 18 = .ok (.getfield 9, 3) := by decide +kernel
theorem d_Decoder_learn_21 : decode b_Decoder_learn 21 = .ok (.aload_n 1, 1) := by decide +kernel
theorem d_Decoder_learn_22 : decode b_Decoder_learn 22 = .ok (.iload_n 2, 1) := by decide +kernel
theorem d_Decoder_learn_23 : decode b_Decoder_learn 23 = .ok (.iload 4, 2) := by decide +kernel
theorem d_Decoder_learn_25 : decode b_Decoder_learn 25 = .ok (.iadd, 1) := by decide +kernel
theorem d_Decoder_learn_26 : decode b_Decoder_learn 26 = .ok (.iaload, 1) := by decide +kernel
theorem d_Decoder_learn_27 : decode b_Decoder_learn 27 = .ok (.dup2, 1) := by decide +kernel
theorem d_Decoder_learn_28 : decode b_Decoder_learn 28 = .ok (.iaload, 1) := by decide +kernel
theorem d_Decoder_learn_29 : decode b_Decoder_learn 29 = .ok (.iconst 1, 1) := by decide +kernel
theorem d_Decoder_learn_30 : decode b_Decoder_learn 30 = .ok (.iadd, 1) := by decide +kernel
theorem d_Decoder_learn_31 : decode b_Decoder_learn 31 = .ok (.iastore, 1) := by decide +kernel
theorem d_Decoder_learn_32 : decode b_Decoder_learn 32 = .ok (.iinc 4 1, 3) := by decide +kernel
theorem d_Decoder_learn_35 : decode b_Decoder_learn 35 = .ok (.goto (-24), 3) := by decide +kernel
theorem d_Decoder_learn_38 : decode b_Decoder_learn 38 = .ok (.aload_n 0, 1) := by decide +kernel
theorem d_Decoder_learn_39 : decode b_Decoder_learn 39 = .ok (.iload_n 3, 1) := by decide +kernel
theorem d_Decoder_learn_40 : decode b_Decoder_learn 40 = .ok (.aload_n 0, 1) := by decide +kernel
theorem d_Decoder_learn_41 : decode b_Decoder_learn 41 = .ok (.getfield 9, 3) := by decide +kernel
theorem d_Decoder_learn_44 : decode b_Decoder_learn 44 = .ok (.iconst 0, 1) := by decide +kernel
theorem d_Decoder_learn_45 : decode b_Decoder_learn 45 = .ok (.iaload, 1) := by decide +kernel
theorem d_Decoder_learn_46 : decode b_Decoder_learn 46 = .ok (.isub, 1) := by decide +kernel
theorem d_Decoder_learn_47 : decode b_Decoder_learn 47 = .ok (.putfield 21, 3) := by decide +kernel
theorem d_Decoder_learn_50 : decode b_Decoder_learn 50 = .ok (.aload_n 0, 1) := by decide +kernel
theorem d_Decoder_learn_51 : decode b_Decoder_learn 51 = .ok (.ldc 34, 2) := by decide +kernel
theorem d_Decoder_learn_53 : decode b_Decoder_learn 53 = .ok (.putfield 25, 3) := by decide +kernel
theorem d_Decoder_learn_56 : decode b_Decoder_learn 56 = .ok (.aload_n 0, 1) := by decide +kernel
theorem d_Decoder_learn_57 : decode b_Decoder_learn 57 = .ok (.getfield 15, 3) := by decide +kernel
theorem d_Decoder_learn_60 : decode b_Decoder_learn 60 = .ok (.iconst 1, 1) := by decide +kernel
theorem d_Decoder_learn_61 : decode b_Decoder_learn 61 = .ok (.iconst 0, 1) := by decide +kernel
theorem d_Decoder_learn_62 : decode b_Decoder_learn 62 = .ok (.iastore, 1) := by decide +kernel
theorem d_Decoder_learn_63 : decode b_Decoder_learn 63 = .ok (.iconst 1, 1) := by decide +kernel
theorem d_Decoder_learn_64 : decode b_Decoder_learn 64 = .ok (.istore 4, 2) := by decide +kernel
theorem d_Decoder_learn_66 : decode b_Decoder_learn 66 = .ok (.iload 4, 2) := by decide +kernel
theorem d_Decoder_learn_68 : decode b_Decoder_learn 68 = .ok (.bipush 15, 2) := by decide +kernel
theorem d_Decoder_learn_70 : decode b_Decoder_learn 70 = .ok (.if_icmp .gt 55, 3) := by decide +kernel
theorem d_Decoder_learn_73 : decode b_Decoder_learn 73 = .ok (.aload_n 0, 1) := by decide +kernel
theorem d_Decoder_learn_74 : decode b_Decoder_learn 74 = .ok (.dup, 1) := by decide +kernel
theorem d_Decoder_learn_75 : decode b_Decoder_learn 75 = .ok (.getfield 25, 3) := by decide +kernel
theorem d_Decoder_learn_78 : decode b_Decoder_learn 78 = .ok (.aload_n 0, 1) := by decide +kernel
theorem d_Decoder_learn_79 : decode b_Decoder_learn 79 = .ok (.getfield 9, 3) := by decide +kernel
theorem d_Decoder_learn_82 : decode b_Decoder_learn 82 = .ok (.iload 4, 2) := by decide +kernel
theorem d_Decoder_learn_84 : decode b_Decoder_learn 84 = .ok (.iaload, 1) := by decide +kernel
theorem d_Decoder_learn_85 : decode b_Decoder_learn 85 = .ok (.bipush 15, 2) := by decide +kernel
theorem d_Decoder_learn_87 : decode b_Decoder_learn 87 = .ok (.iload 4, 2) := by decide +kernel
theorem d_Decoder_learn_89 : decode b_Decoder_learn 89 = .ok (.isub, 1) := by decide +kernel
theorem d_Decoder_learn_90 : decode b_Decoder_learn 90 = .ok (.ishl, 1) := by decide +kernel
theorem d_Decoder_learn_91 : decode b_Decoder_learn 91 = .ok (.isub, 1) := by decide +kernel
theorem d_Decoder_learn_92 : decode b_Decoder_learn 92 = .ok (.putfield 25, 3) := by decide +kernel
theorem d_Decoder_learn_95 : decode b_Decoder_learn 95 = .ok (.aload_n 0, 1) := by decide +kernel
theorem d_Decoder_learn_96 : decode b_Decoder_learn 96 = .ok (.getfield 15, 3) := by decide +kernel
theorem d_Decoder_learn_99 : decode b_Decoder_learn 99 = .ok (.iload 4, 2) := by decide +kernel
theorem d_Decoder_learn_101 : decode b_Decoder_learn 101 = .ok (.iconst 1, 1) := by decide +kernel
theorem d_Decoder_learn_102 : decode b_Decoder_learn 102 = .ok (.iadd, 1) := by decide +kernel
theorem d_Decoder_learn_103 : decode b_Decoder_learn 103 = .ok (.aload_n 0, 1) := by decide +kernel
theorem d_Decoder_learn_104 : decode b_Decoder_learn 104 = .ok (.getfield 15, 3) := by decide +kernel
theorem d_Decoder_learn_107 : decode b_Decoder_learn 107 = .ok (.iload 4, 2) := by decide +kernel
theorem d_Decoder_learn_109 : decode b_Decoder_learn 109 = .ok (.iaload, 1) := by decide +kernel
theorem d_Decoder_learn_110 : decode b_Decoder_learn 110 = .ok (.aload_n 0, 1) := by decide +kernel
theorem d_Decoder_learn_111 : decode b_Decoder_learn 111 = .ok (.getfield 9, 3) := by decide +kernel
theorem d_Decoder_learn_114 : decode b_Decoder_learn 114 = .ok (.iload 4, 2) := by decide +kernel
theorem d_Decoder_learn_116 : decode b_Decoder_learn 116 = .ok (.iaload, 1) := by decide +kernel
theorem d_Decoder_learn_117 : decode b_Decoder_learn 117 = .ok (.iadd, 1) := by decide +kernel
theorem d_Decoder_learn_118 : decode b_Decoder_learn 118 = .ok (.iastore, 1) := by decide +kernel
theorem d_Decoder_learn_119 : decode b_Decoder_learn 119 = .ok (.iinc 4 1, 3) := by decide +kernel
theorem d_Decoder_learn_122 : decode b_Decoder_learn 122 = .ok (.goto (-56), 3) := by decide +kernel
theorem d_Decoder_learn_125 : decode b_Decoder_learn 125 = .ok (.iconst 0, 1) := by decide +kernel
theorem d_Decoder_learn_126 : decode b_Decoder_learn 126 = .ok (.istore 4, 2) := by decide +kernel
theorem d_Decoder_learn_128 : decode b_Decoder_learn 128 = .ok (.iload 4, 2) := by decide +kernel
theorem d_Decoder_learn_130 : decode b_Decoder_learn 130 = .ok (.iload_n 3, 1) := by decide +kernel
theorem d_Decoder_learn_131 : decode b_Decoder_learn 131 = .ok (.if_icmp .ge 47, 3) := by decide +kernel
theorem d_Decoder_learn_134 : decode b_Decoder_learn 134 = .ok (.aload_n 1, 1) := by decide +kernel
theorem d_Decoder_learn_135 : decode b_Decoder_learn 135 = .ok (.iload_n 2, 1) := by decide +kernel
theorem d_Decoder_learn_136 : decode b_Decoder_learn 136 = .ok (.iload 4, 2) := by decide +kernel
theorem d_Decoder_learn_138 : decode b_Decoder_learn 138 = .ok (.iadd, 1) := by decide +kernel
theorem d_Decoder_learn_139 : decode b_Decoder_learn 139 = .ok (.iaload, 1) := by decide +kernel
theorem d_Decoder_learn_140 : decode b_Decoder_learn 140 = .ok (.istore 5, 2) := by decide +kernel
theorem d_Decoder_learn_142 : decode b_Decoder_learn 142 = .ok (.iload 5, 2) := by decide +kernel
theorem d_Decoder_learn_144 : decode b_Decoder_learn 144 = .ok (.ifCond .le 28, 3) := by decide +kernel
theorem d_Decoder_learn_147 : decode b_Decoder_learn 147 = .ok (.aload_n 0, 1) := by decide +kernel
theorem d_Decoder_learn_148 : decode b_Decoder_learn 148 = .ok (.getfield 18, 3) := by decide +kernel
theorem d_Decoder_learn_151 : decode b_Decoder_learn 151 = .ok (.aload_n 0, 1) := by decide +kernel
theorem d_Decoder_learn_152 : decode b_Decoder_learn 152 = .ok (.getfield 15, 3) := by decide +kernel
theorem d_Decoder_learn_155 : decode b_Decoder_learn 155 = .ok (.iload 5, 2) := by decide +kernel
theorem d_Decoder_learn_157 : decode b_Decoder_learn 157 = .ok (.iaload, 1) := by decide +kernel
theorem d_Decoder_learn_158 : decode b_Decoder_learn 158 = .ok (.iload 4, 2) := by decide +kernel
theorem d_Decoder_learn_160 : decode b_Decoder_learn 160 = .ok (.iastore, 1) := by decide +kernel
theorem d_Decoder_learn_161 : decode b_Decoder_learn 161 = .ok (.aload_n 0, 1) := by decide +kernel
theorem d_Decoder_learn_162 : decode b_Decoder_learn 162 = .ok (.getfield 15, 3) := by decide +kernel
theorem d_Decoder_learn_165 : decode b_Decoder_learn 165 = .ok (.iload 5, 2) := by decide +kernel
theorem d_Decoder_learn_167 : decode b_Decoder_learn 167 = .ok (.dup2, 1) := by decide +kernel
theorem d_Decoder_learn_168 : decode b_Decoder_learn 168 = .ok (.iaload, 1) := by decide +kernel
theorem d_Decoder_learn_169 : decode b_Decoder_learn 169 = .ok (.iconst 1, 1) := by decide +kernel
theorem d_Decoder_learn_170 : decode b_Decoder_learn 170 = .ok (.iadd, 1) := by decide +kernel
theorem d_Decoder_learn_171 : decode b_Decoder_learn 171 = .ok (.iastore, 1) := by decide +kernel
theorem d_Decoder_learn_172 : decode b_Decoder_learn 172 = .ok (.iinc 4 1, 3) := by decide +kernel
theorem d_Decoder_learn_175 : decode b_Decoder_learn 175 = .ok (.goto (-47), 3) := by decide +kernel
theorem d_Decoder_learn_178 : decode b_Decoder_learn 178 = .ok (.return_, 1) := by decide +kernel
theorem d_Decoder_decode_0 : decode b_Decoder_decode 0 = .ok (.aload_n 1, 1) := by decide +kernel
theorem d_Decoder_decode_1 : decode b_Decoder_decode 1 = .ok (.getfield 35, 3) := by decide +kernel
theorem d_Decoder_decode_4 : decode b_Decoder_decode 4 = .ok (.getfield 41, 3) := by decide +kernel
theorem d_Decoder_decode_7 : decode b_Decoder_decode 7 = .ok (.astore_n 2, 1) := by decide +kernel
theorem d_Decoder_decode_8 : decode b_Decoder_decode 8 = .ok (.aload_n 1, 1) := by decide +kernel
theorem d_Decoder_decode_9 : decode b_Decoder_decode 9 = .ok (.getfield 35, 3) := by decide +kernel
theorem d_Decoder_decode_12 : decode b_Decoder_decode 12 = .ok (.getfield 47, 3) := by decide +kernel
theorem d_Decoder_decode_15 : decode b_Decoder_decode 15 = .ok (.bipush 8, 2) := by decide +kernel
theorem d_Decoder_decode_17 : decode b_Decoder_decode 17 = .ok (.imul, 1) := by decide +kernel
theorem d_Decoder_decode_18 : decode b_Decoder_decode 18 = .ok (.istore_n 3, 1) := by decide +kernel
theorem d_Decoder_decode_19 : decode b_Decoder_decode 19 = .ok (.aload_n 1, 1) := by decide +kernel
theorem d_Decoder_decode_20 : decode b_Decoder_decode 20 = .ok (.getfield 50, 3) := by decide +kernel
theorem d_Decoder_decode_23 : decode b_Decoder_decode 23 = .ok (.istore 4, 2) := by decide +kernel
theorem d_Decoder_decode_25 : decode b_Decoder_decode 25 = .ok (.aload_n 0, 1) := by decide +kernel
theorem d_Decoder_decode_26 : decode b_Decoder_decode 26 = .ok (.getfield 21, 3) := by decide +kernel
theorem d_Decoder_decode_29 : decode b_Decoder_decode 29 = .ok (.ifCond .ne 7, 3) := by decide +kernel
theorem d_Decoder_decode_32 : decode b_Decoder_decode 32 = .ok (.iconst 0, 1) := by decide +kernel
theorem d_Decoder_decode_33 : decode b_Decoder_decode 33 = .ok (.goto 17, 3) := by decide +kernel
theorem d_Decoder_decode_36 : decode b_Decoder_decode 36 = .ok (.aload_n 0, 1) := by decide +kernel
theorem d_Decoder_decode_37 : decode b_Decoder_decode 37 = .ok (.getfield 21, 3) := by decide +kernel
theorem d_Decoder_decode_40 : decode b_Decoder_decode 40 = .ok (.iconst 1, 1) := by decide +kernel
theorem d_Decoder_decode_41 : decode b_Decoder_decode 41 = .ok (.if_icmp .ne 7, 3) := by decide +kernel
theorem d_Decoder_decode_44 : decode b_Decoder_decode 44 = .ok (.iconst 1, 1) := by decide +kernel
theorem d_Decoder_decode_45 : decode b_Decoder_decode 45 = .ok (.goto 5, 3) := by decide +kernel
theorem d_Decoder_decode_48 : decode b_Decoder_decode 48 = .ok (.bipush 15, 2) := by decide +kernel
theorem d_Decoder_decode_50 : decode b_Decoder_decode 50 = .ok (.istore 5, 2) := by decide +kernel
theorem d_Decoder_decode_52 : decode b_Decoder_decode 52 = .ok (.iconst 0, 1) := by decide +kernel
theorem d_Decoder_decode_53 : decode b_Decoder_decode 53 = .ok (.istore 6, 2) := by decide +kernel
theorem d_Decoder_decode_55 : decode b_Decoder_decode 55 = .ok (.iconst 0, 1) := by decide +kernel
theorem d_Decoder_decode_56 : decode b_Decoder_decode 56 = .ok (.istore 7, 2) := by decide +kernel
theorem d_Decoder_decode_58 : decode b_Decoder_decode 58 = .ok (.iconst 0, 1) := by decide +kernel
theorem d_Decoder_decode_59 : decode b_Decoder_decode 59 = .ok (.istore 8, 2) := by decide +kernel
theorem d_Decoder_decode_61 : decode b_Decoder_decode 61 = .ok (.iconst 1, 1) := by decide +kernel
theorem d_Decoder_decode_62 : decode b_Decoder_decode 62 = .ok (.istore 9, 2) := by decide +kernel
theorem d_Decoder_decode_64 : decode b_Decoder_decode 64 = .ok (.iload 9, 2) := by decide +kernel
theorem d_Decoder_decode_66 : decode b_Decoder_decode 66 = .ok (.iload 5, 2) := by decide +kernel
theorem d_Decoder_decode_68 : decode b_Decoder_decode 68 = .ok (.if_icmp .gt 96, 3) := by decide +kernel
theorem d_Decoder_decode_71 : decode b_Decoder_decode 71 = .ok (.iload 4, 2) := by decide +kernel
theorem d_Decoder_decode_73 : decode b_Decoder_decode 73 = .ok (.iload_n 3, 1) := by decide +kernel
theorem d_Decoder_decode_74 : decode b_Decoder_decode 74 = .ok (.if_icmp .lt 5, 3) := by decide +kernel
theorem d_Decoder_decode_77 : decode b_Decoder_decode 77 = .ok (.iconst (-1), 1) := by decide +kernel
theorem d_Decoder_decode_78 : decode b_Decoder_decode 78 = .ok (.ireturn, 1) := by decide +kernel
theorem d_Decoder_decode_79 : decode b_Decoder_decode 79 = .ok (.iload 6, 2) := by decide +kernel
theorem d_Decoder_decode_81 : decode b_Decoder_decode 81 = .ok (.iconst 1, 1) := by decide +kernel
theorem d_Decoder_decode_82 : decode b_Decoder_decode 82 = .ok (.ishl, 1) := by decide +kernel
theorem d_Decoder_decode_83 : decode b_Decoder_decode 83 = .ok (.aload_n 2, 1) := by decide +kernel
theorem d_Decoder_decode_84 : decode b_Decoder_decode 84 = .ok (.iload 4, 2) := by decide +kernel
theorem d_Decoder_decode_86 : decode b_Decoder_decode 86 = .ok (.iconst 3, 1) := by decide +kernel
theorem d_Decoder_decode_87 : decode b_Decoder_decode 87 = .ok (.ishr, 1) := by decide +kernel
theorem d_Decoder_decode_88 : decode b_Decoder_decode 88 = .ok (.baload, 1) := by decide +kernel
theorem d_Decoder_decode_89 : decode b_Decoder_decode 89 = .ok (.iload 4, 2) := by decide +kernel
theorem d_Decoder_decode_91 : decode b_Decoder_decode 91 = .ok (.bipush 7, 2) := by decide +kernel
theorem d_Decoder_decode_93 : decode b_Decoder_decode 93 = .ok (.iand, 1) := by decide +kernel
theorem d_Decoder_decode_94 : decode b_Decoder_decode 94 = .ok (.ishr, 1) := by decide +kernel
theorem d_Decoder_decode_95 : decode b_Decoder_decode 95 = .ok (.iconst 1, 1) := by decide +kernel
theorem d_Decoder_decode_96 : decode b_Decoder_decode 96 = .ok (.iand, 1) := by decide +kernel
theorem d_Decoder_decode_97 : decode b_Decoder_decode 97 = .ok (.ior, 1) := by decide +kernel
theorem d_Decoder_decode_98 : decode b_Decoder_decode 98 = .ok (.istore 6, 2) := by decide +kernel
theorem d_Decoder_decode_100 : decode b_Decoder_decode 100 = .ok (.iinc 4 1, 3) := by decide +kernel
theorem d_Decoder_decode_103 : decode b_Decoder_decode 103 = .ok (.aload_n 0, 1) := by decide +kernel
theorem d_Decoder_decode_104 : decode b_Decoder_decode 104 = .ok (.getfield 9, 3) := by decide +kernel
theorem d_Decoder_decode_107 : decode b_Decoder_decode 107 = .ok (.iload 9, 2) := by decide +kernel
theorem d_Decoder_decode_109 : decode b_Decoder_decode 109 = .ok (.iaload, 1) := by decide +kernel
theorem d_Decoder_decode_110 : decode b_Decoder_decode 110 = .ok (.istore 10, 2) := by decide +kernel
theorem d_Decoder_decode_112 : decode b_Decoder_decode 112 = .ok (.iload 6, 2) := by decide +kernel
theorem d_Decoder_decode_114 : decode b_Decoder_decode 114 = .ok (.iload 7, 2) := by decide +kernel
theorem d_Decoder_decode_116 : decode b_Decoder_decode 116 = .ok (.isub, 1) := by decide +kernel
theorem d_Decoder_decode_117 : decode b_Decoder_decode 117 = .ok (.iload 10, 2) := by decide +kernel
theorem d_Decoder_decode_119 : decode b_Decoder_decode 119 = .ok (.if_icmp .ge 23, 3) := by decide +kernel
theorem d_Decoder_decode_122 : decode b_Decoder_decode 122 = .ok (.aload_n 1, 1) := by decide +kernel
theorem d_Decoder_decode_123 : decode b_Decoder_decode 123 = .ok (.iload 4, 2) := by decide +kernel
theorem d_Decoder_decode_125 : decode b_Decoder_decode 125 = .ok (.putfield 50, 3) := by decide +kernel
theorem d_Decoder_decode_128 : decode b_Decoder_decode 128 = .ok (.aload_n 0, 1) := by decide +kernel
theorem d_Decoder_decode_129 : decode b_Decoder_decode 129 = .ok (.getfield 18, 3) := by decide +kernel
theorem d_Decoder_decode_132 : decode b_Decoder_decode 132 = .ok (.iload 8, 2) := by decide +kernel
theorem d_Decoder_decode_134 : decode b_Decoder_decode 134 = .ok (.iload 6, 2) := by decide +kernel
theorem d_Decoder_decode_136 : decode b_Decoder_decode 136 = .ok (.iadd, 1) := by decide +kernel
theorem d_Decoder_decode_137 : decode b_Decoder_decode 137 = .ok (.iload 7, 2) := by decide +kernel
theorem d_Decoder_decode_139 : decode b_Decoder_decode 139 = .ok (.isub, 1) := by decide +kernel
theorem d_Decoder_decode_140 : decode b_Decoder_decode 140 = .ok (.iaload, 1) := by decide +kernel
theorem d_Decoder_decode_141 : decode b_Decoder_decode 141 = .ok (.ireturn, 1) := by decide +kernel
theorem d_Decoder_decode_142 : decode b_Decoder_decode 142 = .ok (.iload 8, 2) := by decide +kernel
theorem d_Decoder_decode_144 : decode b_Decoder_decode 144 = .ok (.iload 10, 2) := by decide +kernel
theorem d_Decoder_decode_146 : decode b_Decoder_decode 146 = .ok (.iadd, 1) := by decide +kernel
theorem d_Decoder_decode_147 : decode b_Decoder_decode 147 = .ok (.istore 8, 2) := by decide +kernel
theorem d_Decoder_decode_149 : decode b_Decoder_decode 149 = .ok (.iload 7, 2) := by decide +kernel
theorem d_Decoder_decode_151 : decode b_Decoder_decode 151 = .ok (.iload 10, 2) := by decide +kernel
theorem d_Decoder_decode_153 : decode b_Decoder_decode 153 = .ok (.iadd, 1) := by decide +kernel
theorem d_Decoder_decode_154 : decode b_Decoder_decode 154 = .ok (.iconst 1, 1) := by decide +kernel
theorem d_Decoder_decode_155 : decode b_Decoder_decode 155 = .ok (.ishl, 1) := by decide +kernel
theorem d_Decoder_decode_156 : decode b_Decoder_decode 156 = .ok (.istore 7, 2) := by decide +kernel
theorem d_Decoder_decode_158 : decode b_Decoder_decode 158 = .ok (.iinc 9 1, 3) := by decide +kernel
theorem d_Decoder_decode_161 : decode b_Decoder_decode 161 = .ok (.goto (-97), 3) := by decide +kernel
theorem d_Decoder_decode_164 : decode b_Decoder_decode 164 = .ok (.bipush (-2), 2) := by decide +kernel
theorem d_Decoder_decode_166 : decode b_Decoder_decode 166 = .ok (.ireturn, 1) := by decide +kernel
/-! PackedBytes$Decoder.isFull()Z -/
def fDecoder_isFull (N : Nat) (v_t_left : Int32) : Option (Bool) :=
    some (if v_t_left = 0 then true else false)
set_option maxHeartbeats 4000000 in
set_option maxRecDepth 100000 in
theorem cDecoder_isFull (l : Launch) (dC : Nat → ClassId) (dI : Nat → Nat → Nat) (h_t h_t_perLength h_t_starts h_t_sorted : Nat) (cB cI cJ : ClassId) (sz : Nat) (N : Nat) (v_t_codes : Int32) (v_t_left : Int32) (o : Bool) (h : fDecoder_isFull N v_t_left = some o) : Met l y_Decoder_isFull w_Decoder_isFull ({ frames := 0, cells := 0, slots := 0, locals := 0 } : Room) (va_Pc [.ref h_t] (fun U => U.heap.size = sz ∧ va_P (dC, dI) vwCl [(h_t, .inr (3, [.ref h_t_perLength, .ref h_t_starts, .ref h_t_sorted, .int v_t_codes, .int v_t_left]))] U.heap ∧ va_K (dC, dI) vwCl [(cB, .byte), (cI, .int), (cJ, .long)] U ∧ va_D (fun _ => True) [(h_t, .inr (3, [.ref h_t_perLength, .ref h_t_starts, .ref h_t_sorted, .int v_t_codes, .int v_t_left]))] ∧ NW U)) (va_Qi (fun r (_ : Unit) => r = bI o) (fun _ t => va_P (dC, dI) vwCl [(h_t, .inr (3, [.ref h_t_perLength, .ref h_t_starts, .ref h_t_sorted, .int v_t_codes, .int v_t_left]))] t.heap ∧ va_K (dC, dI) vwCl [(cB, .byte), (cI, .int), (cJ, .long)] t ∧ va_D (va_A [(h_t, .inr (3, [.ref h_t_perLength, .ref h_t_starts, .ref h_t_sorted, .int v_t_codes, .int v_t_left]))] sz) [(h_t, .inr (3, [.ref h_t_perLength, .ref h_t_starts, .ref h_t_sorted, .int v_t_codes, .int v_t_left]))]) (va_A [(h_t, .inr (3, [.ref h_t_perLength, .ref h_t_starts, .ref h_t_sorted, .int v_t_codes, .int v_t_left]))] sz)) 0 0 (va_A [(h_t, .inr (3, [.ref h_t_perLength, .ref h_t_starts, .ref h_t_sorted, .int v_t_codes, .int v_t_left]))] sz) := by
  refine Met.ofW (cc := b_Decoder_isFull) (maxL := 1) (ret := (some .boolean)) (by decide) rfl ?_
  intro p e s m args below meth c s₁ B hml hv
  obtain ⟨rfl, hsz, hP, hK, hD0, hN⟩ := hv
  have hx := B.exec
  have hb := B.bytes
  have hr := B.returns
  have hts := atoms_spec (ws := w_Decoder_isFull) B.pre
  have ht : ∀ w ∈ TB, w.before ([.ref h_t]).toArray s = true := fun w h => hts w (List.mem_cons_of_mem _ h)
  have hown : s.vm.findClass R_Decoder = some m.cls := findClass_of_methodNamed B.named
  have hlocks := B.notSynchronized
  subst hsz
  have hD := hD0.self (sz := s.heap.size)
  generalize hAe : va_A [(h_t, .inr (3, [.ref h_t_perLength, .ref h_t_starts, .ref h_t_sorted, .int v_t_codes, .int v_t_left]))] s.heap.size = A at hD ⊢
  have hA : ∀ q : Nat, s.heap.size ≤ q → A q := fun q h => by rw [← hAe]; exact Or.inr h
  have hS : va_S A s.heap s.heap [] := va_S.rf
  have hP : va_P (dC, dI) vwCl [(h_t, .inr (3, [.ref h_t_perLength, .ref h_t_starts, .ref h_t_sorted, .int v_t_codes, .int v_t_left]))] s.heap := hP
  skip
  have hl := lv_entry ([.ref h_t]) (n := 1) (Nat.le_of_ble_eq_true rfl)
  rw [lg_entry_eq]
  generalize (lg_sl ([.ref h_t]) ++ List.replicate (1 - (lg_sl ([.ref h_t])).length) Slot.unset).toArray = ls at hl ⊢
  have hl : lv_has ls 1 [(0, .ref h_t)] := hl
  refine lv_aload_n hx hb d_Decoder_isFull_0 rfl (lv_at hl 0 rfl) ?_
  refine va_get (D := (dC, dI)) (ci := 3) (v := .int v_t_left) (C := R_Decoder) (T := F_Decoder) (N := 5) hx hb ht in_Decoder hown hK hP 0 rfl rfl 4 (by decide) (ht _ k_343) (fun _ h9 => h9) rfl d_Decoder_isFull_1 ?_
  refine lv_ternB (J := 12) (cd := v_t_left = 0) (a := true) (b := false) (rest := []) (fun k2 k3 => ?_) ?_
  · refine lv_if_ne (tgt := 11) hx hb d_Decoder_isFull_4 (by decide) (fun c1 => ?_) (fun c1 => ?_)
    · refine lv_iconst (v := (0 : Int32)) hx hb d_Decoder_isFull_11 (by decide) ?_
      exact k3 c1
    · refine lv_iconst (v := (1 : Int32)) hx hb d_Decoder_isFull_7 (by decide) ?_
      refine lv_goto (tgt := 12) hx hb d_Decoder_isFull_8 (by decide) ?_
      exact k2 c1
  obtain rfl := Option.some.inj h
  exact W.zret (v := bI (if v_t_left = 0 then true else false)) hx hb hr (bI_nar _) (fun t ht hW => ⟨⟨_, (), rfl, rfl, by rw [ht]; exact hP, va_K.moved hW.alike hK, hD⟩, hS.F ht⟩) hS.2.2 d_Decoder_isFull_12
/-! PackedBytes$Decoder.isOneBit()Z -/
def fDecoder_isOneBit (N : Nat) (v_t_codes : Int32) (f_t_perLength : Nat → Int32) : Option (Bool) :=
    if v_t_codes = (1 : Int32) then
      if ¬ ((1 : Int32) < 0 ∨ 16 ≤ (1 : Int32).toNatClampNeg) then
        some (if (f_t_perLength (1 : Int32).toNatClampNeg) = (1 : Int32) then true else false)
      else none
    else
      some false
set_option maxHeartbeats 4000000 in
set_option maxRecDepth 100000 in
theorem cDecoder_isOneBit (l : Launch) (dC : Nat → ClassId) (dI : Nat → Nat → Nat) (h_t h_t_perLength h_t_starts h_t_sorted : Nat) (cB cI cJ : ClassId) (sz : Nat) (N : Nat) (v_t_codes : Int32) (v_t_left : Int32) (f_t_perLength : Nat → Int32) (o : Bool) (h : fDecoder_isOneBit N v_t_codes f_t_perLength = some o) : Met l y_Decoder_isOneBit w_Decoder_isOneBit ({ frames := 0, cells := 0, slots := 0, locals := 0 } : Room) (va_Pc [.ref h_t] (fun U => U.heap.size = sz ∧ va_P (dC, dI) vwCl [(h_t, .inr (3, [.ref h_t_perLength, .ref h_t_starts, .ref h_t_sorted, .int v_t_codes, .int v_t_left])), (h_t_perLength, .inl (cI, 16, .inl f_t_perLength))] U.heap ∧ va_K (dC, dI) vwCl [(cB, .byte), (cI, .int), (cJ, .long)] U ∧ va_D (fun _ => True) [(h_t, .inr (3, [.ref h_t_perLength, .ref h_t_starts, .ref h_t_sorted, .int v_t_codes, .int v_t_left])), (h_t_perLength, .inl (cI, 16, .inl f_t_perLength))] ∧ NW U)) (va_Qi (fun r (_ : Unit) => r = bI o) (fun _ t => va_P (dC, dI) vwCl [(h_t, .inr (3, [.ref h_t_perLength, .ref h_t_starts, .ref h_t_sorted, .int v_t_codes, .int v_t_left])), (h_t_perLength, .inl (cI, 16, .inl f_t_perLength))] t.heap ∧ va_K (dC, dI) vwCl [(cB, .byte), (cI, .int), (cJ, .long)] t ∧ va_D (va_A [(h_t, .inr (3, [.ref h_t_perLength, .ref h_t_starts, .ref h_t_sorted, .int v_t_codes, .int v_t_left])), (h_t_perLength, .inl (cI, 16, .inl f_t_perLength))] sz) [(h_t, .inr (3, [.ref h_t_perLength, .ref h_t_starts, .ref h_t_sorted, .int v_t_codes, .int v_t_left])), (h_t_perLength, .inl (cI, 16, .inl f_t_perLength))]) (va_A [(h_t, .inr (3, [.ref h_t_perLength, .ref h_t_starts, .ref h_t_sorted, .int v_t_codes, .int v_t_left])), (h_t_perLength, .inl (cI, 16, .inl f_t_perLength))] sz)) 0 0 (va_A [(h_t, .inr (3, [.ref h_t_perLength, .ref h_t_starts, .ref h_t_sorted, .int v_t_codes, .int v_t_left])), (h_t_perLength, .inl (cI, 16, .inl f_t_perLength))] sz) := by
  refine Met.ofW (cc := b_Decoder_isOneBit) (maxL := 1) (ret := (some .boolean)) (by decide) rfl ?_
  intro p e s m args below meth c s₁ B hml hv
  obtain ⟨rfl, hsz, hP, hK, hD0, hN⟩ := hv
  have hx := B.exec
  have hb := B.bytes
  have hr := B.returns
  have hts := atoms_spec (ws := w_Decoder_isOneBit) B.pre
  have ht : ∀ w ∈ TB, w.before ([.ref h_t]).toArray s = true := fun w h => hts w (List.mem_cons_of_mem _ h)
  have hown : s.vm.findClass R_Decoder = some m.cls := findClass_of_methodNamed B.named
  have hlocks := B.notSynchronized
  subst hsz
  have hD := hD0.self (sz := s.heap.size)
  generalize hAe : va_A [(h_t, .inr (3, [.ref h_t_perLength, .ref h_t_starts, .ref h_t_sorted, .int v_t_codes, .int v_t_left])), (h_t_perLength, .inl (cI, 16, .inl f_t_perLength))] s.heap.size = A at hD ⊢
  have hA : ∀ q : Nat, s.heap.size ≤ q → A q := fun q h => by rw [← hAe]; exact Or.inr h
  have hS : va_S A s.heap s.heap [] := va_S.rf
  have hP : va_P (dC, dI) vwCl [(h_t, .inr (3, [.ref h_t_perLength, .ref h_t_starts, .ref h_t_sorted, .int v_t_codes, .int v_t_left])), (h_t_perLength, .inl (cI, 16, .inl f_t_perLength))] s.heap := hP
  skip
  have hl := lv_entry ([.ref h_t]) (n := 1) (Nat.le_of_ble_eq_true rfl)
  rw [lg_entry_eq]
  generalize (lg_sl ([.ref h_t]) ++ List.replicate (1 - (lg_sl ([.ref h_t])).length) Slot.unset).toArray = ls at hl ⊢
  have hl : lv_has ls 1 [(0, .ref h_t)] := hl
  refine lv_aload_n hx hb d_Decoder_isOneBit_0 rfl (lv_at hl 0 rfl) ?_
  refine va_get (D := (dC, dI)) (ci := 3) (v := .int v_t_codes) (C := R_Decoder) (T := F_Decoder) (N := 5) hx hb ht in_Decoder hown hK hP 0 rfl rfl 3 (by decide) (ht _ k_342) (fun _ h9 => h9) rfl d_Decoder_isOneBit_1 ?_
  refine lv_iconst (v := (1 : Int32)) hx hb d_Decoder_isOneBit_4 (by decide) ?_
  refine lv_icmp_ne (tgt := 22) hx hb d_Decoder_isOneBit_5 (by decide) (fun c1 => ?_) (fun c1 => ?_)
  · replace h := ip_n c1 h
    refine lv_iconst (v := (0 : Int32)) hx hb d_Decoder_isOneBit_22 (by decide) ?_
    obtain rfl := Option.some.inj h
    exact W.zret (v := (0 : Int32)) hx hb hr (rfl) (fun t ht hW => ⟨⟨_, (), rfl, rfl, by rw [ht]; exact hP, va_K.moved hW.alike hK, hD⟩, hS.F ht⟩) hS.2.2 d_Decoder_isOneBit_23
  · replace h := ip_p c1 h
    refine lv_aload_n hx hb d_Decoder_isOneBit_8 rfl (lv_at hl 0 rfl) ?_
    refine va_get (D := (dC, dI)) (ci := 3) (v := .ref h_t_perLength) (C := R_Decoder) (T := F_Decoder) (N := 5) hx hb ht in_Decoder hown hK hP 0 rfl rfl 0 (by decide) (ht _ k_339) (fun _ h9 => h9) rfl d_Decoder_isOneBit_9 ?_
    refine lv_iconst (v := (1 : Int32)) hx hb d_Decoder_isOneBit_12 (by decide) ?_
    obtain ⟨g2, h⟩ := gd h
    refine va_iald hx hb hK hP 1 1 rfl rfl g2 d_Decoder_isOneBit_13 ?_
    refine lv_iconst (v := (1 : Int32)) hx hb d_Decoder_isOneBit_14 (by decide) ?_
    refine lv_ternB (J := 23) (cd := (f_t_perLength (1 : Int32).toNatClampNeg) = (1 : Int32)) (a := true) (b := false) (rest := []) (fun k4 k5 => ?_) ?_
    · refine lv_icmp_ne (tgt := 22) hx hb d_Decoder_isOneBit_15 (by decide) (fun c3 => ?_) (fun c3 => ?_)
      · refine lv_iconst (v := (0 : Int32)) hx hb d_Decoder_isOneBit_22 (by decide) ?_
        exact k5 c3
      · refine lv_iconst (v := (1 : Int32)) hx hb d_Decoder_isOneBit_18 (by decide) ?_
        refine lv_goto (tgt := 23) hx hb d_Decoder_isOneBit_19 (by decide) ?_
        exact k4 c3
    obtain rfl := Option.some.inj h
    exact W.zret (v := bI (if (f_t_perLength (1 : Int32).toNatClampNeg) = (1 : Int32) then true else false)) hx hb hr (bI_nar _) (fun t ht hW => ⟨⟨_, (), rfl, rfl, by rw [ht]; exact hP, va_K.moved hW.alike hK, hD⟩, hS.F ht⟩) hS.2.2 d_Decoder_isOneBit_23
/-! PackedBytes$Decoder.isEmpty()Z -/
def fDecoder_isEmpty (N : Nat) (v_t_codes : Int32) : Option (Bool) :=
    some (if v_t_codes = 0 then true else false)
set_option maxHeartbeats 4000000 in
set_option maxRecDepth 100000 in
theorem cDecoder_isEmpty (l : Launch) (dC : Nat → ClassId) (dI : Nat → Nat → Nat) (h_t h_t_perLength h_t_starts h_t_sorted : Nat) (cB cI cJ : ClassId) (sz : Nat) (N : Nat) (v_t_codes : Int32) (v_t_left : Int32) (o : Bool) (h : fDecoder_isEmpty N v_t_codes = some o) : Met l y_Decoder_isEmpty w_Decoder_isEmpty ({ frames := 0, cells := 0, slots := 0, locals := 0 } : Room) (va_Pc [.ref h_t] (fun U => U.heap.size = sz ∧ va_P (dC, dI) vwCl [(h_t, .inr (3, [.ref h_t_perLength, .ref h_t_starts, .ref h_t_sorted, .int v_t_codes, .int v_t_left]))] U.heap ∧ va_K (dC, dI) vwCl [(cB, .byte), (cI, .int), (cJ, .long)] U ∧ va_D (fun _ => True) [(h_t, .inr (3, [.ref h_t_perLength, .ref h_t_starts, .ref h_t_sorted, .int v_t_codes, .int v_t_left]))] ∧ NW U)) (va_Qi (fun r (_ : Unit) => r = bI o) (fun _ t => va_P (dC, dI) vwCl [(h_t, .inr (3, [.ref h_t_perLength, .ref h_t_starts, .ref h_t_sorted, .int v_t_codes, .int v_t_left]))] t.heap ∧ va_K (dC, dI) vwCl [(cB, .byte), (cI, .int), (cJ, .long)] t ∧ va_D (va_A [(h_t, .inr (3, [.ref h_t_perLength, .ref h_t_starts, .ref h_t_sorted, .int v_t_codes, .int v_t_left]))] sz) [(h_t, .inr (3, [.ref h_t_perLength, .ref h_t_starts, .ref h_t_sorted, .int v_t_codes, .int v_t_left]))]) (va_A [(h_t, .inr (3, [.ref h_t_perLength, .ref h_t_starts, .ref h_t_sorted, .int v_t_codes, .int v_t_left]))] sz)) 0 0 (va_A [(h_t, .inr (3, [.ref h_t_perLength, .ref h_t_starts, .ref h_t_sorted, .int v_t_codes, .int v_t_left]))] sz) := by
  refine Met.ofW (cc := b_Decoder_isEmpty) (maxL := 1) (ret := (some .boolean)) (by decide) rfl ?_
  intro p e s m args below meth c s₁ B hml hv
  obtain ⟨rfl, hsz, hP, hK, hD0, hN⟩ := hv
  have hx := B.exec
  have hb := B.bytes
  have hr := B.returns
  have hts := atoms_spec (ws := w_Decoder_isEmpty) B.pre
  have ht : ∀ w ∈ TB, w.before ([.ref h_t]).toArray s = true := fun w h => hts w (List.mem_cons_of_mem _ h)
  have hown : s.vm.findClass R_Decoder = some m.cls := findClass_of_methodNamed B.named
  have hlocks := B.notSynchronized
  subst hsz
  have hD := hD0.self (sz := s.heap.size)
  generalize hAe : va_A [(h_t, .inr (3, [.ref h_t_perLength, .ref h_t_starts, .ref h_t_sorted, .int v_t_codes, .int v_t_left]))] s.heap.size = A at hD ⊢
  have hA : ∀ q : Nat, s.heap.size ≤ q → A q := fun q h => by rw [← hAe]; exact Or.inr h
  have hS : va_S A s.heap s.heap [] := va_S.rf
  have hP : va_P (dC, dI) vwCl [(h_t, .inr (3, [.ref h_t_perLength, .ref h_t_starts, .ref h_t_sorted, .int v_t_codes, .int v_t_left]))] s.heap := hP
  skip
  have hl := lv_entry ([.ref h_t]) (n := 1) (Nat.le_of_ble_eq_true rfl)
  rw [lg_entry_eq]
  generalize (lg_sl ([.ref h_t]) ++ List.replicate (1 - (lg_sl ([.ref h_t])).length) Slot.unset).toArray = ls at hl ⊢
  have hl : lv_has ls 1 [(0, .ref h_t)] := hl
  refine lv_aload_n hx hb d_Decoder_isEmpty_0 rfl (lv_at hl 0 rfl) ?_
  refine va_get (D := (dC, dI)) (ci := 3) (v := .int v_t_codes) (C := R_Decoder) (T := F_Decoder) (N := 5) hx hb ht in_Decoder hown hK hP 0 rfl rfl 3 (by decide) (ht _ k_342) (fun _ h9 => h9) rfl d_Decoder_isEmpty_1 ?_
  refine lv_ternB (J := 12) (cd := v_t_codes = 0) (a := true) (b := false) (rest := []) (fun k2 k3 => ?_) ?_
  · refine lv_if_ne (tgt := 11) hx hb d_Decoder_isEmpty_4 (by decide) (fun c1 => ?_) (fun c1 => ?_)
    · refine lv_iconst (v := (0 : Int32)) hx hb d_Decoder_isEmpty_11 (by decide) ?_
      exact k3 c1
    · refine lv_iconst (v := (1 : Int32)) hx hb d_Decoder_isEmpty_7 (by decide) ?_
      refine lv_goto (tgt := 12) hx hb d_Decoder_isEmpty_8 (by decide) ?_
      exact k2 c1
  obtain rfl := Option.some.inj h
  exact W.zret (v := bI (if v_t_codes = 0 then true else false)) hx hb hr (bI_nar _) (fun t ht hW => ⟨⟨_, (), rfl, rfl, by rw [ht]; exact hP, va_K.moved hW.alike hK, hD⟩, hS.F ht⟩) hS.2.2 d_Decoder_isEmpty_12
/-! PackedBytes$Decoder.learn([III)V -/
def fDecoder_learn_11 (N : Nat) (x2 : Int32) (x3 : Int32) (n_p1 : Nat) (f_p1 : Nat → Int32) : Nat → (Int32) → (Nat → Int32) → Option ((Nat → Int32))
  | 0, _, _ => none
  | k + 1, x4, f_t_perLength =>
    if x3 ≤ x4 then
      some f_t_perLength
    else
      if ¬ ((x2 + x4) < 0 ∨ n_p1 ≤ (x2 + x4).toNatClampNeg) then
        if ¬ ((f_p1 (x2 + x4).toNatClampNeg) < 0 ∨ 16 ≤ (f_p1 (x2 + x4).toNatClampNeg).toNatClampNeg) then
          if ¬ ((f_p1 (x2 + x4).toNatClampNeg) < 0 ∨ 16 ≤ (f_p1 (x2 + x4).toNatClampNeg).toNatClampNeg) then
            fDecoder_learn_11 N x2 x3 n_p1 f_p1 k (x4 + (1 : Int32)) (upd f_t_perLength (f_p1 (x2 + x4).toNatClampNeg).toNatClampNeg ((f_t_perLength (f_p1 (x2 + x4).toNatClampNeg).toNatClampNeg) + (1 : Int32)))
          else none
        else none
      else none
def fDecoder_learn_66 (N : Nat) (f_t_perLength : Nat → Int32) : Nat → (Int32) → (Int32) → (Nat → Int32) → Option (Int32 × (Nat → Int32))
  | 0, _, _, _ => none
  | k + 1, x4, v_t_left, f_t_starts =>
    if (15 : Int32) < x4 then
      some (v_t_left, f_t_starts)
    else
      if ¬ (x4 < 0 ∨ 16 ≤ x4.toNatClampNeg) then
        if ¬ (x4 < 0 ∨ 17 ≤ x4.toNatClampNeg) then
          if ¬ (x4 < 0 ∨ 16 ≤ x4.toNatClampNeg) then
            if ¬ ((x4 + (1 : Int32)) < 0 ∨ 17 ≤ (x4 + (1 : Int32)).toNatClampNeg) then
              fDecoder_learn_66 N f_t_perLength k (x4 + (1 : Int32)) (v_t_left - ((f_t_perLength x4.toNatClampNeg) <<< (((15 : Int32) - x4) &&& 31))) (upd f_t_starts (x4 + (1 : Int32)).toNatClampNeg ((f_t_starts x4.toNatClampNeg) + (f_t_perLength x4.toNatClampNeg)))
            else none
          else none
        else none
      else none
def fDecoder_learn_128 (N : Nat) (x2 : Int32) (x3 : Int32) (n_p1 : Nat) (f_p1 : Nat → Int32) : Nat → (Int32) → (Nat → Int32) → (Nat → Int32) → Option ((Nat → Int32) × (Nat → Int32))
  | 0, _, _, _ => none
  | k + 1, x4, f_t_starts, f_t_sorted =>
    if x3 ≤ x4 then
      some (f_t_starts, f_t_sorted)
    else
      if ¬ ((x2 + x4) < 0 ∨ n_p1 ≤ (x2 + x4).toNatClampNeg) then
        if (f_p1 (x2 + x4).toNatClampNeg) ≤ 0 then
          fDecoder_learn_128 N x2 x3 n_p1 f_p1 k (x4 + (1 : Int32)) f_t_starts f_t_sorted
        else
          if ¬ ((f_p1 (x2 + x4).toNatClampNeg) < 0 ∨ 17 ≤ (f_p1 (x2 + x4).toNatClampNeg).toNatClampNeg) then
            if ¬ ((f_t_starts (f_p1 (x2 + x4).toNatClampNeg).toNatClampNeg) < 0 ∨ 288 ≤ (f_t_starts (f_p1 (x2 + x4).toNatClampNeg).toNatClampNeg).toNatClampNeg) then
              if ¬ ((f_p1 (x2 + x4).toNatClampNeg) < 0 ∨ 17 ≤ (f_p1 (x2 + x4).toNatClampNeg).toNatClampNeg) then
                if ¬ ((f_p1 (x2 + x4).toNatClampNeg) < 0 ∨ 17 ≤ (f_p1 (x2 + x4).toNatClampNeg).toNatClampNeg) then
                  fDecoder_learn_128 N x2 x3 n_p1 f_p1 k (x4 + (1 : Int32)) (upd f_t_starts (f_p1 (x2 + x4).toNatClampNeg).toNatClampNeg ((f_t_starts (f_p1 (x2 + x4).toNatClampNeg).toNatClampNeg) + (1 : Int32))) (upd f_t_sorted (f_t_starts (f_p1 (x2 + x4).toNatClampNeg).toNatClampNeg).toNatClampNeg x4)
                else none
              else none
            else none
          else none
      else none
def fDecoder_learn (N : Nat) (p2 : Int32) (p3 : Int32) (f_t_perLength : Nat → Int32) (n_p1 : Nat) (f_p1 : Nat → Int32) (f_t_starts : Nat → Int32) (f_t_sorted : Nat → Int32) : Option (Int32 × Int32 × (Nat → Int32) × (Nat → Int32) × (Nat → Int32)) :=
    (fJA_fill N (0 : Int32) 16 f_t_perLength).bind (fun y1 =>
      (fDecoder_learn_11 N p2 p3 n_p1 f_p1 N (0 : Int32) y1).bind (fun y6 =>
        if ¬ ((0 : Int32) < 0 ∨ 16 ≤ (0 : Int32).toNatClampNeg) then
          if ¬ ((1 : Int32) < 0 ∨ 17 ≤ (1 : Int32).toNatClampNeg) then
            (fDecoder_learn_66 N y6 N (1 : Int32) (32768 : Int32) (upd f_t_starts (1 : Int32).toNatClampNeg (0 : Int32))).bind (fun y14 =>
              (fDecoder_learn_128 N p2 p3 n_p1 f_p1 N (0 : Int32) y14.2 f_t_sorted).bind (fun y22 =>
                some (p3 - (y6 (0 : Int32).toNatClampNeg), y14.1, y6, y22.1, y22.2)))
          else none
        else none))
set_option maxHeartbeats 4000000 in
set_option maxRecDepth 100000 in
theorem wDecoder_learn_11 {p : Program} {l : Launch} {e : Env} {s : State} {m : MethodId} {args : Array Value} {below : List Frame} {meth : Method} {c : Code} {Q : State → Prop} {A : Nat → Prop} {dC : Nat → ClassId} {dI : Nat → Nat → Nat} (h_t h_t_perLength h_t_starts h_t_sorted h_p1 : Nat) (cB cI cJ : ClassId) (N : Nat) (v_t_codes : Int32) (v_t_left : Int32) (n_p1 : Nat) (f_p1 : Nat → Int32) (f_t_starts : Nat → Int32) (f_t_sorted : Nat → Int32) (x2 : Int32) (x3 : Int32) (C : CX p s m args c b_Decoder_learn 6 R_Decoder A (dC, dI) [(cB, .byte), (cI, .int), (cJ, .long)]) :
    ∀ (n : Nat) (x4 : Int32) (f_t_perLength : Nat → Int32) (H : Heap) (locs : List Loc) (ls : Array Slot) (o : (Nat → Int32)), va_P (dC, dI) vwCl [(h_t, .inr (3, [.ref h_t_perLength, .ref h_t_starts, .ref h_t_sorted, .int v_t_codes, .int v_t_left])), (h_t_perLength, .inl (cI, 16, .inl f_t_perLength)), (h_p1, .inl (cI, n_p1, .inl f_p1)), (h_t_starts, .inl (cI, 17, .inl f_t_starts)), (h_t_sorted, .inl (cI, 288, .inl f_t_sorted))] H → va_D A [(h_t, .inr (3, [.ref h_t_perLength, .ref h_t_starts, .ref h_t_sorted, .int v_t_codes, .int v_t_left])), (h_t_perLength, .inl (cI, 16, .inl f_t_perLength)), (h_p1, .inl (cI, n_p1, .inl f_p1)), (h_t_starts, .inl (cI, 17, .inl f_t_starts)), (h_t_sorted, .inl (cI, 288, .inl f_t_sorted))] → va_S A s.heap H locs → lv_has ls 6 [(0, .ref h_t), (1, .ref h_p1), (2, .int x2), (3, .int x3), (4, .int x4)] → fDecoder_learn_11 N x2 x3 n_p1 f_p1 n x4 f_t_perLength = some o → (∀ (H : Heap) (locs : List Loc) (ls : Array Slot), va_P (dC, dI) vwCl [(h_t, .inr (3, [.ref h_t_perLength, .ref h_t_starts, .ref h_t_sorted, .int v_t_codes, .int v_t_left])), (h_t_perLength, .inl (cI, 16, .inl o)), (h_p1, .inl (cI, n_p1, .inl f_p1)), (h_t_starts, .inl (cI, 17, .inl f_t_starts)), (h_t_sorted, .inl (cI, 288, .inl f_t_sorted))] H → va_D A [(h_t, .inr (3, [.ref h_t_perLength, .ref h_t_starts, .ref h_t_sorted, .int v_t_codes, .int v_t_left])), (h_t_perLength, .inl (cI, 16, .inl o)), (h_p1, .inl (cI, n_p1, .inl f_p1)), (h_t_starts, .inl (cI, 17, .inl f_t_starts)), (h_t_sorted, .inl (cI, 288, .inl f_t_sorted))] → va_S A s.heap H locs → lv_has ls 6 [(0, .ref h_t), (1, .ref h_p1), (2, .int x2), (3, .int x3)] → W p l e ({ frames := 1, cells := 0, slots := 0, locals := 23 } : Room) s m args below meth c H locs 0 0 Q (F0 m 38 ls [])) → W p l e ({ frames := 1, cells := 0, slots := 0, locals := 23 } : Room) s m args below meth c H locs 0 0 Q (F0 m 11 ls []) := by
  obtain ⟨hx, hb, hml, hown, ht, hA, hK, hN⟩ := id C
  intro n
  induction n with
  | zero => intro x4 f_t_perLength H locs ls o _ _ _ _ h; exact nomatch h
  | succ k ih =>
    intro x4 f_t_perLength H locs ls o hP hD hS hl h kx
    refine lv_iload hx hb d_Decoder_learn_11 (lv_at hl 4 rfl) ?_
    refine lv_iload_n hx hb d_Decoder_learn_13 rfl (lv_at hl 3 rfl) ?_
    refine lv_icmp_ge (tgt := 38) hx hb d_Decoder_learn_14 (by decide) (fun c2 => ?_) (fun c2 => ?_)
    · replace h := ip_p c2 h
      obtain rfl := Option.some.inj h
      exact kx _ _ _ hP hD hS (lv_sub hl [0, 1, 2, 3] rfl)
    · replace h := ip_n c2 h
      refine lv_aload_n hx hb d_Decoder_learn_17 rfl (lv_at hl 0 rfl) ?_
      refine va_get (D := (dC, dI)) (ci := 3) (v := .ref h_t_perLength) (C := R_Decoder) (T := F_Decoder) (N := 5) hx hb ht in_Decoder hown hK hP 0 rfl rfl 0 (by decide) (ht _ k_339) (fun _ h9 => h9) rfl d_Decoder_learn_18 ?_
      refine lv_aload_n hx hb d_Decoder_learn_21 rfl (lv_at hl 1 rfl) ?_
      refine lv_iload_n hx hb d_Decoder_learn_22 rfl (lv_at hl 2 rfl) ?_
      refine lv_iload hx hb d_Decoder_learn_23 (lv_at hl 4 rfl) ?_
      refine lv_iadd hx hb d_Decoder_learn_25 ?_
      obtain ⟨g3, h⟩ := gd h
      refine va_iald hx hb hK hP 2 1 rfl rfl g3 d_Decoder_learn_26 ?_
      refine lv_dup2_11 hx hb d_Decoder_learn_27 rfl rfl ?_
      obtain ⟨g4, h⟩ := gd h
      refine va_iald hx hb hK hP 1 1 rfl rfl g4 d_Decoder_learn_28 ?_
      refine lv_iconst (v := (1 : Int32)) hx hb d_Decoder_learn_29 (by decide) ?_
      refine lv_iadd hx hb d_Decoder_learn_30 ?_
      obtain ⟨g5, h⟩ := gd h
      refine va_iast hx hb hK hP hD hS 1 1 rfl rfl g5 d_Decoder_learn_31 (fun H locs hP hD hS => ?_)
      have hP : va_P (dC, dI) vwCl [(h_t, .inr (3, [.ref h_t_perLength, .ref h_t_starts, .ref h_t_sorted, .int v_t_codes, .int v_t_left])), (h_t_perLength, .inl (cI, 16, .inl (upd f_t_perLength (f_p1 (x2 + x4).toNatClampNeg).toNatClampNeg ((f_t_perLength (f_p1 (x2 + x4).toNatClampNeg).toNatClampNeg) + (1 : Int32))))), (h_p1, .inl (cI, n_p1, .inl f_p1)), (h_t_starts, .inl (cI, 17, .inl f_t_starts)), (h_t_sorted, .inl (cI, 288, .inl f_t_sorted))] H := hP
      have hD : va_D A [(h_t, .inr (3, [.ref h_t_perLength, .ref h_t_starts, .ref h_t_sorted, .int v_t_codes, .int v_t_left])), (h_t_perLength, .inl (cI, 16, .inl (upd f_t_perLength (f_p1 (x2 + x4).toNatClampNeg).toNatClampNeg ((f_t_perLength (f_p1 (x2 + x4).toNatClampNeg).toNatClampNeg) + (1 : Int32))))), (h_p1, .inl (cI, n_p1, .inl f_p1)), (h_t_starts, .inl (cI, 17, .inl f_t_starts)), (h_t_sorted, .inl (cI, 288, .inl f_t_sorted))] := hD
      refine lv_iinc (v := x4 + (1 : Int32)) (lv' := [(4, .int (x4 + (1 : Int32))), (0, .ref h_t), (1, .ref h_p1), (2, .int x2), (3, .int x3)]) hx hb d_Decoder_learn_32 hl (k := 4) rfl rfl (by decide) rfl (fun ls hl => ?_)
      refine lv_goto (tgt := 11) hx hb d_Decoder_learn_35 (by decide) ?_
      exact ih (x4 + (1 : Int32)) (upd f_t_perLength (f_p1 (x2 + x4).toNatClampNeg).toNatClampNeg ((f_t_perLength (f_p1 (x2 + x4).toNatClampNeg).toNatClampNeg) + (1 : Int32))) _ _ _ _ hP hD hS (lv_sub hl [1, 2, 3, 4, 0] rfl) h kx
set_option maxHeartbeats 4000000 in
set_option maxRecDepth 100000 in
theorem wDecoder_learn_66 {p : Program} {l : Launch} {e : Env} {s : State} {m : MethodId} {args : Array Value} {below : List Frame} {meth : Method} {c : Code} {Q : State → Prop} {A : Nat → Prop} {dC : Nat → ClassId} {dI : Nat → Nat → Nat} (h_t h_t_perLength h_t_starts h_t_sorted h_p1 : Nat) (cB cI cJ : ClassId) (N : Nat) (v_t_codes : Int32) (f_t_perLength : Nat → Int32) (n_p1 : Nat) (f_p1 : Nat → Int32) (f_t_sorted : Nat → Int32) (x2 : Int32) (x3 : Int32) (C : CX p s m args c b_Decoder_learn 6 R_Decoder A (dC, dI) [(cB, .byte), (cI, .int), (cJ, .long)]) :
    ∀ (n : Nat) (x4 : Int32) (v_t_left : Int32) (f_t_starts : Nat → Int32) (H : Heap) (locs : List Loc) (ls : Array Slot) (o : Int32 × (Nat → Int32)), va_P (dC, dI) vwCl [(h_t, .inr (3, [.ref h_t_perLength, .ref h_t_starts, .ref h_t_sorted, .int v_t_codes, .int v_t_left])), (h_t_perLength, .inl (cI, 16, .inl f_t_perLength)), (h_p1, .inl (cI, n_p1, .inl f_p1)), (h_t_starts, .inl (cI, 17, .inl f_t_starts)), (h_t_sorted, .inl (cI, 288, .inl f_t_sorted))] H → va_D A [(h_t, .inr (3, [.ref h_t_perLength, .ref h_t_starts, .ref h_t_sorted, .int v_t_codes, .int v_t_left])), (h_t_perLength, .inl (cI, 16, .inl f_t_perLength)), (h_p1, .inl (cI, n_p1, .inl f_p1)), (h_t_starts, .inl (cI, 17, .inl f_t_starts)), (h_t_sorted, .inl (cI, 288, .inl f_t_sorted))] → va_S A s.heap H locs → lv_has ls 6 [(0, .ref h_t), (1, .ref h_p1), (2, .int x2), (3, .int x3), (4, .int x4)] → fDecoder_learn_66 N f_t_perLength n x4 v_t_left f_t_starts = some o → (∀ (H : Heap) (locs : List Loc) (ls : Array Slot), va_P (dC, dI) vwCl [(h_t, .inr (3, [.ref h_t_perLength, .ref h_t_starts, .ref h_t_sorted, .int v_t_codes, .int o.1])), (h_t_perLength, .inl (cI, 16, .inl f_t_perLength)), (h_p1, .inl (cI, n_p1, .inl f_p1)), (h_t_starts, .inl (cI, 17, .inl o.2)), (h_t_sorted, .inl (cI, 288, .inl f_t_sorted))] H → va_D A [(h_t, .inr (3, [.ref h_t_perLength, .ref h_t_starts, .ref h_t_sorted, .int v_t_codes, .int o.1])), (h_t_perLength, .inl (cI, 16, .inl f_t_perLength)), (h_p1, .inl (cI, n_p1, .inl f_p1)), (h_t_starts, .inl (cI, 17, .inl o.2)), (h_t_sorted, .inl (cI, 288, .inl f_t_sorted))] → va_S A s.heap H locs → lv_has ls 6 [(0, .ref h_t), (1, .ref h_p1), (2, .int x2), (3, .int x3)] → W p l e ({ frames := 1, cells := 0, slots := 0, locals := 23 } : Room) s m args below meth c H locs 0 0 Q (F0 m 125 ls [])) → W p l e ({ frames := 1, cells := 0, slots := 0, locals := 23 } : Room) s m args below meth c H locs 0 0 Q (F0 m 66 ls []) := by
  obtain ⟨hx, hb, hml, hown, ht, hA, hK, hN⟩ := id C
  intro n
  induction n with
  | zero => intro x4 v_t_left f_t_starts H locs ls o _ _ _ _ h; exact nomatch h
  | succ k ih =>
    intro x4 v_t_left f_t_starts H locs ls o hP hD hS hl h kx
    refine lv_iload hx hb d_Decoder_learn_66 (lv_at hl 4 rfl) ?_
    refine lv_bipush (v := (15 : Int32)) hx hb d_Decoder_learn_68 (by decide) ?_
    refine lv_icmp_gt (tgt := 125) hx hb d_Decoder_learn_70 (by decide) (fun c9 => ?_) (fun c9 => ?_)
    · replace h := ip_p c9 h
      obtain rfl := Option.some.inj h
      exact kx _ _ _ hP hD hS (lv_sub hl [0, 1, 2, 3] rfl)
    · replace h := ip_n c9 h
      refine lv_aload_n hx hb d_Decoder_learn_73 rfl (lv_at hl 0 rfl) ?_
      refine lv_dup hx hb d_Decoder_learn_74 rfl ?_
      refine va_get (D := (dC, dI)) (ci := 3) (v := .int v_t_left) (C := R_Decoder) (T := F_Decoder) (N := 5) hx hb ht in_Decoder hown hK hP 0 rfl rfl 4 (by decide) (ht _ k_343) (fun _ h9 => h9) rfl d_Decoder_learn_75 ?_
      refine lv_aload_n hx hb d_Decoder_learn_78 rfl (lv_at hl 0 rfl) ?_
      refine va_get (D := (dC, dI)) (ci := 3) (v := .ref h_t_perLength) (C := R_Decoder) (T := F_Decoder) (N := 5) hx hb ht in_Decoder hown hK hP 0 rfl rfl 0 (by decide) (ht _ k_339) (fun _ h9 => h9) rfl d_Decoder_learn_79 ?_
      refine lv_iload hx hb d_Decoder_learn_82 (lv_at hl 4 rfl) ?_
      obtain ⟨g10, h⟩ := gd h
      refine va_iald hx hb hK hP 1 1 rfl rfl g10 d_Decoder_learn_84 ?_
      refine lv_bipush (v := (15 : Int32)) hx hb d_Decoder_learn_85 (by decide) ?_
      refine lv_iload hx hb d_Decoder_learn_87 (lv_at hl 4 rfl) ?_
      refine lv_isub hx hb d_Decoder_learn_89 ?_
      refine lv_ishl hx hb d_Decoder_learn_90 ?_
      refine lv_isub hx hb d_Decoder_learn_91 ?_
      refine va_put (D := (dC, dI)) (ci := 3) (v := .int (v_t_left - ((f_t_perLength x4.toNatClampNeg) <<< (((15 : Int32) - x4) &&& 31)))) (ty := .int) (C := R_Decoder) (T := F_Decoder) (N := 5) hx hb ht in_Decoder t_Decoder t_Decoder_ok n_Decoder hown hK hP hD hS 0 rfl rfl 4 (by decide) (ht _ k_343) (fun _ h9 => h9) rfl (by decide +kernel) rfl rfl (Nat.le_of_ble_eq_true rfl) d_Decoder_learn_92 (fun H locs hP hD hS => ?_)
      have hP : va_P (dC, dI) vwCl [(h_t, .inr (3, [.ref h_t_perLength, .ref h_t_starts, .ref h_t_sorted, .int v_t_codes, .int (v_t_left - ((f_t_perLength x4.toNatClampNeg) <<< (((15 : Int32) - x4) &&& 31)))])), (h_t_perLength, .inl (cI, 16, .inl f_t_perLength)), (h_p1, .inl (cI, n_p1, .inl f_p1)), (h_t_starts, .inl (cI, 17, .inl f_t_starts)), (h_t_sorted, .inl (cI, 288, .inl f_t_sorted))] H := hP
      have hD : va_D A [(h_t, .inr (3, [.ref h_t_perLength, .ref h_t_starts, .ref h_t_sorted, .int v_t_codes, .int (v_t_left - ((f_t_perLength x4.toNatClampNeg) <<< (((15 : Int32) - x4) &&& 31)))])), (h_t_perLength, .inl (cI, 16, .inl f_t_perLength)), (h_p1, .inl (cI, n_p1, .inl f_p1)), (h_t_starts, .inl (cI, 17, .inl f_t_starts)), (h_t_sorted, .inl (cI, 288, .inl f_t_sorted))] := hD
      refine lv_aload_n hx hb d_Decoder_learn_95 rfl (lv_at hl 0 rfl) ?_
      refine va_get (D := (dC, dI)) (ci := 3) (v := .ref h_t_starts) (C := R_Decoder) (T := F_Decoder) (N := 5) hx hb ht in_Decoder hown hK hP 0 rfl rfl 1 (by decide) (ht _ k_340) (fun _ h9 => h9) rfl d_Decoder_learn_96 ?_
      refine lv_iload hx hb d_Decoder_learn_99 (lv_at hl 4 rfl) ?_
      refine lv_iconst (v := (1 : Int32)) hx hb d_Decoder_learn_101 (by decide) ?_
      refine lv_iadd hx hb d_Decoder_learn_102 ?_
      refine lv_aload_n hx hb d_Decoder_learn_103 rfl (lv_at hl 0 rfl) ?_
      refine va_get (D := (dC, dI)) (ci := 3) (v := .ref h_t_starts) (C := R_Decoder) (T := F_Decoder) (N := 5) hx hb ht in_Decoder hown hK hP 0 rfl rfl 1 (by decide) (ht _ k_340) (fun _ h9 => h9) rfl d_Decoder_learn_104 ?_
      refine lv_iload hx hb d_Decoder_learn_107 (lv_at hl 4 rfl) ?_
      obtain ⟨g11, h⟩ := gd h
      refine va_iald hx hb hK hP 3 1 rfl rfl g11 d_Decoder_learn_109 ?_
      refine lv_aload_n hx hb d_Decoder_learn_110 rfl (lv_at hl 0 rfl) ?_
      refine va_get (D := (dC, dI)) (ci := 3) (v := .ref h_t_perLength) (C := R_Decoder) (T := F_Decoder) (N := 5) hx hb ht in_Decoder hown hK hP 0 rfl rfl 0 (by decide) (ht _ k_339) (fun _ h9 => h9) rfl d_Decoder_learn_111 ?_
      refine lv_iload hx hb d_Decoder_learn_114 (lv_at hl 4 rfl) ?_
      obtain ⟨g12, h⟩ := gd h
      refine va_iald hx hb hK hP 1 1 rfl rfl g12 d_Decoder_learn_116 ?_
      refine lv_iadd hx hb d_Decoder_learn_117 ?_
      obtain ⟨g13, h⟩ := gd h
      refine va_iast hx hb hK hP hD hS 3 1 rfl rfl g13 d_Decoder_learn_118 (fun H locs hP hD hS => ?_)
      have hP : va_P (dC, dI) vwCl [(h_t, .inr (3, [.ref h_t_perLength, .ref h_t_starts, .ref h_t_sorted, .int v_t_codes, .int (v_t_left - ((f_t_perLength x4.toNatClampNeg) <<< (((15 : Int32) - x4) &&& 31)))])), (h_t_perLength, .inl (cI, 16, .inl f_t_perLength)), (h_p1, .inl (cI, n_p1, .inl f_p1)), (h_t_starts, .inl (cI, 17, .inl (upd f_t_starts (x4 + (1 : Int32)).toNatClampNeg ((f_t_starts x4.toNatClampNeg) + (f_t_perLength x4.toNatClampNeg))))), (h_t_sorted, .inl (cI, 288, .inl f_t_sorted))] H := hP
      have hD : va_D A [(h_t, .inr (3, [.ref h_t_perLength, .ref h_t_starts, .ref h_t_sorted, .int v_t_codes, .int (v_t_left - ((f_t_perLength x4.toNatClampNeg) <<< (((15 : Int32) - x4) &&& 31)))])), (h_t_perLength, .inl (cI, 16, .inl f_t_perLength)), (h_p1, .inl (cI, n_p1, .inl f_p1)), (h_t_starts, .inl (cI, 17, .inl (upd f_t_starts (x4 + (1 : Int32)).toNatClampNeg ((f_t_starts x4.toNatClampNeg) + (f_t_perLength x4.toNatClampNeg))))), (h_t_sorted, .inl (cI, 288, .inl f_t_sorted))] := hD
      refine lv_iinc (v := x4 + (1 : Int32)) (lv' := [(4, .int (x4 + (1 : Int32))), (0, .ref h_t), (1, .ref h_p1), (2, .int x2), (3, .int x3)]) hx hb d_Decoder_learn_119 hl (k := 4) rfl rfl (by decide) rfl (fun ls hl => ?_)
      refine lv_goto (tgt := 66) hx hb d_Decoder_learn_122 (by decide) ?_
      exact ih (x4 + (1 : Int32)) (v_t_left - ((f_t_perLength x4.toNatClampNeg) <<< (((15 : Int32) - x4) &&& 31))) (upd f_t_starts (x4 + (1 : Int32)).toNatClampNeg ((f_t_starts x4.toNatClampNeg) + (f_t_perLength x4.toNatClampNeg))) _ _ _ _ hP hD hS (lv_sub hl [1, 2, 3, 4, 0] rfl) h kx
set_option maxHeartbeats 4000000 in
set_option maxRecDepth 100000 in
theorem wDecoder_learn_128 {p : Program} {l : Launch} {e : Env} {s : State} {m : MethodId} {args : Array Value} {below : List Frame} {meth : Method} {c : Code} {Q : State → Prop} {A : Nat → Prop} {dC : Nat → ClassId} {dI : Nat → Nat → Nat} (h_t h_t_perLength h_t_starts h_t_sorted h_p1 : Nat) (cB cI cJ : ClassId) (N : Nat) (v_t_codes : Int32) (v_t_left : Int32) (f_t_perLength : Nat → Int32) (n_p1 : Nat) (f_p1 : Nat → Int32) (x2 : Int32) (x3 : Int32) (C : CX p s m args c b_Decoder_learn 6 R_Decoder A (dC, dI) [(cB, .byte), (cI, .int), (cJ, .long)]) :
    ∀ (n : Nat) (x4 : Int32) (f_t_starts : Nat → Int32) (f_t_sorted : Nat → Int32) (H : Heap) (locs : List Loc) (ls : Array Slot) (o : (Nat → Int32) × (Nat → Int32)), va_P (dC, dI) vwCl [(h_t, .inr (3, [.ref h_t_perLength, .ref h_t_starts, .ref h_t_sorted, .int v_t_codes, .int v_t_left])), (h_t_perLength, .inl (cI, 16, .inl f_t_perLength)), (h_p1, .inl (cI, n_p1, .inl f_p1)), (h_t_starts, .inl (cI, 17, .inl f_t_starts)), (h_t_sorted, .inl (cI, 288, .inl f_t_sorted))] H → va_D A [(h_t, .inr (3, [.ref h_t_perLength, .ref h_t_starts, .ref h_t_sorted, .int v_t_codes, .int v_t_left])), (h_t_perLength, .inl (cI, 16, .inl f_t_perLength)), (h_p1, .inl (cI, n_p1, .inl f_p1)), (h_t_starts, .inl (cI, 17, .inl f_t_starts)), (h_t_sorted, .inl (cI, 288, .inl f_t_sorted))] → va_S A s.heap H locs → lv_has ls 6 [(0, .ref h_t), (1, .ref h_p1), (2, .int x2), (3, .int x3), (4, .int x4)] → fDecoder_learn_128 N x2 x3 n_p1 f_p1 n x4 f_t_starts f_t_sorted = some o → (∀ (H : Heap) (locs : List Loc) (ls : Array Slot), va_P (dC, dI) vwCl [(h_t, .inr (3, [.ref h_t_perLength, .ref h_t_starts, .ref h_t_sorted, .int v_t_codes, .int v_t_left])), (h_t_perLength, .inl (cI, 16, .inl f_t_perLength)), (h_p1, .inl (cI, n_p1, .inl f_p1)), (h_t_starts, .inl (cI, 17, .inl o.1)), (h_t_sorted, .inl (cI, 288, .inl o.2))] H → va_D A [(h_t, .inr (3, [.ref h_t_perLength, .ref h_t_starts, .ref h_t_sorted, .int v_t_codes, .int v_t_left])), (h_t_perLength, .inl (cI, 16, .inl f_t_perLength)), (h_p1, .inl (cI, n_p1, .inl f_p1)), (h_t_starts, .inl (cI, 17, .inl o.1)), (h_t_sorted, .inl (cI, 288, .inl o.2))] → va_S A s.heap H locs → lv_has ls 6 [] → W p l e ({ frames := 1, cells := 0, slots := 0, locals := 23 } : Room) s m args below meth c H locs 0 0 Q (F0 m 178 ls [])) → W p l e ({ frames := 1, cells := 0, slots := 0, locals := 23 } : Room) s m args below meth c H locs 0 0 Q (F0 m 128 ls []) := by
  obtain ⟨hx, hb, hml, hown, ht, hA, hK, hN⟩ := id C
  intro n
  induction n with
  | zero => intro x4 f_t_starts f_t_sorted H locs ls o _ _ _ _ h; exact nomatch h
  | succ k ih =>
    intro x4 f_t_starts f_t_sorted H locs ls o hP hD hS hl h kx
    refine lv_iload hx hb d_Decoder_learn_128 (lv_at hl 4 rfl) ?_
    refine lv_iload_n hx hb d_Decoder_learn_130 rfl (lv_at hl 3 rfl) ?_
    refine lv_icmp_ge (tgt := 178) hx hb d_Decoder_learn_131 (by decide) (fun c15 => ?_) (fun c15 => ?_)
    · replace h := ip_p c15 h
      obtain rfl := Option.some.inj h
      exact kx _ _ _ hP hD hS (lv_sub hl [] rfl)
    · replace h := ip_n c15 h
      refine lv_aload_n hx hb d_Decoder_learn_134 rfl (lv_at hl 1 rfl) ?_
      refine lv_iload_n hx hb d_Decoder_learn_135 rfl (lv_at hl 2 rfl) ?_
      refine lv_iload hx hb d_Decoder_learn_136 (lv_at hl 4 rfl) ?_
      refine lv_iadd hx hb d_Decoder_learn_138 ?_
      obtain ⟨g16, h⟩ := gd h
      refine va_iald hx hb hK hP 2 1 rfl rfl g16 d_Decoder_learn_139 ?_
      refine lv_istore (lv' := [(5, .int (f_p1 (x2 + x4).toNatClampNeg)), (0, .ref h_t), (1, .ref h_p1), (2, .int x2), (3, .int x3), (4, .int x4)]) hx hb d_Decoder_learn_140 hl (by decide) rfl (fun ls hl => ?_)
      refine lv_iload hx hb d_Decoder_learn_142 (lv_at hl 0 rfl) ?_
      refine lv_if_le (tgt := 172) hx hb d_Decoder_learn_144 (by decide) (fun c17 => ?_) (fun c17 => ?_)
      · replace h := ip_p c17 h
        refine lv_iinc (v := x4 + (1 : Int32)) (lv' := [(4, .int (x4 + (1 : Int32))), (5, .int (f_p1 (x2 + x4).toNatClampNeg)), (0, .ref h_t), (1, .ref h_p1), (2, .int x2), (3, .int x3)]) hx hb d_Decoder_learn_172 hl (k := 5) rfl rfl (by decide) rfl (fun ls hl => ?_)
        refine lv_goto (tgt := 128) hx hb d_Decoder_learn_175 (by decide) ?_
        exact ih (x4 + (1 : Int32)) f_t_starts f_t_sorted _ _ _ _ hP hD hS (lv_sub hl [2, 3, 4, 5, 0] rfl) h kx
      · replace h := ip_n c17 h
        refine lv_aload_n hx hb d_Decoder_learn_147 rfl (lv_at hl 1 rfl) ?_
        refine va_get (D := (dC, dI)) (ci := 3) (v := .ref h_t_sorted) (C := R_Decoder) (T := F_Decoder) (N := 5) hx hb ht in_Decoder hown hK hP 0 rfl rfl 2 (by decide) (ht _ k_341) (fun _ h9 => h9) rfl d_Decoder_learn_148 ?_
        refine lv_aload_n hx hb d_Decoder_learn_151 rfl (lv_at hl 1 rfl) ?_
        refine va_get (D := (dC, dI)) (ci := 3) (v := .ref h_t_starts) (C := R_Decoder) (T := F_Decoder) (N := 5) hx hb ht in_Decoder hown hK hP 0 rfl rfl 1 (by decide) (ht _ k_340) (fun _ h9 => h9) rfl d_Decoder_learn_152 ?_
        refine lv_iload hx hb d_Decoder_learn_155 (lv_at hl 0 rfl) ?_
        obtain ⟨g18, h⟩ := gd h
        refine va_iald hx hb hK hP 3 1 rfl rfl g18 d_Decoder_learn_157 ?_
        refine lv_iload hx hb d_Decoder_learn_158 (lv_at hl 5 rfl) ?_
        obtain ⟨g19, h⟩ := gd h
        refine va_iast hx hb hK hP hD hS 4 1 rfl rfl g19 d_Decoder_learn_160 (fun H locs hP hD hS => ?_)
        have hP : va_P (dC, dI) vwCl [(h_t, .inr (3, [.ref h_t_perLength, .ref h_t_starts, .ref h_t_sorted, .int v_t_codes, .int v_t_left])), (h_t_perLength, .inl (cI, 16, .inl f_t_perLength)), (h_p1, .inl (cI, n_p1, .inl f_p1)), (h_t_starts, .inl (cI, 17, .inl f_t_starts)), (h_t_sorted, .inl (cI, 288, .inl (upd f_t_sorted (f_t_starts (f_p1 (x2 + x4).toNatClampNeg).toNatClampNeg).toNatClampNeg x4)))] H := hP
        have hD : va_D A [(h_t, .inr (3, [.ref h_t_perLength, .ref h_t_starts, .ref h_t_sorted, .int v_t_codes, .int v_t_left])), (h_t_perLength, .inl (cI, 16, .inl f_t_perLength)), (h_p1, .inl (cI, n_p1, .inl f_p1)), (h_t_starts, .inl (cI, 17, .inl f_t_starts)), (h_t_sorted, .inl (cI, 288, .inl (upd f_t_sorted (f_t_starts (f_p1 (x2 + x4).toNatClampNeg).toNatClampNeg).toNatClampNeg x4)))] := hD
        refine lv_aload_n hx hb d_Decoder_learn_161 rfl (lv_at hl 1 rfl) ?_
        refine va_get (D := (dC, dI)) (ci := 3) (v := .ref h_t_starts) (C := R_Decoder) (T := F_Decoder) (N := 5) hx hb ht in_Decoder hown hK hP 0 rfl rfl 1 (by decide) (ht _ k_340) (fun _ h9 => h9) rfl d_Decoder_learn_162 ?_
        refine lv_iload hx hb d_Decoder_learn_165 (lv_at hl 0 rfl) ?_
        refine lv_dup2_11 hx hb d_Decoder_learn_167 rfl rfl ?_
        obtain ⟨g20, h⟩ := gd h
        refine va_iald hx hb hK hP 3 1 rfl rfl g20 d_Decoder_learn_168 ?_
        refine lv_iconst (v := (1 : Int32)) hx hb d_Decoder_learn_169 (by decide) ?_
        refine lv_iadd hx hb d_Decoder_learn_170 ?_
        obtain ⟨g21, h⟩ := gd h
        refine va_iast hx hb hK hP hD hS 3 1 rfl rfl g21 d_Decoder_learn_171 (fun H locs hP hD hS => ?_)
        have hP : va_P (dC, dI) vwCl [(h_t, .inr (3, [.ref h_t_perLength, .ref h_t_starts, .ref h_t_sorted, .int v_t_codes, .int v_t_left])), (h_t_perLength, .inl (cI, 16, .inl f_t_perLength)), (h_p1, .inl (cI, n_p1, .inl f_p1)), (h_t_starts, .inl (cI, 17, .inl (upd f_t_starts (f_p1 (x2 + x4).toNatClampNeg).toNatClampNeg ((f_t_starts (f_p1 (x2 + x4).toNatClampNeg).toNatClampNeg) + (1 : Int32))))), (h_t_sorted, .inl (cI, 288, .inl (upd f_t_sorted (f_t_starts (f_p1 (x2 + x4).toNatClampNeg).toNatClampNeg).toNatClampNeg x4)))] H := hP
        have hD : va_D A [(h_t, .inr (3, [.ref h_t_perLength, .ref h_t_starts, .ref h_t_sorted, .int v_t_codes, .int v_t_left])), (h_t_perLength, .inl (cI, 16, .inl f_t_perLength)), (h_p1, .inl (cI, n_p1, .inl f_p1)), (h_t_starts, .inl (cI, 17, .inl (upd f_t_starts (f_p1 (x2 + x4).toNatClampNeg).toNatClampNeg ((f_t_starts (f_p1 (x2 + x4).toNatClampNeg).toNatClampNeg) + (1 : Int32))))), (h_t_sorted, .inl (cI, 288, .inl (upd f_t_sorted (f_t_starts (f_p1 (x2 + x4).toNatClampNeg).toNatClampNeg).toNatClampNeg x4)))] := hD
        refine lv_iinc (v := x4 + (1 : Int32)) (lv' := [(4, .int (x4 + (1 : Int32))), (5, .int (f_p1 (x2 + x4).toNatClampNeg)), (0, .ref h_t), (1, .ref h_p1), (2, .int x2), (3, .int x3)]) hx hb d_Decoder_learn_172 hl (k := 5) rfl rfl (by decide) rfl (fun ls hl => ?_)
        refine lv_goto (tgt := 128) hx hb d_Decoder_learn_175 (by decide) ?_
        exact ih (x4 + (1 : Int32)) (upd f_t_starts (f_p1 (x2 + x4).toNatClampNeg).toNatClampNeg ((f_t_starts (f_p1 (x2 + x4).toNatClampNeg).toNatClampNeg) + (1 : Int32))) (upd f_t_sorted (f_t_starts (f_p1 (x2 + x4).toNatClampNeg).toNatClampNeg).toNatClampNeg x4) _ _ _ _ hP hD hS (lv_sub hl [2, 3, 4, 5, 0] rfl) h kx
set_option maxHeartbeats 4000000 in
set_option maxRecDepth 100000 in
theorem cDecoder_learn (l : Launch) (dC : Nat → ClassId) (dI : Nat → Nat → Nat) (h_t h_t_perLength h_t_starts h_t_sorted h_p1 : Nat) (cB cI cJ : ClassId) (sz : Nat) (N : Nat) (p2 : Int32) (p3 : Int32) (v_t_codes : Int32) (v_t_left : Int32) (f_t_perLength : Nat → Int32) (n_p1 : Nat) (f_p1 : Nat → Int32) (f_t_starts : Nat → Int32) (f_t_sorted : Nat → Int32) (o : Int32 × Int32 × (Nat → Int32) × (Nat → Int32) × (Nat → Int32)) (h : fDecoder_learn N p2 p3 f_t_perLength n_p1 f_p1 f_t_starts f_t_sorted = some o) : Met l y_Decoder_learn w_Decoder_learn ({ frames := 1, cells := 0, slots := 0, locals := 23 } : Room) (va_Pc [.ref h_t, .ref h_p1, .int p2, .int p3] (fun U => U.heap.size = sz ∧ va_P (dC, dI) vwCl [(h_t, .inr (3, [.ref h_t_perLength, .ref h_t_starts, .ref h_t_sorted, .int v_t_codes, .int v_t_left])), (h_t_perLength, .inl (cI, 16, .inl f_t_perLength)), (h_p1, .inl (cI, n_p1, .inl f_p1)), (h_t_starts, .inl (cI, 17, .inl f_t_starts)), (h_t_sorted, .inl (cI, 288, .inl f_t_sorted))] U.heap ∧ va_K (dC, dI) vwCl [(cB, .byte), (cI, .int), (cJ, .long)] U ∧ va_D (fun _ => True) [(h_t, .inr (3, [.ref h_t_perLength, .ref h_t_starts, .ref h_t_sorted, .int v_t_codes, .int v_t_left])), (h_t_perLength, .inl (cI, 16, .inl f_t_perLength)), (h_p1, .inl (cI, n_p1, .inl f_p1)), (h_t_starts, .inl (cI, 17, .inl f_t_starts)), (h_t_sorted, .inl (cI, 288, .inl f_t_sorted))] ∧ NW U)) (va_Qv (fun _ : Unit => True) (fun _ t => va_P (dC, dI) vwCl [(h_t, .inr (3, [.ref h_t_perLength, .ref h_t_starts, .ref h_t_sorted, .int o.1, .int o.2.1])), (h_t_perLength, .inl (cI, 16, .inl o.2.2.1)), (h_p1, .inl (cI, n_p1, .inl f_p1)), (h_t_starts, .inl (cI, 17, .inl o.2.2.2.1)), (h_t_sorted, .inl (cI, 288, .inl o.2.2.2.2))] t.heap ∧ va_K (dC, dI) vwCl [(cB, .byte), (cI, .int), (cJ, .long)] t ∧ va_D (va_A [(h_t, .inr (3, [.ref h_t_perLength, .ref h_t_starts, .ref h_t_sorted, .int v_t_codes, .int v_t_left])), (h_t_perLength, .inl (cI, 16, .inl f_t_perLength)), (h_p1, .inl (cI, n_p1, .inl f_p1)), (h_t_starts, .inl (cI, 17, .inl f_t_starts)), (h_t_sorted, .inl (cI, 288, .inl f_t_sorted))] sz) [(h_t, .inr (3, [.ref h_t_perLength, .ref h_t_starts, .ref h_t_sorted, .int o.1, .int o.2.1])), (h_t_perLength, .inl (cI, 16, .inl o.2.2.1)), (h_p1, .inl (cI, n_p1, .inl f_p1)), (h_t_starts, .inl (cI, 17, .inl o.2.2.2.1)), (h_t_sorted, .inl (cI, 288, .inl o.2.2.2.2))]) (va_A [(h_t, .inr (3, [.ref h_t_perLength, .ref h_t_starts, .ref h_t_sorted, .int v_t_codes, .int v_t_left])), (h_t_perLength, .inl (cI, 16, .inl f_t_perLength)), (h_p1, .inl (cI, n_p1, .inl f_p1)), (h_t_starts, .inl (cI, 17, .inl f_t_starts)), (h_t_sorted, .inl (cI, 288, .inl f_t_sorted))] sz)) 0 0 (va_A [(h_t, .inr (3, [.ref h_t_perLength, .ref h_t_starts, .ref h_t_sorted, .int v_t_codes, .int v_t_left])), (h_t_perLength, .inl (cI, 16, .inl f_t_perLength)), (h_p1, .inl (cI, n_p1, .inl f_p1)), (h_t_starts, .inl (cI, 17, .inl f_t_starts)), (h_t_sorted, .inl (cI, 288, .inl f_t_sorted))] sz) := by
  refine Met.ofW (cc := b_Decoder_learn) (maxL := 6) (ret := none) (by decide) rfl ?_
  intro p e s m args below meth c s₁ B hml hv
  obtain ⟨rfl, hsz, hP, hK, hD0, hN⟩ := hv
  have hx := B.exec
  have hb := B.bytes
  have hr := B.returns
  have hts := atoms_spec (ws := w_Decoder_learn) B.pre
  have ht : ∀ w ∈ TB, w.before ([.ref h_t, .ref h_p1, .int p2, .int p3]).toArray s = true := fun w h => hts w (List.mem_cons_of_mem _ h)
  have hown : s.vm.findClass R_Decoder = some m.cls := findClass_of_methodNamed B.named
  have hlocks := B.notSynchronized
  subst hsz
  have hD := hD0.self (sz := s.heap.size)
  generalize hAe : va_A [(h_t, .inr (3, [.ref h_t_perLength, .ref h_t_starts, .ref h_t_sorted, .int v_t_codes, .int v_t_left])), (h_t_perLength, .inl (cI, 16, .inl f_t_perLength)), (h_p1, .inl (cI, n_p1, .inl f_p1)), (h_t_starts, .inl (cI, 17, .inl f_t_starts)), (h_t_sorted, .inl (cI, 288, .inl f_t_sorted))] s.heap.size = A at hD ⊢
  have hA : ∀ q : Nat, s.heap.size ≤ q → A q := fun q h => by rw [← hAe]; exact Or.inr h
  have hS : va_S A s.heap s.heap [] := va_S.rf
  have hP : va_P (dC, dI) vwCl [(h_t, .inr (3, [.ref h_t_perLength, .ref h_t_starts, .ref h_t_sorted, .int v_t_codes, .int v_t_left])), (h_t_perLength, .inl (cI, 16, .inl f_t_perLength)), (h_p1, .inl (cI, n_p1, .inl f_p1)), (h_t_starts, .inl (cI, 17, .inl f_t_starts)), (h_t_sorted, .inl (cI, 288, .inl f_t_sorted))] s.heap := hP
  have C : CX p s m ([.ref h_t, .ref h_p1, .int p2, .int p3]).toArray c b_Decoder_learn 6 R_Decoder A (dC, dI) [(cB, .byte), (cI, .int), (cJ, .long)] := ⟨hx, hb, hml, hown, ht, hA, hK, hN⟩
  have hl := lv_entry ([.ref h_t, .ref h_p1, .int p2, .int p3]) (n := 6) (Nat.le_of_ble_eq_true rfl)
  rw [lg_entry_eq]
  generalize (lg_sl ([.ref h_t, .ref h_p1, .int p2, .int p3]) ++ List.replicate (6 - (lg_sl ([.ref h_t, .ref h_p1, .int p2, .int p3])).length) Slot.unset).toArray = ls at hl ⊢
  have hl : lv_has ls 6 [(0, .ref h_t), (1, .ref h_p1), (2, .int p2), (3, .int p3)] := hl
  refine lv_aload_n hx hb d_Decoder_learn_0 rfl (lv_at hl 0 rfl) ?_
  refine va_get (D := (dC, dI)) (ci := 3) (v := .ref h_t_perLength) (C := R_Decoder) (T := F_Decoder) (N := 5) hx hb ht in_Decoder hown hK hP 0 rfl rfl 0 (by decide) (ht _ k_339) (fun _ h9 => h9) rfl d_Decoder_learn_1 ?_
  refine lv_iconst (v := (0 : Int32)) hx hb d_Decoder_learn_4 (by decide) ?_
  obtain ⟨y1, hy1, h⟩ := bd h
  have hPc := hP.sub (ws' := [(h_t_perLength, .inl (cI, 16, .inl f_t_perLength))]) [1] rfl
  have hDc := hD.sub (ws' := [(h_t_perLength, .inl (cI, 16, .inl f_t_perLength))]) [1] (by decide) rfl
  have hFc := va_free (wc := [(h_t_perLength, .inl (cI, 16, .inl f_t_perLength))]) hD hS hA [1] rfl
  refine va_callv (va_runS (As := [.ref h_t_perLength, .int (0 : Int32)]) (rest := []) ⟨hx, hb, hml, hown, ht⟩ (cJA_fill l dC dI h_t_perLength cB cI cJ _ N (0 : Int32) 16 f_t_perLength y1 hy1) (⟨callB_of 2 ht (gTB (k_226)) rfl rfl rfl (ht _ k_71) (ht _ k_376) (by decide +kernel) ⟨Nat.le_of_ble_eq_true rfl, Nat.le_of_ble_eq_true rfl⟩, ht _ k_225⟩) ⟨fun a U g mk q => by obtain ⟨q0, q1, qP, qK, qD, qN⟩ := q; exact ⟨q0, q1, qP, va_K.moved (u := U) (U := U.calling g mk a) (Vm.Alike.refl U.vm) qK, qD, NW_same (u := U) rfl qN⟩, fun U hU hW => ⟨rfl, by rw [hU], by rw [hU]; exact hPc, va_K.moved hW.alike hK, hDc.weaken (fun _ _ _ _ => trivial), NW_warm hW hN⟩⟩ rfl rfl hl.1 rfl (lv_room (Nat.le_of_ble_eq_true rfl)) d_Decoder_learn_5 ⟨Nat.le_of_ble_eq_true rfl, Nat.le_of_ble_eq_true rfl⟩) hS (fun q _ h => hFc q h) hFc (fun u t H1 locs htH hvm hw hB hz1 hk1 hS => ?_)
  obtain ⟨hP1, hK1, hD1⟩ := hB
  rw [htH] at hP1
  obtain ⟨hP, hD⟩ := va_join (wr := [(h_t, .inr (3, [.ref h_t_perLength, .ref h_t_starts, .ref h_t_sorted, .int v_t_codes, .int v_t_left])), (h_p1, .inl (cI, n_p1, .inl f_p1)), (h_t_starts, .inl (cI, 17, .inl f_t_starts)), (h_t_sorted, .inl (cI, 288, .inl f_t_sorted))]) (w1 := [(h_t_perLength, .inl (cI, 16, .inl y1))]) hP hD [1] [0, 2, 3, 4] rfl rfl (by decide) (by decide) hk1 hFc hP1 hD1
  generalize H1 = H at hP hS ⊢
  have hP : va_P (dC, dI) vwCl [(h_t, .inr (3, [.ref h_t_perLength, .ref h_t_starts, .ref h_t_sorted, .int v_t_codes, .int v_t_left])), (h_t_perLength, .inl (cI, 16, .inl y1)), (h_p1, .inl (cI, n_p1, .inl f_p1)), (h_t_starts, .inl (cI, 17, .inl f_t_starts)), (h_t_sorted, .inl (cI, 288, .inl f_t_sorted))] H := hP.sub [0, 4, 1, 2, 3] rfl
  have hD : va_D A [(h_t, .inr (3, [.ref h_t_perLength, .ref h_t_starts, .ref h_t_sorted, .int v_t_codes, .int v_t_left])), (h_t_perLength, .inl (cI, 16, .inl y1)), (h_p1, .inl (cI, n_p1, .inl f_p1)), (h_t_starts, .inl (cI, 17, .inl f_t_starts)), (h_t_sorted, .inl (cI, 288, .inl f_t_sorted))] := hD.sub [0, 4, 1, 2, 3] (by decide) rfl
  refine lv_iconst (v := (0 : Int32)) hx hb d_Decoder_learn_8 (by decide) ?_
  refine lv_istore (lv' := [(4, .int (0 : Int32)), (0, .ref h_t), (1, .ref h_p1), (2, .int p2), (3, .int p3)]) hx hb d_Decoder_learn_9 hl (by decide) rfl (fun ls hl => ?_)
  obtain ⟨y6, hy6, h⟩ := bd h
  refine wDecoder_learn_11 h_t h_t_perLength h_t_starts h_t_sorted h_p1 cB cI cJ N v_t_codes v_t_left n_p1 f_p1 f_t_starts f_t_sorted p2 p3 C N (0 : Int32) y1 _ _ _ _ hP hD hS (lv_sub hl [1, 2, 3, 4, 0] rfl) hy6 (fun H locs ls hP hD hS hl => ?_)
  refine lv_aload_n hx hb d_Decoder_learn_38 rfl (lv_at hl 0 rfl) ?_
  refine lv_iload_n hx hb d_Decoder_learn_39 rfl (lv_at hl 3 rfl) ?_
  refine lv_aload_n hx hb d_Decoder_learn_40 rfl (lv_at hl 0 rfl) ?_
  refine va_get (D := (dC, dI)) (ci := 3) (v := .ref h_t_perLength) (C := R_Decoder) (T := F_Decoder) (N := 5) hx hb ht in_Decoder hown hK hP 0 rfl rfl 0 (by decide) (ht _ k_339) (fun _ h9 => h9) rfl d_Decoder_learn_41 ?_
  refine lv_iconst (v := (0 : Int32)) hx hb d_Decoder_learn_44 (by decide) ?_
  obtain ⟨g7, h⟩ := gd h
  refine va_iald hx hb hK hP 1 1 rfl rfl g7 d_Decoder_learn_45 ?_
  refine lv_isub hx hb d_Decoder_learn_46 ?_
  refine va_put (D := (dC, dI)) (ci := 3) (v := .int (p3 - (y6 (0 : Int32).toNatClampNeg))) (ty := .int) (C := R_Decoder) (T := F_Decoder) (N := 5) hx hb ht in_Decoder t_Decoder t_Decoder_ok n_Decoder hown hK hP hD hS 0 rfl rfl 3 (by decide) (ht _ k_342) (fun _ h9 => h9) rfl (by decide +kernel) rfl rfl (Nat.le_of_ble_eq_true rfl) d_Decoder_learn_47 (fun H locs hP hD hS => ?_)
  have hP : va_P (dC, dI) vwCl [(h_t, .inr (3, [.ref h_t_perLength, .ref h_t_starts, .ref h_t_sorted, .int (p3 - (y6 (0 : Int32).toNatClampNeg)), .int v_t_left])), (h_t_perLength, .inl (cI, 16, .inl y6)), (h_p1, .inl (cI, n_p1, .inl f_p1)), (h_t_starts, .inl (cI, 17, .inl f_t_starts)), (h_t_sorted, .inl (cI, 288, .inl f_t_sorted))] H := hP
  have hD : va_D A [(h_t, .inr (3, [.ref h_t_perLength, .ref h_t_starts, .ref h_t_sorted, .int (p3 - (y6 (0 : Int32).toNatClampNeg)), .int v_t_left])), (h_t_perLength, .inl (cI, 16, .inl y6)), (h_p1, .inl (cI, n_p1, .inl f_p1)), (h_t_starts, .inl (cI, 17, .inl f_t_starts)), (h_t_sorted, .inl (cI, 288, .inl f_t_sorted))] := hD
  refine lv_aload_n hx hb d_Decoder_learn_50 rfl (lv_at hl 0 rfl) ?_
  refine lv_ldc (v := (32768 : Int32)) hx hb hown (ht _ k_377) d_Decoder_learn_51 ?_
  refine va_put (D := (dC, dI)) (ci := 3) (v := .int (32768 : Int32)) (ty := .int) (C := R_Decoder) (T := F_Decoder) (N := 5) hx hb ht in_Decoder t_Decoder t_Decoder_ok n_Decoder hown hK hP hD hS 0 rfl rfl 4 (by decide) (ht _ k_343) (fun _ h9 => h9) rfl (by decide +kernel) rfl rfl (Nat.le_of_ble_eq_true rfl) d_Decoder_learn_53 (fun H locs hP hD hS => ?_)
  have hP : va_P (dC, dI) vwCl [(h_t, .inr (3, [.ref h_t_perLength, .ref h_t_starts, .ref h_t_sorted, .int (p3 - (y6 (0 : Int32).toNatClampNeg)), .int (32768 : Int32)])), (h_t_perLength, .inl (cI, 16, .inl y6)), (h_p1, .inl (cI, n_p1, .inl f_p1)), (h_t_starts, .inl (cI, 17, .inl f_t_starts)), (h_t_sorted, .inl (cI, 288, .inl f_t_sorted))] H := hP
  have hD : va_D A [(h_t, .inr (3, [.ref h_t_perLength, .ref h_t_starts, .ref h_t_sorted, .int (p3 - (y6 (0 : Int32).toNatClampNeg)), .int (32768 : Int32)])), (h_t_perLength, .inl (cI, 16, .inl y6)), (h_p1, .inl (cI, n_p1, .inl f_p1)), (h_t_starts, .inl (cI, 17, .inl f_t_starts)), (h_t_sorted, .inl (cI, 288, .inl f_t_sorted))] := hD
  refine lv_aload_n hx hb d_Decoder_learn_56 rfl (lv_at hl 0 rfl) ?_
  refine va_get (D := (dC, dI)) (ci := 3) (v := .ref h_t_starts) (C := R_Decoder) (T := F_Decoder) (N := 5) hx hb ht in_Decoder hown hK hP 0 rfl rfl 1 (by decide) (ht _ k_340) (fun _ h9 => h9) rfl d_Decoder_learn_57 ?_
  refine lv_iconst (v := (1 : Int32)) hx hb d_Decoder_learn_60 (by decide) ?_
  refine lv_iconst (v := (0 : Int32)) hx hb d_Decoder_learn_61 (by decide) ?_
  obtain ⟨g8, h⟩ := gd h
  refine va_iast hx hb hK hP hD hS 3 1 rfl rfl g8 d_Decoder_learn_62 (fun H locs hP hD hS => ?_)
  have hP : va_P (dC, dI) vwCl [(h_t, .inr (3, [.ref h_t_perLength, .ref h_t_starts, .ref h_t_sorted, .int (p3 - (y6 (0 : Int32).toNatClampNeg)), .int (32768 : Int32)])), (h_t_perLength, .inl (cI, 16, .inl y6)), (h_p1, .inl (cI, n_p1, .inl f_p1)), (h_t_starts, .inl (cI, 17, .inl (upd f_t_starts (1 : Int32).toNatClampNeg (0 : Int32)))), (h_t_sorted, .inl (cI, 288, .inl f_t_sorted))] H := hP
  have hD : va_D A [(h_t, .inr (3, [.ref h_t_perLength, .ref h_t_starts, .ref h_t_sorted, .int (p3 - (y6 (0 : Int32).toNatClampNeg)), .int (32768 : Int32)])), (h_t_perLength, .inl (cI, 16, .inl y6)), (h_p1, .inl (cI, n_p1, .inl f_p1)), (h_t_starts, .inl (cI, 17, .inl (upd f_t_starts (1 : Int32).toNatClampNeg (0 : Int32)))), (h_t_sorted, .inl (cI, 288, .inl f_t_sorted))] := hD
  refine lv_iconst (v := (1 : Int32)) hx hb d_Decoder_learn_63 (by decide) ?_
  refine lv_istore (lv' := [(4, .int (1 : Int32)), (0, .ref h_t), (1, .ref h_p1), (2, .int p2), (3, .int p3)]) hx hb d_Decoder_learn_64 hl (by decide) rfl (fun ls hl => ?_)
  obtain ⟨y14, hy14, h⟩ := bd h
  refine wDecoder_learn_66 h_t h_t_perLength h_t_starts h_t_sorted h_p1 cB cI cJ N (p3 - (y6 (0 : Int32).toNatClampNeg)) y6 n_p1 f_p1 f_t_sorted p2 p3 C N (1 : Int32) (32768 : Int32) (upd f_t_starts (1 : Int32).toNatClampNeg (0 : Int32)) _ _ _ _ hP hD hS (lv_sub hl [1, 2, 3, 4, 0] rfl) hy14 (fun H locs ls hP hD hS hl => ?_)
  refine lv_iconst (v := (0 : Int32)) hx hb d_Decoder_learn_125 (by decide) ?_
  refine lv_istore (lv' := [(4, .int (0 : Int32)), (0, .ref h_t), (1, .ref h_p1), (2, .int p2), (3, .int p3)]) hx hb d_Decoder_learn_126 hl (by decide) rfl (fun ls hl => ?_)
  obtain ⟨y22, hy22, h⟩ := bd h
  refine wDecoder_learn_128 h_t h_t_perLength h_t_starts h_t_sorted h_p1 cB cI cJ N (p3 - (y6 (0 : Int32).toNatClampNeg)) y14.1 y6 n_p1 f_p1 p2 p3 C N (0 : Int32) y14.2 f_t_sorted _ _ _ _ hP hD hS (lv_sub hl [1, 2, 3, 4, 0] rfl) hy22 (fun H locs ls hP hD hS hl => ?_)
  obtain rfl := Option.some.inj h
  exact W.vret hx hb hr (fun t ht hW => ⟨⟨(), rfl, trivial, by rw [ht]; exact hP, va_K.moved hW.alike hK, hD⟩, hS.F ht⟩) hS.2.2 d_Decoder_learn_178
/-! PackedBytes$Decoder.decode(LPackedBytes$BitSource;)I -/
def fDecoder_decode_64 (N : Nat) (v_p1_place : Int32) (x3 : Int32) (x5 : Int32) (f_p1_from_cells : Nat → Int32) (f_t_perLength : Nat → Int32) (f_t_sorted : Nat → Int32) : Nat → (Int32) → (Int32) → (Int32) → (Int32) → (Int32) → Option ((Unit) ⊕ (Int32 × Int32))
  | 0, _, _, _, _, _ => none
  | k + 1, x4, x6, x7, x8, x9 =>
    if x5 < x9 then
      some (.inl ())
    else
      if x4 < x3 then
        if ¬ ((x4 >>> ((3 : Int32) &&& 31)) < 0 ∨ 65546 ≤ (x4 >>> ((3 : Int32) &&& 31)).toNatClampNeg) then
          if ¬ (x9 < 0 ∨ 16 ≤ x9.toNatClampNeg) then
            if (f_t_perLength x9.toNatClampNeg) ≤ (((x6 <<< ((1 : Int32) &&& 31)) ||| ((((f_p1_from_cells (x4 >>> ((3 : Int32) &&& 31)).toNatClampNeg).toInt8.toInt32) >>> ((x4 &&& (7 : Int32)) &&& 31)) &&& (1 : Int32))) - x7) then
              fDecoder_decode_64 N v_p1_place x3 x5 f_p1_from_cells f_t_perLength f_t_sorted k (x4 + (1 : Int32)) ((x6 <<< ((1 : Int32) &&& 31)) ||| ((((f_p1_from_cells (x4 >>> ((3 : Int32) &&& 31)).toNatClampNeg).toInt8.toInt32) >>> ((x4 &&& (7 : Int32)) &&& 31)) &&& (1 : Int32))) ((x7 + (f_t_perLength x9.toNatClampNeg)) <<< ((1 : Int32) &&& 31)) (x8 + (f_t_perLength x9.toNatClampNeg)) (x9 + (1 : Int32))
            else
              if ¬ (((x8 + ((x6 <<< ((1 : Int32) &&& 31)) ||| ((((f_p1_from_cells (x4 >>> ((3 : Int32) &&& 31)).toNatClampNeg).toInt8.toInt32) >>> ((x4 &&& (7 : Int32)) &&& 31)) &&& (1 : Int32)))) - x7) < 0 ∨ 288 ≤ ((x8 + ((x6 <<< ((1 : Int32) &&& 31)) ||| ((((f_p1_from_cells (x4 >>> ((3 : Int32) &&& 31)).toNatClampNeg).toInt8.toInt32) >>> ((x4 &&& (7 : Int32)) &&& 31)) &&& (1 : Int32)))) - x7).toNatClampNeg) then
                some (.inr (f_t_sorted ((x8 + ((x6 <<< ((1 : Int32) &&& 31)) ||| ((((f_p1_from_cells (x4 >>> ((3 : Int32) &&& 31)).toNatClampNeg).toInt8.toInt32) >>> ((x4 &&& (7 : Int32)) &&& 31)) &&& (1 : Int32)))) - x7).toNatClampNeg, x4 + (1 : Int32)))
              else none
          else none
        else none
      else
        some (.inr ((-1 : Int32), v_p1_place))
def fDecoder_decode (N : Nat) (v_t_codes : Int32) (v_p1_place : Int32) (v_p1_from_count : Int32) (f_p1_from_cells : Nat → Int32) (f_t_perLength : Nat → Int32) (f_t_sorted : Nat → Int32) : Option (Int32 × Int32) :=
    (fDecoder_decode_64 N v_p1_place (v_p1_from_count * (8 : Int32)) (if v_t_codes = 0 then (0 : Int32) else (if v_t_codes = (1 : Int32) then (1 : Int32) else (15 : Int32))) f_p1_from_cells f_t_perLength f_t_sorted N v_p1_place (0 : Int32) (0 : Int32) (0 : Int32) (1 : Int32)).bind (fun y13 =>
      Sum.elim (fun y13 =>
        some ((-2 : Int32), v_p1_place)) (fun y13 =>
        some (y13.1, y13.2)) y13)
set_option maxHeartbeats 4000000 in
set_option maxRecDepth 100000 in
theorem wDecoder_decode_64 {p : Program} {l : Launch} {e : Env} {s : State} {m : MethodId} {args : Array Value} {below : List Frame} {meth : Method} {c : Code} {Q : State → Prop} {A : Nat → Prop} {dC : Nat → ClassId} {dI : Nat → Nat → Nat} (h_t h_t_perLength h_t_starts h_t_sorted h_p1 h_p1_from h_p1_from_cells : Nat) (cB cI cJ : ClassId) (N : Nat) (v_t_codes : Int32) (v_t_left : Int32) (v_p1_place : Int32) (v_p1_from_count : Int32) (f_p1_from_cells : Nat → Int32) (f_t_perLength : Nat → Int32) (f_t_sorted : Nat → Int32) (x3 : Int32) (x5 : Int32) (C : CX p s m args c b_Decoder_decode 11 R_Decoder A (dC, dI) [(cB, .byte), (cI, .int), (cJ, .long)]) :
    ∀ (n : Nat) (x4 : Int32) (x6 : Int32) (x7 : Int32) (x8 : Int32) (x9 : Int32) (H : Heap) (locs : List Loc) (ls : Array Slot) (o : (Unit) ⊕ (Int32 × Int32)), va_P (dC, dI) vwCl [(h_t, .inr (3, [.ref h_t_perLength, .ref h_t_starts, .ref h_t_sorted, .int v_t_codes, .int v_t_left])), (h_p1, .inr (1, [.ref h_p1_from, .int v_p1_place])), (h_p1_from, .inr (7, [.ref h_p1_from_cells, .int v_p1_from_count])), (h_p1_from_cells, .inl (cB, 65546, .inl (bf f_p1_from_cells))), (h_t_perLength, .inl (cI, 16, .inl f_t_perLength)), (h_t_sorted, .inl (cI, 288, .inl f_t_sorted))] H → va_D A [(h_t, .inr (3, [.ref h_t_perLength, .ref h_t_starts, .ref h_t_sorted, .int v_t_codes, .int v_t_left])), (h_p1, .inr (1, [.ref h_p1_from, .int v_p1_place])), (h_p1_from, .inr (7, [.ref h_p1_from_cells, .int v_p1_from_count])), (h_p1_from_cells, .inl (cB, 65546, .inl (bf f_p1_from_cells))), (h_t_perLength, .inl (cI, 16, .inl f_t_perLength)), (h_t_sorted, .inl (cI, 288, .inl f_t_sorted))] → va_S A s.heap H locs → lv_has ls 11 [(0, .ref h_t), (1, .ref h_p1), (2, .ref h_p1_from_cells), (3, .int x3), (4, .int x4), (5, .int x5), (6, .int x6), (7, .int x7), (8, .int x8), (9, .int x9)] → fDecoder_decode_64 N v_p1_place x3 x5 f_p1_from_cells f_t_perLength f_t_sorted n x4 x6 x7 x8 x9 = some o → (∀ (H : Heap) (locs : List Loc) (ls : Array Slot), ∀ y9, o = .inl y9 → va_P (dC, dI) vwCl [(h_t, .inr (3, [.ref h_t_perLength, .ref h_t_starts, .ref h_t_sorted, .int v_t_codes, .int v_t_left])), (h_p1, .inr (1, [.ref h_p1_from, .int v_p1_place])), (h_p1_from, .inr (7, [.ref h_p1_from_cells, .int v_p1_from_count])), (h_p1_from_cells, .inl (cB, 65546, .inl (bf f_p1_from_cells))), (h_t_perLength, .inl (cI, 16, .inl f_t_perLength)), (h_t_sorted, .inl (cI, 288, .inl f_t_sorted))] H → va_D A [(h_t, .inr (3, [.ref h_t_perLength, .ref h_t_starts, .ref h_t_sorted, .int v_t_codes, .int v_t_left])), (h_p1, .inr (1, [.ref h_p1_from, .int v_p1_place])), (h_p1_from, .inr (7, [.ref h_p1_from_cells, .int v_p1_from_count])), (h_p1_from_cells, .inl (cB, 65546, .inl (bf f_p1_from_cells))), (h_t_perLength, .inl (cI, 16, .inl f_t_perLength)), (h_t_sorted, .inl (cI, 288, .inl f_t_sorted))] → va_S A s.heap H locs → lv_has ls 11 [] → W p l e ({ frames := 0, cells := 0, slots := 0, locals := 0 } : Room) s m args below meth c H locs 0 0 Q (F0 m 164 ls [])) → (∀ (H : Heap) (locs : List Loc) (ls : Array Slot) (pc9 : Nat), ∀ y9, o = .inr y9 → decode b_Decoder_decode pc9 = .ok (.ireturn, 1) → va_P (dC, dI) vwCl [(h_t, .inr (3, [.ref h_t_perLength, .ref h_t_starts, .ref h_t_sorted, .int v_t_codes, .int v_t_left])), (h_p1, .inr (1, [.ref h_p1_from, .int y9.2])), (h_p1_from, .inr (7, [.ref h_p1_from_cells, .int v_p1_from_count])), (h_p1_from_cells, .inl (cB, 65546, .inl (bf f_p1_from_cells))), (h_t_perLength, .inl (cI, 16, .inl f_t_perLength)), (h_t_sorted, .inl (cI, 288, .inl f_t_sorted))] H → va_D A [(h_t, .inr (3, [.ref h_t_perLength, .ref h_t_starts, .ref h_t_sorted, .int v_t_codes, .int v_t_left])), (h_p1, .inr (1, [.ref h_p1_from, .int y9.2])), (h_p1_from, .inr (7, [.ref h_p1_from_cells, .int v_p1_from_count])), (h_p1_from_cells, .inl (cB, 65546, .inl (bf f_p1_from_cells))), (h_t_perLength, .inl (cI, 16, .inl f_t_perLength)), (h_t_sorted, .inl (cI, 288, .inl f_t_sorted))] → va_S A s.heap H locs → W p l e ({ frames := 0, cells := 0, slots := 0, locals := 0 } : Room) s m args below meth c H locs 0 0 Q (F0 m pc9 ls [.int y9.1])) → W p l e ({ frames := 0, cells := 0, slots := 0, locals := 0 } : Room) s m args below meth c H locs 0 0 Q (F0 m 64 ls []) := by
  obtain ⟨hx, hb, hml, hown, ht, hA, hK, hN⟩ := id C
  intro n
  induction n with
  | zero => intro x4 x6 x7 x8 x9 H locs ls o _ _ _ _ h; exact nomatch h
  | succ k ih =>
    intro x4 x6 x7 x8 x9 H locs ls o hP hD hS hl h kx kr
    refine lv_iload hx hb d_Decoder_decode_64 (lv_at hl 9 rfl) ?_
    refine lv_iload hx hb d_Decoder_decode_66 (lv_at hl 5 rfl) ?_
    refine lv_icmp_gt (tgt := 164) hx hb d_Decoder_decode_68 (by decide) (fun c7 => ?_) (fun c7 => ?_)
    · replace h := ip_p c7 h
      obtain rfl := Option.some.inj h
      exact kx _ _ _ _ rfl hP hD hS (lv_sub hl [] rfl)
    · replace h := ip_n c7 h
      refine lv_iload hx hb d_Decoder_decode_71 (lv_at hl 4 rfl) ?_
      refine lv_iload_n hx hb d_Decoder_decode_73 rfl (lv_at hl 3 rfl) ?_
      refine lv_icmp_lt (tgt := 79) hx hb d_Decoder_decode_74 (by decide) (fun c8 => ?_) (fun c8 => ?_)
      · replace h := ip_p c8 h
        refine lv_iload hx hb d_Decoder_decode_79 (lv_at hl 6 rfl) ?_
        refine lv_iconst (v := (1 : Int32)) hx hb d_Decoder_decode_81 (by decide) ?_
        refine lv_ishl hx hb d_Decoder_decode_82 ?_
        refine lv_aload_n hx hb d_Decoder_decode_83 rfl (lv_at hl 2 rfl) ?_
        refine lv_iload hx hb d_Decoder_decode_84 (lv_at hl 4 rfl) ?_
        refine lv_iconst (v := (3 : Int32)) hx hb d_Decoder_decode_86 (by decide) ?_
        refine lv_ishr hx hb d_Decoder_decode_87 ?_
        obtain ⟨g9, h⟩ := gd h
        refine va_bald (f := bf f_p1_from_cells) hx hb hK hP 3 0 rfl rfl g9 d_Decoder_decode_88 ?_
        refine lv_iload hx hb d_Decoder_decode_89 (lv_at hl 4 rfl) ?_
        refine lv_bipush (v := (7 : Int32)) hx hb d_Decoder_decode_91 (by decide) ?_
        refine lv_iand hx hb d_Decoder_decode_93 ?_
        refine lv_ishr hx hb d_Decoder_decode_94 ?_
        refine lv_iconst (v := (1 : Int32)) hx hb d_Decoder_decode_95 (by decide) ?_
        refine lv_iand hx hb d_Decoder_decode_96 ?_
        refine lv_ior hx hb d_Decoder_decode_97 ?_
        refine lv_istore (lv' := [(6, .int ((x6 <<< ((1 : Int32) &&& 31)) ||| ((((f_p1_from_cells (x4 >>> ((3 : Int32) &&& 31)).toNatClampNeg).toInt8.toInt32) >>> ((x4 &&& (7 : Int32)) &&& 31)) &&& (1 : Int32)))), (0, .ref h_t), (1, .ref h_p1), (2, .ref h_p1_from_cells), (3, .int x3), (4, .int x4), (5, .int x5), (7, .int x7), (8, .int x8), (9, .int x9)]) hx hb d_Decoder_decode_98 hl (by decide) rfl (fun ls hl => ?_)
        refine lv_iinc (v := x4 + (1 : Int32)) (lv' := [(4, .int (x4 + (1 : Int32))), (6, .int ((x6 <<< ((1 : Int32) &&& 31)) ||| ((((f_p1_from_cells (x4 >>> ((3 : Int32) &&& 31)).toNatClampNeg).toInt8.toInt32) >>> ((x4 &&& (7 : Int32)) &&& 31)) &&& (1 : Int32)))), (0, .ref h_t), (1, .ref h_p1), (2, .ref h_p1_from_cells), (3, .int x3), (5, .int x5), (7, .int x7), (8, .int x8), (9, .int x9)]) hx hb d_Decoder_decode_100 hl (k := 5) rfl rfl (by decide) rfl (fun ls hl => ?_)
        refine lv_aload_n hx hb d_Decoder_decode_103 rfl (lv_at hl 2 rfl) ?_
        refine va_get (D := (dC, dI)) (ci := 3) (v := .ref h_t_perLength) (C := R_Decoder) (T := F_Decoder) (N := 5) hx hb ht in_Decoder hown hK hP 0 rfl rfl 0 (by decide) (ht _ k_339) (fun _ h9 => h9) rfl d_Decoder_decode_104 ?_
        refine lv_iload hx hb d_Decoder_decode_107 (lv_at hl 9 rfl) ?_
        obtain ⟨g10, h⟩ := gd h
        refine va_iald hx hb hK hP 4 1 rfl rfl g10 d_Decoder_decode_109 ?_
        refine lv_istore (lv' := [(10, .int (f_t_perLength x9.toNatClampNeg)), (4, .int (x4 + (1 : Int32))), (6, .int ((x6 <<< ((1 : Int32) &&& 31)) ||| ((((f_p1_from_cells (x4 >>> ((3 : Int32) &&& 31)).toNatClampNeg).toInt8.toInt32) >>> ((x4 &&& (7 : Int32)) &&& 31)) &&& (1 : Int32)))), (0, .ref h_t), (1, .ref h_p1), (2, .ref h_p1_from_cells), (3, .int x3), (5, .int x5), (7, .int x7), (8, .int x8), (9, .int x9)]) hx hb d_Decoder_decode_110 hl (by decide) rfl (fun ls hl => ?_)
        refine lv_iload hx hb d_Decoder_decode_112 (lv_at hl 2 rfl) ?_
        refine lv_iload hx hb d_Decoder_decode_114 (lv_at hl 8 rfl) ?_
        refine lv_isub hx hb d_Decoder_decode_116 ?_
        refine lv_iload hx hb d_Decoder_decode_117 (lv_at hl 0 rfl) ?_
        refine lv_icmp_ge (tgt := 142) hx hb d_Decoder_decode_119 (by decide) (fun c11 => ?_) (fun c11 => ?_)
        · replace h := ip_p c11 h
          refine lv_iload hx hb d_Decoder_decode_142 (lv_at hl 9 rfl) ?_
          refine lv_iload hx hb d_Decoder_decode_144 (lv_at hl 0 rfl) ?_
          refine lv_iadd hx hb d_Decoder_decode_146 ?_
          refine lv_istore (lv' := [(8, .int (x8 + (f_t_perLength x9.toNatClampNeg))), (10, .int (f_t_perLength x9.toNatClampNeg)), (4, .int (x4 + (1 : Int32))), (6, .int ((x6 <<< ((1 : Int32) &&& 31)) ||| ((((f_p1_from_cells (x4 >>> ((3 : Int32) &&& 31)).toNatClampNeg).toInt8.toInt32) >>> ((x4 &&& (7 : Int32)) &&& 31)) &&& (1 : Int32)))), (0, .ref h_t), (1, .ref h_p1), (2, .ref h_p1_from_cells), (3, .int x3), (5, .int x5), (7, .int x7), (9, .int x9)]) hx hb d_Decoder_decode_147 hl (by decide) rfl (fun ls hl => ?_)
          refine lv_iload hx hb d_Decoder_decode_149 (lv_at hl 9 rfl) ?_
          refine lv_iload hx hb d_Decoder_decode_151 (lv_at hl 1 rfl) ?_
          refine lv_iadd hx hb d_Decoder_decode_153 ?_
          refine lv_iconst (v := (1 : Int32)) hx hb d_Decoder_decode_154 (by decide) ?_
          refine lv_ishl hx hb d_Decoder_decode_155 ?_
          refine lv_istore (lv' := [(7, .int ((x7 + (f_t_perLength x9.toNatClampNeg)) <<< ((1 : Int32) &&& 31))), (8, .int (x8 + (f_t_perLength x9.toNatClampNeg))), (10, .int (f_t_perLength x9.toNatClampNeg)), (4, .int (x4 + (1 : Int32))), (6, .int ((x6 <<< ((1 : Int32) &&& 31)) ||| ((((f_p1_from_cells (x4 >>> ((3 : Int32) &&& 31)).toNatClampNeg).toInt8.toInt32) >>> ((x4 &&& (7 : Int32)) &&& 31)) &&& (1 : Int32)))), (0, .ref h_t), (1, .ref h_p1), (2, .ref h_p1_from_cells), (3, .int x3), (5, .int x5), (9, .int x9)]) hx hb d_Decoder_decode_156 hl (by decide) rfl (fun ls hl => ?_)
          refine lv_iinc (v := x9 + (1 : Int32)) (lv' := [(9, .int (x9 + (1 : Int32))), (7, .int ((x7 + (f_t_perLength x9.toNatClampNeg)) <<< ((1 : Int32) &&& 31))), (8, .int (x8 + (f_t_perLength x9.toNatClampNeg))), (10, .int (f_t_perLength x9.toNatClampNeg)), (4, .int (x4 + (1 : Int32))), (6, .int ((x6 <<< ((1 : Int32) &&& 31)) ||| ((((f_p1_from_cells (x4 >>> ((3 : Int32) &&& 31)).toNatClampNeg).toInt8.toInt32) >>> ((x4 &&& (7 : Int32)) &&& 31)) &&& (1 : Int32)))), (0, .ref h_t), (1, .ref h_p1), (2, .ref h_p1_from_cells), (3, .int x3), (5, .int x5)]) hx hb d_Decoder_decode_158 hl (k := 10) rfl rfl (by decide) rfl (fun ls hl => ?_)
          refine lv_goto (tgt := 64) hx hb d_Decoder_decode_161 (by decide) ?_
          exact ih (x4 + (1 : Int32)) ((x6 <<< ((1 : Int32) &&& 31)) ||| ((((f_p1_from_cells (x4 >>> ((3 : Int32) &&& 31)).toNatClampNeg).toInt8.toInt32) >>> ((x4 &&& (7 : Int32)) &&& 31)) &&& (1 : Int32))) ((x7 + (f_t_perLength x9.toNatClampNeg)) <<< ((1 : Int32) &&& 31)) (x8 + (f_t_perLength x9.toNatClampNeg)) (x9 + (1 : Int32)) _ _ _ _ hP hD hS (lv_sub hl [6, 7, 8, 9, 4, 10, 5, 1, 2, 0] rfl) h kx kr
        · replace h := ip_n c11 h
          refine lv_aload_n hx hb d_Decoder_decode_122 rfl (lv_at hl 4 rfl) ?_
          refine lv_iload hx hb d_Decoder_decode_123 (lv_at hl 1 rfl) ?_
          refine va_put (D := (dC, dI)) (ci := 1) (v := .int (x4 + (1 : Int32))) (ty := .int) (C := R_BitSource) (T := F_BitSource) (N := 2) hx hb ht in_BitSource t_BitSource t_BitSource_ok n_BitSource hown hK hP hD hS 1 rfl rfl 1 (by decide) (ht _ k_365) (fun _ h9 => h9) rfl (by decide +kernel) rfl rfl (Nat.le_of_ble_eq_true rfl) d_Decoder_decode_125 (fun H locs hP hD hS => ?_)
          have hP : va_P (dC, dI) vwCl [(h_t, .inr (3, [.ref h_t_perLength, .ref h_t_starts, .ref h_t_sorted, .int v_t_codes, .int v_t_left])), (h_p1, .inr (1, [.ref h_p1_from, .int (x4 + (1 : Int32))])), (h_p1_from, .inr (7, [.ref h_p1_from_cells, .int v_p1_from_count])), (h_p1_from_cells, .inl (cB, 65546, .inl (bf f_p1_from_cells))), (h_t_perLength, .inl (cI, 16, .inl f_t_perLength)), (h_t_sorted, .inl (cI, 288, .inl f_t_sorted))] H := hP
          have hD : va_D A [(h_t, .inr (3, [.ref h_t_perLength, .ref h_t_starts, .ref h_t_sorted, .int v_t_codes, .int v_t_left])), (h_p1, .inr (1, [.ref h_p1_from, .int (x4 + (1 : Int32))])), (h_p1_from, .inr (7, [.ref h_p1_from_cells, .int v_p1_from_count])), (h_p1_from_cells, .inl (cB, 65546, .inl (bf f_p1_from_cells))), (h_t_perLength, .inl (cI, 16, .inl f_t_perLength)), (h_t_sorted, .inl (cI, 288, .inl f_t_sorted))] := hD
          refine lv_aload_n hx hb d_Decoder_decode_128 rfl (lv_at hl 3 rfl) ?_
          refine va_get (D := (dC, dI)) (ci := 3) (v := .ref h_t_sorted) (C := R_Decoder) (T := F_Decoder) (N := 5) hx hb ht in_Decoder hown hK hP 0 rfl rfl 2 (by decide) (ht _ k_341) (fun _ h9 => h9) rfl d_Decoder_decode_129 ?_
          refine lv_iload hx hb d_Decoder_decode_132 (lv_at hl 9 rfl) ?_
          refine lv_iload hx hb d_Decoder_decode_134 (lv_at hl 2 rfl) ?_
          refine lv_iadd hx hb d_Decoder_decode_136 ?_
          refine lv_iload hx hb d_Decoder_decode_137 (lv_at hl 8 rfl) ?_
          refine lv_isub hx hb d_Decoder_decode_139 ?_
          obtain ⟨g12, h⟩ := gd h
          refine va_iald hx hb hK hP 5 1 rfl rfl g12 d_Decoder_decode_140 ?_
          obtain rfl := Option.some.inj h
          exact kr _ _ _ _ _ rfl d_Decoder_decode_141 hP hD hS
      · replace h := ip_n c8 h
        refine lv_iconst (v := (-1 : Int32)) hx hb d_Decoder_decode_77 (by decide) ?_
        obtain rfl := Option.some.inj h
        exact kr _ _ _ _ _ rfl d_Decoder_decode_78 hP hD hS
set_option maxHeartbeats 4000000 in
set_option maxRecDepth 100000 in
theorem cDecoder_decode (l : Launch) (dC : Nat → ClassId) (dI : Nat → Nat → Nat) (h_t h_t_perLength h_t_starts h_t_sorted h_p1 h_p1_from h_p1_from_cells : Nat) (cB cI cJ : ClassId) (sz : Nat) (N : Nat) (v_t_codes : Int32) (v_t_left : Int32) (v_p1_place : Int32) (v_p1_from_count : Int32) (f_p1_from_cells : Nat → Int32) (f_t_perLength : Nat → Int32) (f_t_sorted : Nat → Int32) (o : Int32 × Int32) (h : fDecoder_decode N v_t_codes v_p1_place v_p1_from_count f_p1_from_cells f_t_perLength f_t_sorted = some o) : Met l y_Decoder_decode w_Decoder_decode ({ frames := 0, cells := 0, slots := 0, locals := 0 } : Room) (va_Pc [.ref h_t, .ref h_p1] (fun U => U.heap.size = sz ∧ va_P (dC, dI) vwCl [(h_t, .inr (3, [.ref h_t_perLength, .ref h_t_starts, .ref h_t_sorted, .int v_t_codes, .int v_t_left])), (h_p1, .inr (1, [.ref h_p1_from, .int v_p1_place])), (h_p1_from, .inr (7, [.ref h_p1_from_cells, .int v_p1_from_count])), (h_p1_from_cells, .inl (cB, 65546, .inl (bf f_p1_from_cells))), (h_t_perLength, .inl (cI, 16, .inl f_t_perLength)), (h_t_sorted, .inl (cI, 288, .inl f_t_sorted))] U.heap ∧ va_K (dC, dI) vwCl [(cB, .byte), (cI, .int), (cJ, .long)] U ∧ va_D (fun _ => True) [(h_t, .inr (3, [.ref h_t_perLength, .ref h_t_starts, .ref h_t_sorted, .int v_t_codes, .int v_t_left])), (h_p1, .inr (1, [.ref h_p1_from, .int v_p1_place])), (h_p1_from, .inr (7, [.ref h_p1_from_cells, .int v_p1_from_count])), (h_p1_from_cells, .inl (cB, 65546, .inl (bf f_p1_from_cells))), (h_t_perLength, .inl (cI, 16, .inl f_t_perLength)), (h_t_sorted, .inl (cI, 288, .inl f_t_sorted))] ∧ NW U)) (va_Qi (fun r (_ : Unit) => r = o.1) (fun _ t => va_P (dC, dI) vwCl [(h_t, .inr (3, [.ref h_t_perLength, .ref h_t_starts, .ref h_t_sorted, .int v_t_codes, .int v_t_left])), (h_p1, .inr (1, [.ref h_p1_from, .int o.2])), (h_p1_from, .inr (7, [.ref h_p1_from_cells, .int v_p1_from_count])), (h_p1_from_cells, .inl (cB, 65546, .inl (bf f_p1_from_cells))), (h_t_perLength, .inl (cI, 16, .inl f_t_perLength)), (h_t_sorted, .inl (cI, 288, .inl f_t_sorted))] t.heap ∧ va_K (dC, dI) vwCl [(cB, .byte), (cI, .int), (cJ, .long)] t ∧ va_D (va_A [(h_t, .inr (3, [.ref h_t_perLength, .ref h_t_starts, .ref h_t_sorted, .int v_t_codes, .int v_t_left])), (h_p1, .inr (1, [.ref h_p1_from, .int v_p1_place])), (h_p1_from, .inr (7, [.ref h_p1_from_cells, .int v_p1_from_count])), (h_p1_from_cells, .inl (cB, 65546, .inl (bf f_p1_from_cells))), (h_t_perLength, .inl (cI, 16, .inl f_t_perLength)), (h_t_sorted, .inl (cI, 288, .inl f_t_sorted))] sz) [(h_t, .inr (3, [.ref h_t_perLength, .ref h_t_starts, .ref h_t_sorted, .int v_t_codes, .int v_t_left])), (h_p1, .inr (1, [.ref h_p1_from, .int o.2])), (h_p1_from, .inr (7, [.ref h_p1_from_cells, .int v_p1_from_count])), (h_p1_from_cells, .inl (cB, 65546, .inl (bf f_p1_from_cells))), (h_t_perLength, .inl (cI, 16, .inl f_t_perLength)), (h_t_sorted, .inl (cI, 288, .inl f_t_sorted))]) (va_A [(h_t, .inr (3, [.ref h_t_perLength, .ref h_t_starts, .ref h_t_sorted, .int v_t_codes, .int v_t_left])), (h_p1, .inr (1, [.ref h_p1_from, .int v_p1_place])), (h_p1_from, .inr (7, [.ref h_p1_from_cells, .int v_p1_from_count])), (h_p1_from_cells, .inl (cB, 65546, .inl (bf f_p1_from_cells))), (h_t_perLength, .inl (cI, 16, .inl f_t_perLength)), (h_t_sorted, .inl (cI, 288, .inl f_t_sorted))] sz)) 0 0 (va_A [(h_t, .inr (3, [.ref h_t_perLength, .ref h_t_starts, .ref h_t_sorted, .int v_t_codes, .int v_t_left])), (h_p1, .inr (1, [.ref h_p1_from, .int v_p1_place])), (h_p1_from, .inr (7, [.ref h_p1_from_cells, .int v_p1_from_count])), (h_p1_from_cells, .inl (cB, 65546, .inl (bf f_p1_from_cells))), (h_t_perLength, .inl (cI, 16, .inl f_t_perLength)), (h_t_sorted, .inl (cI, 288, .inl f_t_sorted))] sz) := by
  refine Met.ofW (cc := b_Decoder_decode) (maxL := 11) (ret := (some .int)) (by decide) rfl ?_
  intro p e s m args below meth c s₁ B hml hv
  obtain ⟨rfl, hsz, hP, hK, hD0, hN⟩ := hv
  have hx := B.exec
  have hb := B.bytes
  have hr := B.returns
  have hts := atoms_spec (ws := w_Decoder_decode) B.pre
  have ht : ∀ w ∈ TB, w.before ([.ref h_t, .ref h_p1]).toArray s = true := fun w h => hts w (List.mem_cons_of_mem _ h)
  have hown : s.vm.findClass R_Decoder = some m.cls := findClass_of_methodNamed B.named
  have hlocks := B.notSynchronized
  subst hsz
  have hD := hD0.self (sz := s.heap.size)
  generalize hAe : va_A [(h_t, .inr (3, [.ref h_t_perLength, .ref h_t_starts, .ref h_t_sorted, .int v_t_codes, .int v_t_left])), (h_p1, .inr (1, [.ref h_p1_from, .int v_p1_place])), (h_p1_from, .inr (7, [.ref h_p1_from_cells, .int v_p1_from_count])), (h_p1_from_cells, .inl (cB, 65546, .inl (bf f_p1_from_cells))), (h_t_perLength, .inl (cI, 16, .inl f_t_perLength)), (h_t_sorted, .inl (cI, 288, .inl f_t_sorted))] s.heap.size = A at hD ⊢
  have hA : ∀ q : Nat, s.heap.size ≤ q → A q := fun q h => by rw [← hAe]; exact Or.inr h
  have hS : va_S A s.heap s.heap [] := va_S.rf
  have hP : va_P (dC, dI) vwCl [(h_t, .inr (3, [.ref h_t_perLength, .ref h_t_starts, .ref h_t_sorted, .int v_t_codes, .int v_t_left])), (h_p1, .inr (1, [.ref h_p1_from, .int v_p1_place])), (h_p1_from, .inr (7, [.ref h_p1_from_cells, .int v_p1_from_count])), (h_p1_from_cells, .inl (cB, 65546, .inl (bf f_p1_from_cells))), (h_t_perLength, .inl (cI, 16, .inl f_t_perLength)), (h_t_sorted, .inl (cI, 288, .inl f_t_sorted))] s.heap := hP
  have C : CX p s m ([.ref h_t, .ref h_p1]).toArray c b_Decoder_decode 11 R_Decoder A (dC, dI) [(cB, .byte), (cI, .int), (cJ, .long)] := ⟨hx, hb, hml, hown, ht, hA, hK, hN⟩
  have hl := lv_entry ([.ref h_t, .ref h_p1]) (n := 11) (Nat.le_of_ble_eq_true rfl)
  rw [lg_entry_eq]
  generalize (lg_sl ([.ref h_t, .ref h_p1]) ++ List.replicate (11 - (lg_sl ([.ref h_t, .ref h_p1])).length) Slot.unset).toArray = ls at hl ⊢
  have hl : lv_has ls 11 [(0, .ref h_t), (1, .ref h_p1)] := hl
  refine lv_aload_n hx hb d_Decoder_decode_0 rfl (lv_at hl 1 rfl) ?_
  refine va_get (D := (dC, dI)) (ci := 1) (v := .ref h_p1_from) (C := R_BitSource) (T := F_BitSource) (N := 2) hx hb ht in_BitSource hown hK hP 1 rfl rfl 0 (by decide) (ht _ k_362) (fun _ h9 => h9) rfl d_Decoder_decode_1 ?_
  refine va_get (D := (dC, dI)) (ci := 7) (v := .ref h_p1_from_cells) (C := R_Row) (T := F_Row) (N := 2) hx hb ht in_Row hown hK hP 2 rfl rfl 0 (by decide) (ht _ k_104) (fun _ h9 => h9) rfl d_Decoder_decode_4 ?_
  refine lv_astore_n (lv' := [(2, .ref h_p1_from_cells), (0, .ref h_t), (1, .ref h_p1)]) hx hb d_Decoder_decode_7 rfl hl (by decide) rfl (fun ls hl => ?_)
  refine lv_aload_n hx hb d_Decoder_decode_8 rfl (lv_at hl 2 rfl) ?_
  refine va_get (D := (dC, dI)) (ci := 1) (v := .ref h_p1_from) (C := R_BitSource) (T := F_BitSource) (N := 2) hx hb ht in_BitSource hown hK hP 1 rfl rfl 0 (by decide) (ht _ k_362) (fun _ h9 => h9) rfl d_Decoder_decode_9 ?_
  refine va_get (D := (dC, dI)) (ci := 7) (v := .int v_p1_from_count) (C := R_Row) (T := F_Row) (N := 2) hx hb ht in_Row hown hK hP 2 rfl rfl 1 (by decide) (ht _ k_112) (fun _ h9 => h9) rfl d_Decoder_decode_12 ?_
  refine lv_bipush (v := (8 : Int32)) hx hb d_Decoder_decode_15 (by decide) ?_
  refine lv_imul hx hb d_Decoder_decode_17 ?_
  refine lv_istore_n (lv' := [(3, .int (v_p1_from_count * (8 : Int32))), (2, .ref h_p1_from_cells), (0, .ref h_t), (1, .ref h_p1)]) hx hb d_Decoder_decode_18 rfl hl (by decide) rfl (fun ls hl => ?_)
  refine lv_aload_n hx hb d_Decoder_decode_19 rfl (lv_at hl 3 rfl) ?_
  refine va_get (D := (dC, dI)) (ci := 1) (v := .int v_p1_place) (C := R_BitSource) (T := F_BitSource) (N := 2) hx hb ht in_BitSource hown hK hP 1 rfl rfl 1 (by decide) (ht _ k_365) (fun _ h9 => h9) rfl d_Decoder_decode_20 ?_
  refine lv_istore (lv' := [(4, .int v_p1_place), (3, .int (v_p1_from_count * (8 : Int32))), (2, .ref h_p1_from_cells), (0, .ref h_t), (1, .ref h_p1)]) hx hb d_Decoder_decode_23 hl (by decide) rfl (fun ls hl => ?_)
  refine lv_aload_n hx hb d_Decoder_decode_25 rfl (lv_at hl 3 rfl) ?_
  refine va_get (D := (dC, dI)) (ci := 3) (v := .int v_t_codes) (C := R_Decoder) (T := F_Decoder) (N := 5) hx hb ht in_Decoder hown hK hP 0 rfl rfl 3 (by decide) (ht _ k_342) (fun _ h9 => h9) rfl d_Decoder_decode_26 ?_
  refine lv_tern (J := 50) (cd := v_t_codes = 0) (a := (0 : Int32)) (b := (if v_t_codes = (1 : Int32) then (1 : Int32) else (15 : Int32))) (rest := []) (fun k5 k6 => ?_) ?_
  · refine lv_if_ne (tgt := 36) hx hb d_Decoder_decode_29 (by decide) (fun c1 => ?_) (fun c1 => ?_)
    · refine lv_aload_n hx hb d_Decoder_decode_36 rfl (lv_at hl 3 rfl) ?_
      refine va_get (D := (dC, dI)) (ci := 3) (v := .int v_t_codes) (C := R_Decoder) (T := F_Decoder) (N := 5) hx hb ht in_Decoder hown hK hP 0 rfl rfl 3 (by decide) (ht _ k_342) (fun _ h9 => h9) rfl d_Decoder_decode_37 ?_
      refine lv_iconst (v := (1 : Int32)) hx hb d_Decoder_decode_40 (by decide) ?_
      refine lv_tern (J := 50) (cd := v_t_codes = (1 : Int32)) (a := (1 : Int32)) (b := (15 : Int32)) (rest := []) (fun k3 k4 => ?_) ?_
      · refine lv_icmp_ne (tgt := 48) hx hb d_Decoder_decode_41 (by decide) (fun c2 => ?_) (fun c2 => ?_)
        · refine lv_bipush (v := (15 : Int32)) hx hb d_Decoder_decode_48 (by decide) ?_
          exact k4 c2
        · refine lv_iconst (v := (1 : Int32)) hx hb d_Decoder_decode_44 (by decide) ?_
          refine lv_goto (tgt := 50) hx hb d_Decoder_decode_45 (by decide) ?_
          exact k3 c2
      exact k6 c1
    · refine lv_iconst (v := (0 : Int32)) hx hb d_Decoder_decode_32 (by decide) ?_
      refine lv_goto (tgt := 50) hx hb d_Decoder_decode_33 (by decide) ?_
      exact k5 c1
  refine lv_istore (lv' := [(5, .int (if v_t_codes = 0 then (0 : Int32) else (if v_t_codes = (1 : Int32) then (1 : Int32) else (15 : Int32)))), (4, .int v_p1_place), (3, .int (v_p1_from_count * (8 : Int32))), (2, .ref h_p1_from_cells), (0, .ref h_t), (1, .ref h_p1)]) hx hb d_Decoder_decode_50 hl (by decide) rfl (fun ls hl => ?_)
  refine lv_iconst (v := (0 : Int32)) hx hb d_Decoder_decode_52 (by decide) ?_
  refine lv_istore (lv' := [(6, .int (0 : Int32)), (5, .int (if v_t_codes = 0 then (0 : Int32) else (if v_t_codes = (1 : Int32) then (1 : Int32) else (15 : Int32)))), (4, .int v_p1_place), (3, .int (v_p1_from_count * (8 : Int32))), (2, .ref h_p1_from_cells), (0, .ref h_t), (1, .ref h_p1)]) hx hb d_Decoder_decode_53 hl (by decide) rfl (fun ls hl => ?_)
  refine lv_iconst (v := (0 : Int32)) hx hb d_Decoder_decode_55 (by decide) ?_
  refine lv_istore (lv' := [(7, .int (0 : Int32)), (6, .int (0 : Int32)), (5, .int (if v_t_codes = 0 then (0 : Int32) else (if v_t_codes = (1 : Int32) then (1 : Int32) else (15 : Int32)))), (4, .int v_p1_place), (3, .int (v_p1_from_count * (8 : Int32))), (2, .ref h_p1_from_cells), (0, .ref h_t), (1, .ref h_p1)]) hx hb d_Decoder_decode_56 hl (by decide) rfl (fun ls hl => ?_)
  refine lv_iconst (v := (0 : Int32)) hx hb d_Decoder_decode_58 (by decide) ?_
  refine lv_istore (lv' := [(8, .int (0 : Int32)), (7, .int (0 : Int32)), (6, .int (0 : Int32)), (5, .int (if v_t_codes = 0 then (0 : Int32) else (if v_t_codes = (1 : Int32) then (1 : Int32) else (15 : Int32)))), (4, .int v_p1_place), (3, .int (v_p1_from_count * (8 : Int32))), (2, .ref h_p1_from_cells), (0, .ref h_t), (1, .ref h_p1)]) hx hb d_Decoder_decode_59 hl (by decide) rfl (fun ls hl => ?_)
  refine lv_iconst (v := (1 : Int32)) hx hb d_Decoder_decode_61 (by decide) ?_
  refine lv_istore (lv' := [(9, .int (1 : Int32)), (8, .int (0 : Int32)), (7, .int (0 : Int32)), (6, .int (0 : Int32)), (5, .int (if v_t_codes = 0 then (0 : Int32) else (if v_t_codes = (1 : Int32) then (1 : Int32) else (15 : Int32)))), (4, .int v_p1_place), (3, .int (v_p1_from_count * (8 : Int32))), (2, .ref h_p1_from_cells), (0, .ref h_t), (1, .ref h_p1)]) hx hb d_Decoder_decode_62 hl (by decide) rfl (fun ls hl => ?_)
  obtain ⟨y13, hy13, h⟩ := bd h
  rcases y13 with y13 | y13
  · replace h := se_l h
    refine wDecoder_decode_64 h_t h_t_perLength h_t_starts h_t_sorted h_p1 h_p1_from h_p1_from_cells cB cI cJ N v_t_codes v_t_left v_p1_place v_p1_from_count f_p1_from_cells f_t_perLength f_t_sorted (v_p1_from_count * (8 : Int32)) (if v_t_codes = 0 then (0 : Int32) else (if v_t_codes = (1 : Int32) then (1 : Int32) else (15 : Int32))) C N v_p1_place (0 : Int32) (0 : Int32) (0 : Int32) (1 : Int32) _ _ _ _ hP hD hS (lv_sub hl [8, 9, 7, 6, 5, 4, 3, 2, 1, 0] rfl) hy13 (fun H locs ls y9 e9 hP hD hS hl => ?_) (fun H locs ls pc9 y9 e9 => nomatch e9)
    cases e9
    refine lv_bipush (v := (-2 : Int32)) hx hb d_Decoder_decode_164 (by decide) ?_
    obtain rfl := Option.some.inj h
    exact W.iret (v := (-2 : Int32)) hx hb hr (fun t ht hW => ⟨⟨_, (), rfl, rfl, by rw [ht]; exact hP, va_K.moved hW.alike hK, hD⟩, hS.F ht⟩) hS.2.2 d_Decoder_decode_166
  · replace h := se_r h
    refine wDecoder_decode_64 h_t h_t_perLength h_t_starts h_t_sorted h_p1 h_p1_from h_p1_from_cells cB cI cJ N v_t_codes v_t_left v_p1_place v_p1_from_count f_p1_from_cells f_t_perLength f_t_sorted (v_p1_from_count * (8 : Int32)) (if v_t_codes = 0 then (0 : Int32) else (if v_t_codes = (1 : Int32) then (1 : Int32) else (15 : Int32))) C N v_p1_place (0 : Int32) (0 : Int32) (0 : Int32) (1 : Int32) _ _ _ _ hP hD hS (lv_sub hl [8, 9, 7, 6, 5, 4, 3, 2, 1, 0] rfl) hy13 (fun H locs ls y9 e9 => nomatch e9) (fun H locs ls pc9 y9 e9 hd9 hP hD hS => ?_)
    cases e9
    obtain rfl := Option.some.inj h
    exact W.iret (v := y13.1) hx hb hr (fun t ht hW => ⟨⟨_, (), rfl, rfl, by rw [ht]; exact hP, va_K.moved hW.alike hK, hD⟩, hS.F ht⟩) hS.2.2 hd9
