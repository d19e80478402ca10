theorem d_Mo_thrown_0 : decode b_Mo_thrown 0 = .ok (.aload_n 0, 1) := by decide +kernel
theorem d_Mo_thrown_1 : decode b_Mo_thrown 1 = .ok (.getfield 83, 3) := by decide +kernel
theorem d_Mo_thrown_4 : decode b_Mo_thrown 4 = .ok (.ireturn, 1) := by decide +kernel
theorem d_Mo_feed_0 : decode b_Mo_feed 0 = .ok (.aload_n 0, 1) := by decide +kernel
theorem d_Mo_feed_1 : decode b_Mo_feed 1 = .ok (.aload_n 0, 1) := by decide +kernel
theorem d_Mo_feed_2 : decode b_Mo_feed 2 = .ok (.getfield 87, 3) := by decide +kernel
theorem d_Mo_feed_5 : decode b_Mo_feed 5 = .ok (.bipush 20, 2) := by decide +kernel
theorem d_Mo_feed_7 : decode b_Mo_feed 7 = .ok (.iadd, 1) := by decide +kernel
theorem d_Mo_feed_8 : decode b_Mo_feed 8 = .ok (.ldc 7, 2) := by decide +kernel
theorem d_Mo_feed_10 : decode b_Mo_feed 10 = .ok (.if_icmp .le 7, 3) := by decide +kernel
theorem d_Mo_feed_13 : decode b_Mo_feed 13 = .ok (.iconst 1, 1) := by decide +kernel
theorem d_Mo_feed_14 : decode b_Mo_feed 14 = .ok (.goto 4, 3) := by decide +kernel
theorem d_Mo_feed_17 : decode b_Mo_feed 17 = .ok (.iconst 0, 1) := by decide +kernel
theorem d_Mo_feed_18 : decode b_Mo_feed 18 = .ok (.putfield 83, 3) := by decide +kernel
theorem d_Mo_feed_21 : decode b_Mo_feed 21 = .ok (.aload_n 0, 1) := by decide +kernel
theorem d_Mo_feed_22 : decode b_Mo_feed 22 = .ok (.getfield 83, 3) := by decide +kernel
theorem d_Mo_feed_25 : decode b_Mo_feed 25 = .ok (.ifCond .le 4, 3) := by decide +kernel
theorem d_Mo_feed_28 : decode b_Mo_feed 28 = .ok (.return_, 1) := by decide +kernel
theorem d_Mo_feed_29 : decode b_Mo_feed 29 = .ok (.iconst 0, 1) := by decide +kernel
theorem d_Mo_feed_30 : decode b_Mo_feed 30 = .ok (.istore 6, 2) := by decide +kernel
theorem d_Mo_feed_32 : decode b_Mo_feed 32 = .ok (.iload 6, 2) := by decide +kernel
theorem d_Mo_feed_34 : decode b_Mo_feed 34 = .ok (.bipush 20, 2) := by decide +kernel
theorem d_Mo_feed_36 : decode b_Mo_feed 36 = .ok (.if_icmp .ge 83, 3) := by decide +kernel
theorem d_Mo_feed_39 : decode b_Mo_feed 39 = .ok (.iload 6, 2) := by decide +kernel
theorem d_Mo_feed_41 : decode b_Mo_feed 41 = .ok (.iconst 4, 1) := by decide +kernel
theorem d_Mo_feed_42 : decode b_Mo_feed 42 = .ok (.if_icmp .ge 7, 3) := by decide +kernel
theorem d_Mo_feed_45 : decode b_Mo_feed 45 = .ok (.iload_n 1, 1) := by decide +kernel
theorem d_Mo_feed_46 : decode b_Mo_feed 46 = .ok (.goto 39, 3) := by decide +kernel
theorem d_Mo_feed_49 : decode b_Mo_feed 49 = .ok (.iload 6, 2) := by decide +kernel
theorem d_Mo_feed_51 : decode b_Mo_feed 51 = .ok (.bipush 8, 2) := by decide +kernel
theorem d_Mo_feed_53 : decode b_Mo_feed 53 = .ok (.if_icmp .ge 7, 3) := by decide +kernel
theorem d_Mo_feed_56 : decode b_Mo_feed 56 = .ok (.iload_n 2, 1) := by decide +kernel
theorem d_Mo_feed_57 : decode b_Mo_feed 57 = .ok (.goto 28, 3) := by decide +kernel
theorem d_Mo_feed_60 : decode b_Mo_feed 60 = .ok (.iload 6, 2) := by decide +kernel
theorem d_Mo_feed_62 : decode b_Mo_feed 62 = .ok (.bipush 12, 2) := by decide +kernel
theorem d_Mo_feed_64 : decode b_Mo_feed 64 = .ok (.if_icmp .ge 7, 3) := by decide +kernel
theorem d_Mo_feed_67 : decode b_Mo_feed 67 = .ok (.iload_n 3, 1) := by decide +kernel
theorem d_Mo_feed_68 : decode b_Mo_feed 68 = .ok (.goto 17, 3) := by decide +kernel
theorem d_Mo_feed_71 : decode b_Mo_feed 71 = .ok (.iload 6, 2) := by decide +kernel
theorem d_Mo_feed_73 : decode b_Mo_feed 73 = .ok (.bipush 16, 2) := by decide +kernel
theorem d_Mo_feed_75 : decode b_Mo_feed 75 = .ok (.if_icmp .ge 8, 3) := by decide +kernel
theorem d_Mo_feed_78 : decode b_Mo_feed 78 = .ok (.iload 4, 2) := by decide +kernel
theorem d_Mo_feed_80 : decode b_Mo_feed 80 = .ok (.goto 5, 3) := by decide +kernel
theorem d_Mo_feed_83 : decode b_Mo_feed 83 = .ok (.iload 5, 2) := by decide +kernel
theorem d_Mo_feed_85 : decode b_Mo_feed 85 = .ok (.istore 7, 2) := by decide +kernel
theorem d_Mo_feed_87 : decode b_Mo_feed 87 = .ok (.aload_n 0, 1) := by decide +kernel
theorem d_Mo_feed_88 : decode b_Mo_feed 88 = .ok (.getfield 8, 3) := by decide +kernel
theorem d_Mo_feed_91 : decode b_Mo_feed 91 = .ok (.aload_n 0, 1) := by decide +kernel
theorem d_Mo_feed_92 : decode b_Mo_feed 92 = .ok (.getfield 87, 3) := by decide +kernel
theorem d_Mo_feed_95 : decode b_Mo_feed 95 = .ok (.iload 6, 2) := by decide +kernel
theorem d_Mo_feed_97 : decode b_Mo_feed 97 = .ok (.iadd, 1) := by decide +kernel
theorem d_Mo_feed_98 : decode b_Mo_feed 98 = .ok (.iload 7, 2) := by decide +kernel
theorem d_Mo_feed_100 : decode b_Mo_feed 100 = .ok (.bipush 24, 2) := by decide +kernel
theorem d_Mo_feed_102 : decode b_Mo_feed 102 = .ok (.bipush 8, 2) := by decide +kernel
theorem d_Mo_feed_104 : decode b_Mo_feed 104 = .ok (.iload 6, 2) := by decide +kernel
theorem d_Mo_feed_106 : decode b_Mo_feed 106 = .ok (.iconst 4, 1) := by decide +kernel
theorem d_Mo_feed_107 : decode b_Mo_feed 107 = .ok (.irem, 1) := by decide +kernel
theorem d_Mo_feed_108 : decode b_Mo_feed 108 = .ok (.imul, 1) := by decide +kernel
theorem d_Mo_feed_109 : decode b_Mo_feed 109 = .ok (.isub, 1) := by decide +kernel
theorem d_Mo_feed_110 : decode b_Mo_feed 110 = .ok (.ishr, 1) := by decide +kernel
theorem d_Mo_feed_111 : decode b_Mo_feed 111 = .ok (.i2b, 1) := by decide +kernel
theorem d_Mo_feed_112 : decode b_Mo_feed 112 = .ok (.bastore, 1) := by decide +kernel
theorem d_Mo_feed_113 : decode b_Mo_feed 113 = .ok (.iinc 6 1, 3) := by decide +kernel
theorem d_Mo_feed_116 : decode b_Mo_feed 116 = .ok (.goto (-84), 3) := by decide +kernel
theorem d_Mo_feed_119 : decode b_Mo_feed 119 = .ok (.aload_n 0, 1) := by decide +kernel
theorem d_Mo_feed_120 : decode b_Mo_feed 120 = .ok (.aload_n 0, 1) := by decide +kernel
theorem d_Mo_feed_121 : decode b_Mo_feed 121 = .ok (.getfield 87, 3) := by decide +kernel
theorem d_Mo_feed_124 : decode b_Mo_feed 124 = .ok (.bipush 20, 2) := by decide +kernel
theorem d_Mo_feed_126 : decode b_Mo_feed 126 = .ok (.iadd, 1) := by decide +kernel
theorem d_Mo_feed_127 : decode b_Mo_feed 127 = .ok (.putfield 87, 3) := by decide +kernel
theorem d_Mo_feed_130 : decode b_Mo_feed 130 = .ok (.return_, 1) := by decide +kernel
theorem d_Mo_end_0 : decode b_Mo_end 0 = .ok (.aload_n 0, 1) := by decide +kernel
theorem d_Mo_end_1 : decode b_Mo_end 1 = .ok (.iload_n 1, 1) := by decide +kernel
theorem d_Mo_end_2 : decode b_Mo_end 2 = .ok (.ifCond .lt 11, 3) := by decide +kernel
theorem d_Mo_end_5 : decode b_Mo_end 5 = .ok (.iload_n 1, 1) := by decide +kernel
theorem d_Mo_end_6 : decode b_Mo_end 6 = .ok (.aload_n 0, 1) := by decide +kernel
theorem d_Mo_end_7 : decode b_Mo_end 7 = .ok (.getfield 87, 3) := by decide +kernel
theorem d_Mo_end_10 : decode b_Mo_end 10 = .ok (.if_icmp .le 7, 3) := by decide +kernel
theorem d_Mo_end_13 : decode b_Mo_end 13 = .ok (.iconst 1, 1) := by decide +kernel
theorem d_Mo_end_14 : decode b_Mo_end 14 = .ok (.goto 4, 3) := by decide +kernel
theorem d_Mo_end_17 : decode b_Mo_end 17 = .ok (.iconst 0, 1) := by decide +kernel
theorem d_Mo_end_18 : decode b_Mo_end 18 = .ok (.putfield 83, 3) := by decide +kernel
theorem d_Mo_end_21 : decode b_Mo_end 21 = .ok (.aload_n 0, 1) := by decide +kernel
theorem d_Mo_end_22 : decode b_Mo_end 22 = .ok (.getfield 83, 3) := by decide +kernel
theorem d_Mo_end_25 : decode b_Mo_end 25 = .ok (.ifCond .ne 8, 3) := by decide +kernel
theorem d_Mo_end_28 : decode b_Mo_end 28 = .ok (.aload_n 0, 1) := by decide +kernel
theorem d_Mo_end_29 : decode b_Mo_end 29 = .ok (.iload_n 1, 1) := by decide +kernel
theorem d_Mo_end_30 : decode b_Mo_end 30 = .ok (.putfield 87, 3) := by decide +kernel
theorem d_Mo_end_33 : decode b_Mo_end 33 = .ok (.return_, 1) := by decide +kernel
theorem d_Mo_again_0 : decode b_Mo_again 0 = .ok (.aload_n 0, 1) := by decide +kernel
theorem d_Mo_again_1 : decode b_Mo_again 1 = .ok (.iload_n 1, 1) := by decide +kernel
theorem d_Mo_again_2 : decode b_Mo_again 2 = .ok (.iconst 1, 1) := by decide +kernel
theorem d_Mo_again_3 : decode b_Mo_again 3 = .ok (.if_icmp .lt 21, 3) := by decide +kernel
theorem d_Mo_again_6 : decode b_Mo_again 6 = .ok (.iload_n 1, 1) := by decide +kernel
theorem d_Mo_again_7 : decode b_Mo_again 7 = .ok (.aload_n 0, 1) := by decide +kernel
theorem d_Mo_again_8 : decode b_Mo_again 8 = .ok (.getfield 87, 3) := by decide +kernel
theorem d_Mo_again_11 : decode b_Mo_again 11 = .ok (.if_icmp .gt 13, 3) := by decide +kernel
theorem d_Mo_again_14 : decode b_Mo_again 14 = .ok (.iload_n 2, 1) := by decide +kernel
theorem d_Mo_again_15 : decode b_Mo_again 15 = .ok (.ifCond .lt 9, 3) := by decide +kernel
theorem d_Mo_again_18 : decode b_Mo_again 18 = .ok (.iload_n 2, 1) := by decide +kernel
theorem d_Mo_again_19 : decode b_Mo_again 19 = .ok (.ldc 7, 2) := by decide +kernel
theorem d_Mo_again_21 : decode b_Mo_again 21 = .ok (.if_icmp .le 7, 3) := by decide +kernel
theorem d_Mo_again_24 : decode b_Mo_again 24 = .ok (.iconst 1, 1) := by decide +kernel
theorem d_Mo_again_25 : decode b_Mo_again 25 = .ok (.goto 19, 3) := by decide +kernel
theorem d_Mo_again_28 : decode b_Mo_again 28 = .ok (.aload_n 0, 1) := by decide +kernel
theorem d_Mo_again_29 : decode b_Mo_again 29 = .ok (.getfield 87, 3) := by decide +kernel
theorem d_Mo_again_32 : decode b_Mo_again 32 = .ok (.iload_n 2, 1) := by decide +kernel
theorem d_Mo_again_33 : decode b_Mo_again 33 = .ok (.iadd, 1) := by decide +kernel
theorem d_Mo_again_34 : decode b_Mo_again 34 = .ok (.ldc 7, 2) := by decide +kernel
theorem d_Mo_again_36 : decode b_Mo_again 36 = .ok (.if_icmp .le 7, 3) := by decide +kernel
theorem d_Mo_again_39 : decode b_Mo_again 39 = .ok (.iconst 2, 1) := by decide +kernel
theorem d_Mo_again_40 : decode b_Mo_again 40 = .ok (.goto 4, 3) := by decide +kernel
theorem d_Mo_again_43 : decode b_Mo_again 43 = .ok (.iconst 0, 1) := by decide +kernel
theorem d_Mo_again_44 : decode b_Mo_again 44 = .ok (.putfield 83, 3) := by decide +kernel
theorem d_Mo_again_47 : decode b_Mo_again 47 = .ok (.aload_n 0, 1) := by decide +kernel
theorem d_Mo_again_48 : decode b_Mo_again 48 = .ok (.getfield 83, 3) := by decide +kernel
theorem d_Mo_again_51 : decode b_Mo_again 51 = .ok (.ifCond .le 4, 3) := by decide +kernel
theorem d_Mo_again_54 : decode b_Mo_again 54 = .ok (.return_, 1) := by decide +kernel
theorem d_Mo_again_55 : decode b_Mo_again 55 = .ok (.iconst 0, 1) := by decide +kernel
theorem d_Mo_again_56 : decode b_Mo_again 56 = .ok (.istore_n 3, 1) := by decide +kernel
theorem d_Mo_again_57 : decode b_Mo_again 57 = .ok (.iload_n 3, 1) := by decide +kernel
theorem d_Mo_again_58 : decode b_Mo_again 58 = .ok (.iload_n 2, 1) := by decide +kernel
theorem d_Mo_again_59 : decode b_Mo_again 59 = .ok (.if_icmp .ge 33, 3) := by decide +kernel
theorem d_Mo_again_62 : decode b_Mo_again 62 = .ok (.aload_n 0, 1) := by decide +kernel
theorem d_Mo_again_63 : decode b_Mo_again 63 = .ok (.getfield 8, 3) := by decide +kernel
theorem d_Mo_again_66 : decode b_Mo_again 66 = .ok (.aload_n 0, 1) := by decide +kernel
theorem d_Mo_again_67 : decode b_Mo_again 67 = .ok (.getfield 87, 3) := by decide +kernel
theorem d_Mo_again_70 : decode b_Mo_again 70 = .ok (.iload_n 3, 1) := by decide +kernel
theorem d_Mo_again_71 : decode b_Mo_again 71 = .ok (.iadd, 1) := by decide +kernel
theorem d_Mo_again_72 : decode b_Mo_again 72 = .ok (.aload_n 0, 1) := by decide +kernel
theorem d_Mo_again_73 : decode b_Mo_again 73 = .ok (.getfield 8, 3) := by decide +kernel
theorem d_Mo_again_76 : decode b_Mo_again 76 = .ok (.aload_n 0, 1) := by decide +kernel
theorem d_Mo_again_77 : decode b_Mo_again 77 = .ok (.getfield 87, 3) := by decide +kernel
theorem d_Mo_again_80 : decode b_Mo_again 80 = .ok (.iload_n 3, 1) := by decide +kernel
theorem d_Mo_again_81 : decode b_Mo_again 81 = .ok (.iadd, 1) := by decide +kernel
theorem d_Mo_again_82 : decode b_Mo_again 82 = .ok (.iload_n 1, 1) := by decide +kernel
theorem d_Mo_again_83 : decode b_Mo_again 83 = .ok (.isub, 1) := by decide +kernel
theorem d_Mo_again_84 : decode b_Mo_again 84 = .ok (.baload, 1) := by decide +kernel
theorem d_Mo_again_85 : decode b_Mo_again 85 = .ok (.bastore, 1) := by decide +kernel
theorem d_Mo_again_86 : decode b_Mo_again 86 = .ok (.iinc 3 1, 3) := by decide +kernel
theorem d_Mo_again_89 : decode b_Mo_again 89 = .ok (.goto (-32), 3) := by decide +kernel
theorem d_Mo_again_92 : decode b_Mo_again 92 = .ok (.aload_n 0, 1) := by decide +kernel
theorem d_Mo_again_93 : decode b_Mo_again 93 = .ok (.aload_n 0, 1) := by decide +kernel
theorem d_Mo_again_94 : decode b_Mo_again 94 = .ok (.getfield 87, 3) := by decide +kernel
theorem d_Mo_again_97 : decode b_Mo_again 97 = .ok (.iload_n 2, 1) := by decide +kernel
theorem d_Mo_again_98 : decode b_Mo_again 98 = .ok (.iadd, 1) := by decide +kernel
theorem d_Mo_again_99 : decode b_Mo_again 99 = .ok (.putfield 87, 3) := by decide +kernel
theorem d_Mo_again_102 : decode b_Mo_again 102 = .ok (.return_, 1) := by decide +kernel
theorem d_Mo_length_0 : decode b_Mo_length 0 = .ok (.aload_n 0, 1) := by decide +kernel
theorem d_Mo_length_1 : decode b_Mo_length 1 = .ok (.iconst 0, 1) := by decide +kernel
theorem d_Mo_length_2 : decode b_Mo_length 2 = .ok (.putfield 83, 3) := by decide +kernel
theorem d_Mo_length_5 : decode b_Mo_length 5 = .ok (.aload_n 0, 1) := by decide +kernel
theorem d_Mo_length_6 : decode b_Mo_length 6 = .ok (.getfield 87, 3) := by decide +kernel
theorem d_Mo_length_9 : decode b_Mo_length 9 = .ok (.ireturn, 1) := by decide +kernel
theorem d_Mo_alter_0 : decode b_Mo_alter 0 = .ok (.aload_n 0, 1) := by decide +kernel
theorem d_Mo_alter_1 : decode b_Mo_alter 1 = .ok (.iload_n 1, 1) := by decide +kernel
theorem d_Mo_alter_2 : decode b_Mo_alter 2 = .ok (.ifCond .lt 11, 3) := by decide +kernel
theorem d_Mo_alter_5 : decode b_Mo_alter 5 = .ok (.iload_n 1, 1) := by decide +kernel
theorem d_Mo_alter_6 : decode b_Mo_alter 6 = .ok (.aload_n 0, 1) := by decide +kernel
theorem d_Mo_alter_7 : decode b_Mo_alter 7 = .ok (.getfield 87, 3) := by decide +kernel
theorem d_Mo_alter_10 : decode b_Mo_alter 10 = .ok (.if_icmp .lt 7, 3) := by decide +kernel
theorem d_Mo_alter_13 : decode b_Mo_alter 13 = .ok (.iconst 1, 1) := by decide +kernel
theorem d_Mo_alter_14 : decode b_Mo_alter 14 = .ok (.goto 19, 3) := by decide +kernel
theorem d_Mo_alter_17 : decode b_Mo_alter 17 = .ok (.iload_n 2, 1) := by decide +kernel
theorem d_Mo_alter_18 : decode b_Mo_alter 18 = .ok (.ifCond .lt 10, 3) := by decide +kernel
theorem d_Mo_alter_21 : decode b_Mo_alter 21 = .ok (.iload_n 2, 1) := by decide +kernel
theorem d_Mo_alter_22 : decode b_Mo_alter 22 = .ok (.sipush 255, 3) := by decide +kernel
theorem d_Mo_alter_25 : decode b_Mo_alter 25 = .ok (.if_icmp .le 7, 3) := by decide +kernel
theorem d_Mo_alter_28 : decode b_Mo_alter 28 = .ok (.iconst 2, 1) := by decide +kernel
theorem d_Mo_alter_29 : decode b_Mo_alter 29 = .ok (.goto 4, 3) := by decide +kernel
theorem d_Mo_alter_32 : decode b_Mo_alter 32 = .ok (.iconst 0, 1) := by decide +kernel
theorem d_Mo_alter_33 : decode b_Mo_alter 33 = .ok (.putfield 83, 3) := by decide +kernel
theorem d_Mo_alter_36 : decode b_Mo_alter 36 = .ok (.aload_n 0, 1) := by decide +kernel
theorem d_Mo_alter_37 : decode b_Mo_alter 37 = .ok (.getfield 83, 3) := by decide +kernel
theorem d_Mo_alter_40 : decode b_Mo_alter 40 = .ok (.ifCond .ne 11, 3) := by decide +kernel
theorem d_Mo_alter_43 : decode b_Mo_alter 43 = .ok (.aload_n 0, 1) := by decide +kernel
theorem d_Mo_alter_44 : decode b_Mo_alter 44 = .ok (.getfield 8, 3) := by decide +kernel
theorem d_Mo_alter_47 : decode b_Mo_alter 47 = .ok (.iload_n 1, 1) := by decide +kernel
theorem d_Mo_alter_48 : decode b_Mo_alter 48 = .ok (.iload_n 2, 1) := by decide +kernel
theorem d_Mo_alter_49 : decode b_Mo_alter 49 = .ok (.i2b, 1) := by decide +kernel
theorem d_Mo_alter_50 : decode b_Mo_alter 50 = .ok (.bastore, 1) := by decide +kernel
theorem d_Mo_alter_51 : decode b_Mo_alter 51 = .ok (.return_, 1) := by decide +kernel
theorem d_Mo_check_0 : decode b_Mo_check 0 = .ok (.aload_n 0, 1) := by decide +kernel
theorem d_Mo_check_1 : decode b_Mo_check 1 = .ok (.iconst 0, 1) := by decide +kernel
theorem d_Mo_check_2 : decode b_Mo_check 2 = .ok (.putfield 83, 3) := by decide +kernel
theorem d_Mo_check_5 : decode b_Mo_check 5 = .ok (.iconst (-1), 1) := by decide +kernel
theorem d_Mo_check_6 : decode b_Mo_check 6 = .ok (.istore_n 1, 1) := by decide +kernel
theorem d_Mo_check_7 : decode b_Mo_check 7 = .ok (.iconst 0, 1) := by decide +kernel
theorem d_Mo_check_8 : decode b_Mo_check 8 = .ok (.istore_n 2, 1) := by decide +kernel
theorem d_Mo_check_9 : decode b_Mo_check 9 = .ok (.iload_n 2, 1) := by decide +kernel
theorem d_Mo_check_10 : decode b_Mo_check 10 = .ok (.aload_n 0, 1) := by decide +kernel
theorem d_Mo_check_11 : decode b_Mo_check 11 = .ok (.getfield 87, 3) := by decide +kernel
theorem d_Mo_check_14 : decode b_Mo_check 14 = .ok (.if_icmp .ge 55, 3) := by decide +kernel
theorem d_Mo_check_17 : decode b_Mo_check 17 = .ok (.iload_n 1, 1) := by decide +kernel
theorem d_Mo_check_18 : decode b_Mo_check 18 = .ok (.aload_n 0, 1) := by decide +kernel
theorem d_Mo_check_19 : decode b_Mo_check 19 = .ok (.getfield 8, 3) := by decide +kernel
theorem d_Mo_check_22 : decode b_Mo_check 22 = .ok (.iload_n 2, 1) := by decide +kernel
theorem d_Mo_check_23 : decode b_Mo_check 23 = .ok (.baload, 1) := by decide +kernel
theorem d_Mo_check_24 : decode b_Mo_check 24 = .ok (.sipush 255, 3) := by decide +kernel
theorem d_Mo_check_27 : decode b_Mo_check 27 = .ok (.iand, 1) := by decide +kernel
theorem d_Mo_check_28 : decode b_Mo_check 28 = .ok (.ixor, 1) := by decide +kernel
theorem d_Mo_check_29 : decode b_Mo_check 29 = .ok (.istore_n 1, 1) := by decide +kernel
theorem d_Mo_check_30 : decode b_Mo_check 30 = .ok (.iconst 0, 1) := by decide +kernel
theorem d_Mo_check_31 : decode b_Mo_check 31 = .ok (.istore_n 3, 1) := by decide +kernel
theorem d_Mo_check_32 : decode b_Mo_check 32 = .ok (.iload_n 3, 1) := by decide +kernel
theorem d_Mo_check_33 : decode b_Mo_check 33 = .ok (.bipush 8, 2) := by decide +kernel
theorem d_Mo_check_35 : decode b_Mo_check 35 = .ok (.if_icmp .ge 28, 3) := by decide +kernel
theorem d_Mo_check_38 : decode b_Mo_check 38 = .ok (.iload_n 1, 1) := by decide +kernel
theorem d_Mo_check_39 : decode b_Mo_check 39 = .ok (.iconst 1, 1) := by decide +kernel
theorem d_Mo_check_40 : decode b_Mo_check 40 = .ok (.iand, 1) := by decide +kernel
theorem d_Mo_check_41 : decode b_Mo_check 41 = .ok (.ifCond .ne 9, 3) := by decide +kernel
theorem d_Mo_check_44 : decode b_Mo_check 44 = .ok (.iload_n 1, 1) := by decide +kernel
theorem d_Mo_check_45 : decode b_Mo_check 45 = .ok (.iconst 1, 1) := by decide +kernel
theorem d_Mo_check_46 : decode b_Mo_check 46 = .ok (.iushr, 1) := by decide +kernel
theorem d_Mo_check_47 : decode b_Mo_check 47 = .ok (.goto 9, 3) := by decide +kernel
theorem d_Mo_check_50 : decode b_Mo_check 50 = .ok (.iload_n 1, 1) := by decide +kernel
theorem d_Mo_check_51 : decode b_Mo_check 51 = .ok (.iconst 1, 1) := by decide +kernel
theorem d_Mo_check_52 : decode b_Mo_check 52 = .ok (.iushr, 1) := by decide +kernel
theorem d_Mo_check_53 : decode b_Mo_check 53 = .ok (.ldc 90, 2) := by decide +kernel
theorem d_Mo_check_55 : decode b_Mo_check 55 = .ok (.ixor, 1) := by decide +kernel
theorem d_Mo_check_56 : decode b_Mo_check 56 = .ok (.istore_n 1, 1) := by decide +kernel
theorem d_Mo_check_57 : decode b_Mo_check 57 = .ok (.iinc 3 1, 3) := by decide +kernel
theorem d_Mo_check_60 : decode b_Mo_check 60 = .ok (.goto (-28), 3) := by decide +kernel
theorem d_Mo_check_63 : decode b_Mo_check 63 = .ok (.iinc 2 1, 3) := by decide +kernel
theorem d_Mo_check_66 : decode b_Mo_check 66 = .ok (.goto (-57), 3) := by decide +kernel
theorem d_Mo_check_69 : decode b_Mo_check 69 = .ok (.iload_n 1, 1) := by decide +kernel
theorem d_Mo_check_70 : decode b_Mo_check 70 = .ok (.iconst (-1), 1) := by decide +kernel
theorem d_Mo_check_71 : decode b_Mo_check 71 = .ok (.ixor, 1) := by decide +kernel
theorem d_Mo_check_72 : decode b_Mo_check 72 = .ok (.i2l, 1) := by decide +kernel
theorem d_Mo_check_73 : decode b_Mo_check 73 = .ok (.ldc2_w 91, 3) := by decide +kernel
theorem d_Mo_check_76 : decode b_Mo_check 76 = .ok (.land, 1) := by decide +kernel
theorem d_Mo_check_77 : decode b_Mo_check 77 = .ok (.lreturn, 1) := by decide +kernel
theorem d_Mo_moreOf_0 : decode b_Mo_moreOf 0 = .ok (.iload_n 0, 1) := by decide +kernel
theorem d_Mo_moreOf_1 : decode b_Mo_moreOf 1 = .ok (.bipush 8, 2) := by decide +kernel
theorem d_Mo_moreOf_3 : decode b_Mo_moreOf 3 = .ok (.if_icmp .lt 9, 3) := by decide +kernel
theorem d_Mo_moreOf_6 : decode b_Mo_moreOf 6 = .ok (.iload_n 0, 1) := by decide +kernel
theorem d_Mo_moreOf_7 : decode b_Mo_moreOf 7 = .ok (.bipush 28, 2) := by decide +kernel
theorem d_Mo_moreOf_9 : decode b_Mo_moreOf 9 = .ok (.if_icmp .ne 7, 3) := by decide +kernel
theorem d_Mo_moreOf_12 : decode b_Mo_moreOf 12 = .ok (.iconst 0, 1) := by decide +kernel
theorem d_Mo_moreOf_13 : decode b_Mo_moreOf 13 = .ok (.goto 8, 3) := by decide +kernel
theorem d_Mo_moreOf_16 : decode b_Mo_moreOf 16 = .ok (.iload_n 0, 1) := by decide +kernel
theorem d_Mo_moreOf_17 : decode b_Mo_moreOf 17 = .ok (.iconst 4, 1) := by decide +kernel
theorem d_Mo_moreOf_18 : decode b_Mo_moreOf 18 = .ok (.isub, 1) := by decide +kernel
theorem d_Mo_moreOf_19 : decode b_Mo_moreOf 19 = .ok (.iconst 4, 1) := by decide +kernel
theorem d_Mo_moreOf_20 : decode b_Mo_moreOf 20 = .ok (.idiv, 1) := by decide +kernel
theorem d_Mo_moreOf_21 : decode b_Mo_moreOf 21 = .ok (.ireturn, 1) := by decide +kernel
theorem d_Mo_lengthOf_0 : decode b_Mo_lengthOf 0 = .ok (.iload_n 0, 1) := by decide +kernel
theorem d_Mo_lengthOf_1 : decode b_Mo_lengthOf 1 = .ok (.bipush 28, 2) := by decide +kernel
theorem d_Mo_lengthOf_3 : decode b_Mo_lengthOf 3 = .ok (.if_icmp .ne 9, 3) := by decide +kernel
theorem d_Mo_lengthOf_6 : decode b_Mo_lengthOf 6 = .ok (.sipush 258, 3) := by decide +kernel
theorem d_Mo_lengthOf_9 : decode b_Mo_lengthOf 9 = .ok (.goto 28, 3) := by decide +kernel
theorem d_Mo_lengthOf_12 : decode b_Mo_lengthOf 12 = .ok (.iload_n 0, 1) := by decide +kernel
theorem d_Mo_lengthOf_13 : decode b_Mo_lengthOf 13 = .ok (.bipush 8, 2) := by decide +kernel
theorem d_Mo_lengthOf_15 : decode b_Mo_lengthOf 15 = .ok (.if_icmp .ge 9, 3) := by decide +kernel
theorem d_Mo_lengthOf_18 : decode b_Mo_lengthOf 18 = .ok (.iconst 3, 1) := by decide +kernel
theorem d_Mo_lengthOf_19 : decode b_Mo_lengthOf 19 = .ok (.iload_n 0, 1) := by decide +kernel
theorem d_Mo_lengthOf_20 : decode b_Mo_lengthOf 20 = .ok (.iadd, 1) := by decide +kernel
theorem d_Mo_lengthOf_21 : decode b_Mo_lengthOf 21 = .ok (.goto 16, 3) := by decide +kernel
theorem d_Mo_lengthOf_24 : decode b_Mo_lengthOf 24 = .ok (.iconst 3, 1) := by decide +kernel
theorem d_Mo_lengthOf_25 : decode b_Mo_lengthOf 25 = .ok (.iconst 4, 1) := by decide +kernel
theorem d_Mo_lengthOf_26 : decode b_Mo_lengthOf 26 = .ok (.iload_n 0, 1) := by decide +kernel
theorem d_Mo_lengthOf_27 : decode b_Mo_lengthOf 27 = .ok (.iconst 4, 1) := by decide +kernel
theorem d_Mo_lengthOf_28 : decode b_Mo_lengthOf 28 = .ok (.irem, 1) := by decide +kernel
theorem d_Mo_lengthOf_29 : decode b_Mo_lengthOf 29 = .ok (.iadd, 1) := by decide +kernel
theorem d_Mo_lengthOf_30 : decode b_Mo_lengthOf 30 = .ok (.iload_n 0, 1) := by decide +kernel
theorem d_Mo_lengthOf_31 : decode b_Mo_lengthOf 31 = .ok (.iconst 4, 1) := by decide +kernel
theorem d_Mo_lengthOf_32 : decode b_Mo_lengthOf 32 = .ok (.isub, 1) := by decide +kernel
theorem d_Mo_lengthOf_33 : decode b_Mo_lengthOf 33 = .ok (.iconst 4, 1) := by decide +kernel
theorem d_Mo_lengthOf_34 : decode b_Mo_lengthOf 34 = .ok (.idiv, 1) := by decide +kernel
theorem d_Mo_lengthOf_35 : decode b_Mo_lengthOf 35 = .ok (.ishl, 1) := by decide +kernel
theorem d_Mo_lengthOf_36 : decode b_Mo_lengthOf 36 = .ok (.iadd, 1) := by decide +kernel
theorem d_Mo_lengthOf_37 : decode b_Mo_lengthOf 37 = .ok (.ireturn, 1) := by decide +kernel
theorem d_Mo_moreOfDistance_0 : decode b_Mo_moreOfDistance 0 = .ok (.iload_n 0, 1) := by decide +kernel
theorem d_Mo_moreOfDistance_1 : decode b_Mo_moreOfDistance 1 = .ok (.iconst 4, 1) := by decide +kernel
theorem d_Mo_moreOfDistance_2 : decode b_Mo_moreOfDistance 2 = .ok (.if_icmp .ge 7, 3) := by decide +kernel
theorem d_Mo_moreOfDistance_5 : decode b_Mo_moreOfDistance 5 = .ok (.iconst 0, 1) := by decide +kernel
theorem d_Mo_moreOfDistance_6 : decode b_Mo_moreOfDistance 6 = .ok (.goto 8, 3) := by decide +kernel
theorem d_Mo_moreOfDistance_9 : decode b_Mo_moreOfDistance 9 = .ok (.iload_n 0, 1) := by decide +kernel
theorem d_Mo_moreOfDistance_10 : decode b_Mo_moreOfDistance 10 = .ok (.iconst 2, 1) := by decide +kernel
theorem d_Mo_moreOfDistance_11 : decode b_Mo_moreOfDistance 11 = .ok (.idiv, 1) := by decide +kernel
theorem d_Mo_moreOfDistance_12 : decode b_Mo_moreOfDistance 12 = .ok (.iconst 1, 1) := by decide +kernel
theorem d_Mo_moreOfDistance_13 : decode b_Mo_moreOfDistance 13 = .ok (.isub, 1) := by decide +kernel
theorem d_Mo_moreOfDistance_14 : decode b_Mo_moreOfDistance 14 = .ok (.ireturn, 1) := by decide +kernel
theorem d_Mo_distanceOf_0 : decode b_Mo_distanceOf 0 = .ok (.iload_n 0, 1) := by decide +kernel
theorem d_Mo_distanceOf_1 : decode b_Mo_distanceOf 1 = .ok (.iconst 4, 1) := by decide +kernel
theorem d_Mo_distanceOf_2 : decode b_Mo_distanceOf 2 = .ok (.if_icmp .ge 9, 3) := by decide +kernel
theorem d_Mo_distanceOf_5 : decode b_Mo_distanceOf 5 = .ok (.iconst 1, 1) := by decide +kernel
theorem d_Mo_distanceOf_6 : decode b_Mo_distanceOf 6 = .ok (.iload_n 0, 1) := by decide +kernel
theorem d_Mo_distanceOf_7 : decode b_Mo_distanceOf 7 = .ok (.iadd, 1) := by decide +kernel
theorem d_Mo_distanceOf_8 : decode b_Mo_distanceOf 8 = .ok (.goto 16, 3) := by decide +kernel
theorem d_Mo_distanceOf_11 : decode b_Mo_distanceOf 11 = .ok (.iconst 1, 1) := by decide +kernel
theorem d_Mo_distanceOf_12 : decode b_Mo_distanceOf 12 = .ok (.iconst 2, 1) := by decide +kernel
theorem d_Mo_distanceOf_13 : decode b_Mo_distanceOf 13 = .ok (.iload_n 0, 1) := by decide +kernel
theorem d_Mo_distanceOf_14 : decode b_Mo_distanceOf 14 = .ok (.iconst 2, 1) := by decide +kernel
theorem d_Mo_distanceOf_15 : decode b_Mo_distanceOf 15 = .ok (.irem, 1) := by decide +kernel
theorem d_Mo_distanceOf_16 : decode b_Mo_distanceOf 16 = .ok (.iadd, 1) := by decide +kernel
theorem d_Mo_distanceOf_17 : decode b_Mo_distanceOf 17 = .ok (.iload_n 0, 1) := by decide +kernel
theorem d_Mo_distanceOf_18 : decode b_Mo_distanceOf 18 = .ok (.iconst 2, 1) := by decide +kernel
theorem d_Mo_distanceOf_19 : decode b_Mo_distanceOf 19 = .ok (.idiv, 1) := by decide +kernel
theorem d_Mo_distanceOf_20 : decode b_Mo_distanceOf 20 = .ok (.iconst 1, 1) := by decide +kernel
theorem d_Mo_distanceOf_21 : decode b_Mo_distanceOf 21 = .ok (.isub, 1) := by decide +kernel
theorem d_Mo_distanceOf_22 : decode b_Mo_distanceOf 22 = .ok (.ishl, 1) := by decide +kernel
theorem d_Mo_distanceOf_23 : decode b_Mo_distanceOf 23 = .ok (.iadd, 1) := by decide +kernel
theorem d_Mo_distanceOf_24 : decode b_Mo_distanceOf 24 = .ok (.ireturn, 1) := by decide +kernel
theorem d_Mo_symbolOf_0 : decode b_Mo_symbolOf 0 = .ok (.bipush 28, 2) := by decide +kernel
theorem d_Mo_symbolOf_2 : decode b_Mo_symbolOf 2 = .ok (.istore_n 1, 1) := by decide +kernel
theorem d_Mo_symbolOf_3 : decode b_Mo_symbolOf 3 = .ok (.iload_n 1, 1) := by decide +kernel
theorem d_Mo_symbolOf_4 : decode b_Mo_symbolOf 4 = .ok (.invokestatic 93, 3) := by decide +kernel
theorem d_Mo_symbolOf_7 : decode b_Mo_symbolOf 7 = .ok (.iload_n 0, 1) := by decide +kernel
theorem d_Mo_symbolOf_8 : decode b_Mo_symbolOf 8 = .ok (.if_icmp .gt 16, 3) := by decide +kernel
theorem d_Mo_symbolOf_11 : decode b_Mo_symbolOf 11 = .ok (.iload_n 1, 1) := by decide +kernel
theorem d_Mo_symbolOf_12 : decode b_Mo_symbolOf 12 = .ok (.bipush 28, 2) := by decide +kernel
theorem d_Mo_symbolOf_14 : decode b_Mo_symbolOf 14 = .ok (.if_icmp .ne 16, 3) := by decide +kernel
theorem d_Mo_symbolOf_17 : decode b_Mo_symbolOf 17 = .ok (.iload_n 0, 1) := by decide +kernel
theorem d_Mo_symbolOf_18 : decode b_Mo_symbolOf 18 = .ok (.sipush 258, 3) := by decide +kernel
theorem d_Mo_symbolOf_21 : decode b_Mo_symbolOf 21 = .ok (.if_icmp .ge 9, 3) := by decide +kernel
theorem d_Mo_symbolOf_24 : decode b_Mo_symbolOf 24 = .ok (.iinc 1 (-1), 3) := by decide +kernel
theorem d_Mo_symbolOf_27 : decode b_Mo_symbolOf 27 = .ok (.goto (-24), 3) := by decide +kernel
theorem d_Mo_symbolOf_30 : decode b_Mo_symbolOf 30 = .ok (.iload_n 1, 1) := by decide +kernel
theorem d_Mo_symbolOf_31 : decode b_Mo_symbolOf 31 = .ok (.ireturn, 1) := by decide +kernel
theorem d_Mo_symbolOfDistance_0 : decode b_Mo_symbolOfDistance 0 = .ok (.bipush 29, 2) := by decide +kernel
theorem d_Mo_symbolOfDistance_2 : decode b_Mo_symbolOfDistance 2 = .ok (.istore_n 1, 1) := by decide +kernel
theorem d_Mo_symbolOfDistance_3 : decode b_Mo_symbolOfDistance 3 = .ok (.iload_n 1, 1) := by decide +kernel
theorem d_Mo_symbolOfDistance_4 : decode b_Mo_symbolOfDistance 4 = .ok (.invokestatic 97, 3) := by decide +kernel
theorem d_Mo_symbolOfDistance_7 : decode b_Mo_symbolOfDistance 7 = .ok (.iload_n 0, 1) := by decide +kernel
theorem d_Mo_symbolOfDistance_8 : decode b_Mo_symbolOfDistance 8 = .ok (.if_icmp .le 9, 3) := by decide +kernel
theorem d_Mo_symbolOfDistance_11 : decode b_Mo_symbolOfDistance 11 = .ok (.iinc 1 (-1), 3) := by decide +kernel
theorem d_Mo_symbolOfDistance_14 : decode b_Mo_symbolOfDistance 14 = .ok (.goto (-11), 3) := by decide +kernel
theorem d_Mo_symbolOfDistance_17 : decode b_Mo_symbolOfDistance 17 = .ok (.iload_n 1, 1) := by decide +kernel
theorem d_Mo_symbolOfDistance_18 : decode b_Mo_symbolOfDistance 18 = .ok (.ireturn, 1) := by decide +kernel
theorem d_Mo_told_0 : decode b_Mo_told 0 = .ok (.aload_n 0, 1) := by decide +kernel
theorem d_Mo_told_1 : decode b_Mo_told 1 = .ok (.iload_n 1, 1) := by decide +kernel
theorem d_Mo_told_2 : decode b_Mo_told 2 = .ok (.ifCond .lt 8, 3) := by decide +kernel
theorem d_Mo_told_5 : decode b_Mo_told 5 = .ok (.iload_n 1, 1) := by decide +kernel
theorem d_Mo_told_6 : decode b_Mo_told 6 = .ok (.iconst 5, 1) := by decide +kernel
theorem d_Mo_told_7 : decode b_Mo_told 7 = .ok (.if_icmp .le 7, 3) := by decide +kernel
theorem d_Mo_told_10 : decode b_Mo_told 10 = .ok (.iconst 1, 1) := by decide +kernel
theorem d_Mo_told_11 : decode b_Mo_told 11 = .ok (.goto 4, 3) := by decide +kernel
theorem d_Mo_told_14 : decode b_Mo_told 14 = .ok (.iconst 0, 1) := by decide +kernel
theorem d_Mo_told_15 : decode b_Mo_told 15 = .ok (.putfield 83, 3) := by decide +kernel
theorem d_Mo_told_18 : decode b_Mo_told 18 = .ok (.aload_n 0, 1) := by decide +kernel
theorem d_Mo_told_19 : decode b_Mo_told 19 = .ok (.getfield 83, 3) := by decide +kernel
theorem d_Mo_told_22 : decode b_Mo_told 22 = .ok (.ifCond .le 5, 3) := by decide +kernel
theorem d_Mo_told_25 : decode b_Mo_told 25 = .ok (.iconst 0, 1) := by decide +kernel
theorem d_Mo_told_26 : decode b_Mo_told 26 = .ok (.ireturn, 1) := by decide +kernel
theorem d_Mo_told_27 : decode b_Mo_told 27 = .ok (.iload_n 1, 1) := by decide +kernel
theorem d_Mo_told_28 : decode b_Mo_told 28 = .ok (.ifCond .ne 10, 3) := by decide +kernel
theorem d_Mo_told_31 : decode b_Mo_told 31 = .ok (.aload_n 0, 1) := by decide +kernel
theorem d_Mo_told_32 : decode b_Mo_told 32 = .ok (.getfield 220, 3) := by decide +kernel
theorem d_Mo_told_35 : decode b_Mo_told 35 = .ok (.goto 55, 3) := by decide +kernel
theorem d_Mo_told_38 : decode b_Mo_told 38 = .ok (.iload_n 1, 1) := by decide +kernel
theorem d_Mo_told_39 : decode b_Mo_told 39 = .ok (.iconst 1, 1) := by decide +kernel
theorem d_Mo_told_40 : decode b_Mo_told 40 = .ok (.if_icmp .ne 10, 3) := by decide +kernel
theorem d_Mo_told_43 : decode b_Mo_told 43 = .ok (.aload_n 0, 1) := by decide +kernel
theorem d_Mo_told_44 : decode b_Mo_told 44 = .ok (.getfield 106, 3) := by decide +kernel
theorem d_Mo_told_47 : decode b_Mo_told 47 = .ok (.goto 43, 3) := by decide +kernel
theorem d_Mo_told_50 : decode b_Mo_told 50 = .ok (.iload_n 1, 1) := by decide +kernel
theorem d_Mo_told_51 : decode b_Mo_told 51 = .ok (.iconst 2, 1) := by decide +kernel
theorem d_Mo_told_52 : decode b_Mo_told 52 = .ok (.if_icmp .ne 10, 3) := by decide +kernel
theorem d_Mo_told_55 : decode b_Mo_told 55 = .ok (.aload_n 0, 1) := by decide +kernel
theorem d_Mo_told_56 : decode b_Mo_told 56 = .ok (.getfield 109, 3) := by decide +kernel
theorem d_Mo_told_59 : decode b_Mo_told 59 = .ok (.goto 31, 3) := by decide +kernel
theorem d_Mo_told_62 : decode b_Mo_told 62 = .ok (.iload_n 1, 1) := by decide +kernel
theorem d_Mo_told_63 : decode b_Mo_told 63 = .ok (.iconst 3, 1) := by decide +kernel
theorem d_Mo_told_64 : decode b_Mo_told 64 = .ok (.if_icmp .ne 10, 3) := by decide +kernel
theorem d_Mo_told_67 : decode b_Mo_told 67 = .ok (.aload_n 0, 1) := by decide +kernel
theorem d_Mo_told_68 : decode b_Mo_told 68 = .ok (.getfield 198, 3) := by decide +kernel
theorem d_Mo_told_71 : decode b_Mo_told 71 = .ok (.goto 19, 3) := by decide +kernel
theorem d_Mo_told_74 : decode b_Mo_told 74 = .ok (.iload_n 1, 1) := by decide +kernel
theorem d_Mo_told_75 : decode b_Mo_told 75 = .ok (.iconst 4, 1) := by decide +kernel
theorem d_Mo_told_76 : decode b_Mo_told 76 = .ok (.if_icmp .ne 10, 3) := by decide +kernel
theorem d_Mo_told_79 : decode b_Mo_told 79 = .ok (.aload_n 0, 1) := by decide +kernel
theorem d_Mo_told_80 : decode b_Mo_told 80 = .ok (.getfield 208, 3) := by decide +kernel
theorem d_Mo_told_83 : decode b_Mo_told 83 = .ok (.goto 7, 3) := by decide +kernel
theorem d_Mo_told_86 : decode b_Mo_told 86 = .ok (.aload_n 0, 1) := by decide +kernel
theorem d_Mo_told_87 : decode b_Mo_told 87 = .ok (.getfield 217, 3) := by decide +kernel
theorem d_Mo_told_90 : decode b_Mo_told 90 = .ok (.ireturn, 1) := by decide +kernel
theorem d_Mo_blame_0 : decode b_Mo_blame 0 = .ok (.aload_n 0, 1) := by decide +kernel
theorem d_Mo_blame_1 : decode b_Mo_blame 1 = .ok (.iload_n 1, 1) := by decide +kernel
theorem d_Mo_blame_2 : decode b_Mo_blame 2 = .ok (.ifCond .lt 8, 3) := by decide +kernel
theorem d_Mo_blame_5 : decode b_Mo_blame 5 = .ok (.iload_n 1, 1) := by decide +kernel
theorem d_Mo_blame_6 : decode b_Mo_blame 6 = .ok (.iconst 2, 1) := by decide +kernel
theorem d_Mo_blame_7 : decode b_Mo_blame 7 = .ok (.if_icmp .le 7, 3) := by decide +kernel
theorem d_Mo_blame_10 : decode b_Mo_blame 10 = .ok (.iconst 1, 1) := by decide +kernel
theorem d_Mo_blame_11 : decode b_Mo_blame 11 = .ok (.goto 4, 3) := by decide +kernel
theorem d_Mo_blame_14 : decode b_Mo_blame 14 = .ok (.iconst 0, 1) := by decide +kernel
theorem d_Mo_blame_15 : decode b_Mo_blame 15 = .ok (.putfield 83, 3) := by decide +kernel
theorem d_Mo_blame_18 : decode b_Mo_blame 18 = .ok (.aload_n 0, 1) := by decide +kernel
theorem d_Mo_blame_19 : decode b_Mo_blame 19 = .ok (.getfield 83, 3) := by decide +kernel
theorem d_Mo_blame_22 : decode b_Mo_blame 22 = .ok (.ifCond .le 5, 3) := by decide +kernel
theorem d_Mo_blame_25 : decode b_Mo_blame 25 = .ok (.iconst 0, 1) := by decide +kernel
theorem d_Mo_blame_26 : decode b_Mo_blame 26 = .ok (.ireturn, 1) := by decide +kernel
theorem d_Mo_blame_27 : decode b_Mo_blame 27 = .ok (.iload_n 1, 1) := by decide +kernel
theorem d_Mo_blame_28 : decode b_Mo_blame 28 = .ok (.ifCond .ne 10, 3) := by decide +kernel
theorem d_Mo_blame_31 : decode b_Mo_blame 31 = .ok (.aload_n 0, 1) := by decide +kernel
theorem d_Mo_blame_32 : decode b_Mo_blame 32 = .ok (.getfield 232, 3) := by decide +kernel
theorem d_Mo_blame_35 : decode b_Mo_blame 35 = .ok (.goto 19, 3) := by decide +kernel
theorem d_Mo_blame_38 : decode b_Mo_blame 38 = .ok (.iload_n 1, 1) := by decide +kernel
theorem d_Mo_blame_39 : decode b_Mo_blame 39 = .ok (.iconst 1, 1) := by decide +kernel
theorem d_Mo_blame_40 : decode b_Mo_blame 40 = .ok (.if_icmp .ne 10, 3) := by decide +kernel
theorem d_Mo_blame_43 : decode b_Mo_blame 43 = .ok (.aload_n 0, 1) := by decide +kernel
theorem d_Mo_blame_44 : decode b_Mo_blame 44 = .ok (.getfield 235, 3) := by decide +kernel
theorem d_Mo_blame_47 : decode b_Mo_blame 47 = .ok (.goto 7, 3) := by decide +kernel
theorem d_Mo_blame_50 : decode b_Mo_blame 50 = .ok (.aload_n 0, 1) := by decide +kernel
theorem d_Mo_blame_51 : decode b_Mo_blame 51 = .ok (.getfield 286, 3) := by decide +kernel
theorem d_Mo_blame_54 : decode b_Mo_blame 54 = .ok (.ireturn, 1) := by decide +kernel
theorem d_Mo_back_0 : decode b_Mo_back 0 = .ok (.aload_n 0, 1) := by decide +kernel
theorem d_Mo_back_1 : decode b_Mo_back 1 = .ok (.aload_n 0, 1) := by decide +kernel
theorem d_Mo_back_2 : decode b_Mo_back 2 = .ok (.getfield 229, 3) := by decide +kernel
theorem d_Mo_back_5 : decode b_Mo_back 5 = .ok (.ldc 7, 2) := by decide +kernel
theorem d_Mo_back_7 : decode b_Mo_back 7 = .ok (.if_icmp .le 7, 3) := by decide +kernel
theorem d_Mo_back_10 : decode b_Mo_back 10 = .ok (.iconst 1, 1) := by decide +kernel
theorem d_Mo_back_11 : decode b_Mo_back 11 = .ok (.goto 4, 3) := by decide +kernel
theorem d_Mo_back_14 : decode b_Mo_back 14 = .ok (.iconst 0, 1) := by decide +kernel
theorem d_Mo_back_15 : decode b_Mo_back 15 = .ok (.putfield 83, 3) := by decide +kernel
theorem d_Mo_back_18 : decode b_Mo_back 18 = .ok (.aload_n 0, 1) := by decide +kernel
theorem d_Mo_back_19 : decode b_Mo_back 19 = .ok (.getfield 83, 3) := by decide +kernel
theorem d_Mo_back_22 : decode b_Mo_back 22 = .ok (.ifCond .le 4, 3) := by decide +kernel
theorem d_Mo_back_25 : decode b_Mo_back 25 = .ok (.return_, 1) := by decide +kernel
theorem d_Mo_back_26 : decode b_Mo_back 26 = .ok (.aload_n 0, 1) := by decide +kernel
theorem d_Mo_back_27 : decode b_Mo_back 27 = .ok (.aload_n 0, 1) := by decide +kernel
theorem d_Mo_back_28 : decode b_Mo_back 28 = .ok (.getfield 229, 3) := by decide +kernel
theorem d_Mo_back_31 : decode b_Mo_back 31 = .ok (.putfield 87, 3) := by decide +kernel
theorem d_Mo_back_34 : decode b_Mo_back 34 = .ok (.iconst 0, 1) := by decide +kernel
theorem d_Mo_back_35 : decode b_Mo_back 35 = .ok (.istore_n 1, 1) := by decide +kernel
theorem d_Mo_back_36 : decode b_Mo_back 36 = .ok (.iload_n 1, 1) := by decide +kernel
theorem d_Mo_back_37 : decode b_Mo_back 37 = .ok (.aload_n 0, 1) := by decide +kernel
theorem d_Mo_back_38 : decode b_Mo_back 38 = .ok (.getfield 229, 3) := by decide +kernel
theorem d_Mo_back_41 : decode b_Mo_back 41 = .ok (.if_icmp .ge 21, 3) := by decide +kernel
theorem d_Mo_back_44 : decode b_Mo_back 44 = .ok (.aload_n 0, 1) := by decide +kernel
theorem d_Mo_back_45 : decode b_Mo_back 45 = .ok (.getfield 8, 3) := by decide +kernel
theorem d_Mo_back_48 : decode b_Mo_back 48 = .ok (.iload_n 1, 1) := by decide +kernel
theorem d_Mo_back_49 : decode b_Mo_back 49 = .ok (.aload_n 0, 1) := by decide +kernel
theorem d_Mo_back_50 : decode b_Mo_back 50 = .ok (.getfield 15, 3) := by decide +kernel
theorem d_Mo_back_53 : decode b_Mo_back 53 = .ok (.iload_n 1, 1) := by decide +kernel
theorem d_Mo_back_54 : decode b_Mo_back 54 = .ok (.baload, 1) := by decide +kernel
theorem d_Mo_back_55 : decode b_Mo_back 55 = .ok (.bastore, 1) := by decide +kernel
theorem d_Mo_back_56 : decode b_Mo_back 56 = .ok (.iinc 1 1, 3) := by decide +kernel
theorem d_Mo_back_59 : decode b_Mo_back 59 = .ok (.goto (-23), 3) := by decide +kernel
theorem d_Mo_back_62 : decode b_Mo_back 62 = .ok (.return_, 1) := by decide +kernel
theorem d_Mo_size_0 : decode b_Mo_size 0 = .ok (.aload_n 0, 1) := by decide +kernel
theorem d_Mo_size_1 : decode b_Mo_size 1 = .ok (.iconst 0, 1) := by decide +kernel
theorem d_Mo_size_2 : decode b_Mo_size 2 = .ok (.putfield 83, 3) := by decide +kernel
theorem d_Mo_size_5 : decode b_Mo_size 5 = .ok (.aload_n 0, 1) := by decide +kernel
theorem d_Mo_size_6 : decode b_Mo_size 6 = .ok (.getfield 229, 3) := by decide +kernel
theorem d_Mo_size_9 : decode b_Mo_size 9 = .ok (.ireturn, 1) := by decide +kernel
theorem d_Mo_byteAt_0 : decode b_Mo_byteAt 0 = .ok (.aload_n 0, 1) := by decide +kernel
theorem d_Mo_byteAt_1 : decode b_Mo_byteAt 1 = .ok (.iload_n 1, 1) := by decide +kernel
theorem d_Mo_byteAt_2 : decode b_Mo_byteAt 2 = .ok (.ifCond .lt 11, 3) := by decide +kernel
theorem d_Mo_byteAt_5 : decode b_Mo_byteAt 5 = .ok (.iload_n 1, 1) := by decide +kernel
theorem d_Mo_byteAt_6 : decode b_Mo_byteAt 6 = .ok (.aload_n 0, 1) := by decide +kernel
theorem d_Mo_byteAt_7 : decode b_Mo_byteAt 7 = .ok (.getfield 229, 3) := by decide +kernel
theorem d_Mo_byteAt_10 : decode b_Mo_byteAt 10 = .ok (.if_icmp .lt 7, 3) := by decide +kernel
theorem d_Mo_byteAt_13 : decode b_Mo_byteAt 13 = .ok (.iconst 1, 1) := by decide +kernel
theorem d_Mo_byteAt_14 : decode b_Mo_byteAt 14 = .ok (.goto 4, 3) := by decide +kernel
theorem d_Mo_byteAt_17 : decode b_Mo_byteAt 17 = .ok (.iconst 0, 1) := by decide +kernel
theorem d_Mo_byteAt_18 : decode b_Mo_byteAt 18 = .ok (.putfield 83, 3) := by decide +kernel
theorem d_Mo_byteAt_21 : decode b_Mo_byteAt 21 = .ok (.aload_n 0, 1) := by decide +kernel
theorem d_Mo_byteAt_22 : decode b_Mo_byteAt 22 = .ok (.getfield 83, 3) := by decide +kernel
theorem d_Mo_byteAt_25 : decode b_Mo_byteAt 25 = .ok (.ifCond .le 7, 3) := by decide +kernel
theorem d_Mo_byteAt_28 : decode b_Mo_byteAt 28 = .ok (.iconst 0, 1) := by decide +kernel
theorem d_Mo_byteAt_29 : decode b_Mo_byteAt 29 = .ok (.goto 13, 3) := by decide +kernel
theorem d_Mo_byteAt_32 : decode b_Mo_byteAt 32 = .ok (.aload_n 0, 1) := by decide +kernel
theorem d_Mo_byteAt_33 : decode b_Mo_byteAt 33 = .ok (.getfield 15, 3) := by decide +kernel
theorem d_Mo_byteAt_36 : decode b_Mo_byteAt 36 = .ok (.iload_n 1, 1) := by decide +kernel
theorem d_Mo_byteAt_37 : decode b_Mo_byteAt 37 = .ok (.baload, 1) := by decide +kernel
theorem d_Mo_byteAt_38 : decode b_Mo_byteAt 38 = .ok (.sipush 255, 3) := by decide +kernel
theorem d_Mo_byteAt_41 : decode b_Mo_byteAt 41 = .ok (.iand, 1) := by decide +kernel
theorem d_Mo_byteAt_42 : decode b_Mo_byteAt 42 = .ok (.ireturn, 1) := by decide +kernel
theorem d_Mo_codeLength_0 : decode b_Mo_codeLength 0 = .ok (.iload_n 1, 1) := by decide +kernel
theorem d_Mo_codeLength_1 : decode b_Mo_codeLength 1 = .ok (.ifCond .ne 9, 3) := by decide +kernel
theorem d_Mo_codeLength_4 : decode b_Mo_codeLength 4 = .ok (.sipush 286, 3) := by decide +kernel
theorem d_Mo_codeLength_7 : decode b_Mo_codeLength 7 = .ok (.goto 15, 3) := by decide +kernel
theorem d_Mo_codeLength_10 : decode b_Mo_codeLength 10 = .ok (.iload_n 1, 1) := by decide +kernel
theorem d_Mo_codeLength_11 : decode b_Mo_codeLength 11 = .ok (.iconst 1, 1) := by decide +kernel
theorem d_Mo_codeLength_12 : decode b_Mo_codeLength 12 = .ok (.if_icmp .ne 8, 3) := by decide +kernel
theorem d_Mo_codeLength_15 : decode b_Mo_codeLength 15 = .ok (.bipush 30, 2) := by decide +kernel
theorem d_Mo_codeLength_17 : decode b_Mo_codeLength 17 = .ok (.goto 5, 3) := by decide +kernel
theorem d_Mo_codeLength_20 : decode b_Mo_codeLength 20 = .ok (.bipush 19, 2) := by decide +kernel
theorem d_Mo_codeLength_22 : decode b_Mo_codeLength 22 = .ok (.istore_n 3, 1) := by decide +kernel
theorem d_Mo_codeLength_23 : decode b_Mo_codeLength 23 = .ok (.aload_n 0, 1) := by decide +kernel
theorem d_Mo_codeLength_24 : decode b_Mo_codeLength 24 = .ok (.iload_n 1, 1) := by decide +kernel
theorem d_Mo_codeLength_25 : decode b_Mo_codeLength 25 = .ok (.ifCond .lt 17, 3) := by decide +kernel
theorem d_Mo_codeLength_28 : decode b_Mo_codeLength 28 = .ok (.iload_n 1, 1) := by decide +kernel
theorem d_Mo_codeLength_29 : decode b_Mo_codeLength 29 = .ok (.iconst 2, 1) := by decide +kernel
theorem d_Mo_codeLength_30 : decode b_Mo_codeLength 30 = .ok (.if_icmp .gt 12, 3) := by decide +kernel
theorem d_Mo_codeLength_33 : decode b_Mo_codeLength 33 = .ok (.iload_n 2, 1) := by decide +kernel
theorem d_Mo_codeLength_34 : decode b_Mo_codeLength 34 = .ok (.ifCond .lt 8, 3) := by decide +kernel
theorem d_Mo_codeLength_37 : decode b_Mo_codeLength 37 = .ok (.iload_n 2, 1) := by decide +kernel
theorem d_Mo_codeLength_38 : decode b_Mo_codeLength 38 = .ok (.iload_n 3, 1) := by decide +kernel
theorem d_Mo_codeLength_39 : decode b_Mo_codeLength 39 = .ok (.if_icmp .lt 7, 3) := by decide +kernel
theorem d_Mo_codeLength_42 : decode b_Mo_codeLength 42 = .ok (.iconst 1, 1) := by decide +kernel
theorem d_Mo_codeLength_43 : decode b_Mo_codeLength 43 = .ok (.goto 4, 3) := by decide +kernel
theorem d_Mo_codeLength_46 : decode b_Mo_codeLength 46 = .ok (.iconst 0, 1) := by decide +kernel
theorem d_Mo_codeLength_47 : decode b_Mo_codeLength 47 = .ok (.putfield 83, 3) := by decide +kernel
theorem d_Mo_codeLength_50 : decode b_Mo_codeLength 50 = .ok (.aload_n 0, 1) := by decide +kernel
theorem d_Mo_codeLength_51 : decode b_Mo_codeLength 51 = .ok (.getfield 83, 3) := by decide +kernel
theorem d_Mo_codeLength_54 : decode b_Mo_codeLength 54 = .ok (.ifCond .le 5, 3) := by decide +kernel
theorem d_Mo_codeLength_57 : decode b_Mo_codeLength 57 = .ok (.iconst 0, 1) := by decide +kernel
theorem d_Mo_codeLength_58 : decode b_Mo_codeLength 58 = .ok (.ireturn, 1) := by decide +kernel
theorem d_Mo_codeLength_59 : decode b_Mo_codeLength 59 = .ok (.iload_n 1, 1) := by decide +kernel
theorem d_Mo_codeLength_60 : decode b_Mo_codeLength 60 = .ok (.ifCond .ne 12, 3) := by decide +kernel
theorem d_Mo_codeLength_63 : decode b_Mo_codeLength 63 = .ok (.aload_n 0, 1) := by decide +kernel
theorem d_Mo_codeLength_64 : decode b_Mo_codeLength 64 = .ok (.getfield 68, 3) := by decide +kernel
theorem d_Mo_codeLength_67 : decode b_Mo_codeLength 67 = .ok (.iload_n 2, 1) := by decide +kernel
theorem d_Mo_codeLength_68 : decode b_Mo_codeLength 68 = .ok (.iaload, 1) := by decide +kernel
theorem d_Mo_codeLength_69 : decode b_Mo_codeLength 69 = .ok (.goto 27, 3) := by decide +kernel
theorem d_Mo_codeLength_72 : decode b_Mo_codeLength 72 = .ok (.iload_n 1, 1) := by decide +kernel
theorem d_Mo_codeLength_73 : decode b_Mo_codeLength 73 = .ok (.iconst 1, 1) := by decide +kernel
theorem d_Mo_codeLength_74 : decode b_Mo_codeLength 74 = .ok (.if_icmp .ne 16, 3) := by decide +kernel
theorem d_Mo_codeLength_77 : decode b_Mo_codeLength 77 = .ok (.aload_n 0, 1) := by decide +kernel
theorem d_Mo_codeLength_78 : decode b_Mo_codeLength 78 = .ok (.getfield 68, 3) := by decide +kernel
theorem d_Mo_codeLength_81 : decode b_Mo_codeLength 81 = .ok (.sipush 288, 3) := by decide +kernel
theorem d_Mo_codeLength_84 : decode b_Mo_codeLength 84 = .ok (.iload_n 2, 1) := by decide +kernel
theorem d_Mo_codeLength_85 : decode b_Mo_codeLength 85 = .ok (.iadd, 1) := by decide +kernel
theorem d_Mo_codeLength_86 : decode b_Mo_codeLength 86 = .ok (.iaload, 1) := by decide +kernel
theorem d_Mo_codeLength_87 : decode b_Mo_codeLength 87 = .ok (.goto 9, 3) := by decide +kernel
theorem d_Mo_codeLength_90 : decode b_Mo_codeLength 90 = .ok (.aload_n 0, 1) := by decide +kernel
theorem d_Mo_codeLength_91 : decode b_Mo_codeLength 91 = .ok (.getfield 71, 3) := by decide +kernel
theorem d_Mo_codeLength_94 : decode b_Mo_codeLength 94 = .ok (.iload_n 2, 1) := by decide +kernel
theorem d_Mo_codeLength_95 : decode b_Mo_codeLength 95 = .ok (.iaload, 1) := by decide +kernel
theorem d_Mo_codeLength_96 : decode b_Mo_codeLength 96 = .ok (.ireturn, 1) := by decide +kernel
/-! PackedBytesModel.thrown()I -/
def fMo_thrown (N : Nat) (v_t_code : Int32) : Option (Int32) :=
    some v_t_code
set_option maxHeartbeats 4000000 in
set_option maxRecDepth 100000 in
theorem cMo_thrown (l : Launch) (dC : Nat → ClassId) (dI : Nat → Nat → Nat) (h_t h_t_row h_t_product h_t_token h_t_heads h_t_before h_t_counts h_t_lengths h_t_fewCounts h_t_fewLengths h_t_weights h_t_parents h_t_symbols h_t_numbers h_t_fewNumbers h_t_firsts h_t_line h_t_run h_t_rest h_t_ownLengths h_t_ownFew h_t_fresh h_t_many h_t_sorted : Nat) (cB cI cJ : ClassId) (sz : Nat) (N : Nat) (v_t_code : Int32) (v_t_length : Int32) (v_t_size : Int32) (v_t_tokens : Int32) (v_t_runs : Int32) (v_t_wide : Int32) (v_t_deep : Int32) (v_t_few : Int32) (v_t_kind : Int32) (v_t_bytes : Int32) (v_t_matches : Int32) (v_t_storedBits : Int32) (v_t_fixedBits : Int32) (v_t_ownBits : Int32) (v_t_out : Int32) (v_t_pos : Int32) (v_t_total : Int32) (v_t_fault : Int32) (v_t_place : Int32) (v_t_made : Int32) (v_t_limit : Int32) (v_t_taken : Int32) (o : Int32) (h : fMo_thrown N v_t_code = some o) : Met l y_Mo_thrown w_Mo_thrown ({ frames := 0, cells := 0, slots := 0, locals := 0 } : Room) (va_Pc [.ref h_t] (fun U => U.heap.size = sz ∧ va_P (dC, dI) vwCl [(h_t, .inr (11, [.int v_t_code, .int v_t_length, .ref h_t_row, .int v_t_size, .ref h_t_product, .int v_t_tokens, .ref h_t_token, .ref h_t_heads, .ref h_t_before, .ref h_t_counts, .ref h_t_lengths, .ref h_t_fewCounts, .ref h_t_fewLengths, .ref h_t_weights, .ref h_t_parents, .ref h_t_symbols, .ref h_t_numbers, .ref h_t_fewNumbers, .ref h_t_firsts, .ref h_t_line, .int v_t_runs, .ref h_t_run, .ref h_t_rest, .int v_t_wide, .int v_t_deep, .int v_t_few, .ref h_t_ownLengths, .ref h_t_ownFew, .int v_t_kind, .int v_t_bytes, .int v_t_matches, .int v_t_storedBits, .int v_t_fixedBits, .int v_t_ownBits, .int v_t_out, .int v_t_pos, .int v_t_total, .int v_t_fault, .int v_t_place, .int v_t_made, .int v_t_limit, .int v_t_taken, .ref h_t_fresh, .ref h_t_many, .ref h_t_sorted]))] U.heap ∧ va_K (dC, dI) vwCl [(cB, .byte), (cI, .int), (cJ, .long)] U ∧ va_D (fun _ => True) [(h_t, .inr (11, [.int v_t_code, .int v_t_length, .ref h_t_row, .int v_t_size, .ref h_t_product, .int v_t_tokens, .ref h_t_token, .ref h_t_heads, .ref h_t_before, .ref h_t_counts, .ref h_t_lengths, .ref h_t_fewCounts, .ref h_t_fewLengths, .ref h_t_weights, .ref h_t_parents, .ref h_t_symbols, .ref h_t_numbers, .ref h_t_fewNumbers, .ref h_t_firsts, .ref h_t_line, .int v_t_runs, .ref h_t_run, .ref h_t_rest, .int v_t_wide, .int v_t_deep, .int v_t_few, .ref h_t_ownLengths, .ref h_t_ownFew, .int v_t_kind, .int v_t_bytes, .int v_t_matches, .int v_t_storedBits, .int v_t_fixedBits, .int v_t_ownBits, .int v_t_out, .int v_t_pos, .int v_t_total, .int v_t_fault, .int v_t_place, .int v_t_made, .int v_t_limit, .int v_t_taken, .ref h_t_fresh, .ref h_t_many, .ref h_t_sorted]))] ∧ NW U)) (va_Qi (fun r (_ : Unit) => r = o) (fun _ t => va_P (dC, dI) vwCl [(h_t, .inr (11, [.int v_t_code, .int v_t_length, .ref h_t_row, .int v_t_size, .ref h_t_product, .int v_t_tokens, .ref h_t_token, .ref h_t_heads, .ref h_t_before, .ref h_t_counts, .ref h_t_lengths, .ref h_t_fewCounts, .ref h_t_fewLengths, .ref h_t_weights, .ref h_t_parents, .ref h_t_symbols, .ref h_t_numbers, .ref h_t_fewNumbers, .ref h_t_firsts, .ref h_t_line, .int v_t_runs, .ref h_t_run, .ref h_t_rest, .int v_t_wide, .int v_t_deep, .int v_t_few, .ref h_t_ownLengths, .ref h_t_ownFew, .int v_t_kind, .int v_t_bytes, .int v_t_matches, .int v_t_storedBits, .int v_t_fixedBits, .int v_t_ownBits, .int v_t_out, .int v_t_pos, .int v_t_total, .int v_t_fault, .int v_t_place, .int v_t_made, .int v_t_limit, .int v_t_taken, .ref h_t_fresh, .ref h_t_many, .ref h_t_sorted]))] t.heap ∧ va_K (dC, dI) vwCl [(cB, .byte), (cI, .int), (cJ, .long)] t ∧ va_D (va_A [(h_t, .inr (11, [.int v_t_code, .int v_t_length, .ref h_t_row, .int v_t_size, .ref h_t_product, .int v_t_tokens, .ref h_t_token, .ref h_t_heads, .ref h_t_before, .ref h_t_counts, .ref h_t_lengths, .ref h_t_fewCounts, .ref h_t_fewLengths, .ref h_t_weights, .ref h_t_parents, .ref h_t_symbols, .ref h_t_numbers, .ref h_t_fewNumbers, .ref h_t_firsts, .ref h_t_line, .int v_t_runs, .ref h_t_run, .ref h_t_rest, .int v_t_wide, .int v_t_deep, .int v_t_few, .ref h_t_ownLengths, .ref h_t_ownFew, .int v_t_kind, .int v_t_bytes, .int v_t_matches, .int v_t_storedBits, .int v_t_fixedBits, .int v_t_ownBits, .int v_t_out, .int v_t_pos, .int v_t_total, .int v_t_fault, .int v_t_place, .int v_t_made, .int v_t_limit, .int v_t_taken, .ref h_t_fresh, .ref h_t_many, .ref h_t_sorted]))] sz) [(h_t, .inr (11, [.int v_t_code, .int v_t_length, .ref h_t_row, .int v_t_size, .ref h_t_product, .int v_t_tokens, .ref h_t_token, .ref h_t_heads, .ref h_t_before, .ref h_t_counts, .ref h_t_lengths, .ref h_t_fewCounts, .ref h_t_fewLengths, .ref h_t_weights, .ref h_t_parents, .ref h_t_symbols, .ref h_t_numbers, .ref h_t_fewNumbers, .ref h_t_firsts, .ref h_t_line, .int v_t_runs, .ref h_t_run, .ref h_t_rest, .int v_t_wide, .int v_t_deep, .int v_t_few, .ref h_t_ownLengths, .ref h_t_ownFew, .int v_t_kind, .int v_t_bytes, .int v_t_matches, .int v_t_storedBits, .int v_t_fixedBits, .int v_t_ownBits, .int v_t_out, .int v_t_pos, .int v_t_total, .int v_t_fault, .int v_t_place, .int v_t_made, .int v_t_limit, .int v_t_taken, .ref h_t_fresh, .ref h_t_many, .ref h_t_sorted]))]) (va_A [(h_t, .inr (11, [.int v_t_code, .int v_t_length, .ref h_t_row, .int v_t_size, .ref h_t_product, .int v_t_tokens, .ref h_t_token, .ref h_t_heads, .ref h_t_before, .ref h_t_counts, .ref h_t_lengths, .ref h_t_fewCounts, .ref h_t_fewLengths, .ref h_t_weights, .ref h_t_parents, .ref h_t_symbols, .ref h_t_numbers, .ref h_t_fewNumbers, .ref h_t_firsts, .ref h_t_line, .int v_t_runs, .ref h_t_run, .ref h_t_rest, .int v_t_wide, .int v_t_deep, .int v_t_few, .ref h_t_ownLengths, .ref h_t_ownFew, .int v_t_kind, .int v_t_bytes, .int v_t_matches, .int v_t_storedBits, .int v_t_fixedBits, .int v_t_ownBits, .int v_t_out, .int v_t_pos, .int v_t_total, .int v_t_fault, .int v_t_place, .int v_t_made, .int v_t_limit, .int v_t_taken, .ref h_t_fresh, .ref h_t_many, .ref h_t_sorted]))] sz)) 0 0 (va_A [(h_t, .inr (11, [.int v_t_code, .int v_t_length, .ref h_t_row, .int v_t_size, .ref h_t_product, .int v_t_tokens, .ref h_t_token, .ref h_t_heads, .ref h_t_before, .ref h_t_counts, .ref h_t_lengths, .ref h_t_fewCounts, .ref h_t_fewLengths, .ref h_t_weights, .ref h_t_parents, .ref h_t_symbols, .ref h_t_numbers, .ref h_t_fewNumbers, .ref h_t_firsts, .ref h_t_line, .int v_t_runs, .ref h_t_run, .ref h_t_rest, .int v_t_wide, .int v_t_deep, .int v_t_few, .ref h_t_ownLengths, .ref h_t_ownFew, .int v_t_kind, .int v_t_bytes, .int v_t_matches, .int v_t_storedBits, .int v_t_fixedBits, .int v_t_ownBits, .int v_t_out, .int v_t_pos, .int v_t_total, .int v_t_fault, .int v_t_place, .int v_t_made, .int v_t_limit, .int v_t_taken, .ref h_t_fresh, .ref h_t_many, .ref h_t_sorted]))] sz) := by
  refine Met.ofW (cc := b_Mo_thrown) (maxL := 1) (ret := (some .int)) (by decide) rfl ?_
  intro p e s m args below meth c s₁ B hml hv
  obtain ⟨rfl, hsz, hP, hK, hD0, hN⟩ := hv
  have hx := B.exec
  have hb := B.bytes
  have hr := B.returns
  have hts := atoms_spec (ws := w_Mo_thrown) B.pre
  have ht : ∀ w ∈ TB, w.before ([.ref h_t]).toArray s = true := fun w h => hts w (List.mem_cons_of_mem _ h)
  have hown : s.vm.findClass R_Mo = some m.cls := findClass_of_methodNamed B.named
  have hlocks := B.notSynchronized
  subst hsz
  have hD := hD0.self (sz := s.heap.size)
  generalize hAe : va_A [(h_t, .inr (11, [.int v_t_code, .int v_t_length, .ref h_t_row, .int v_t_size, .ref h_t_product, .int v_t_tokens, .ref h_t_token, .ref h_t_heads, .ref h_t_before, .ref h_t_counts, .ref h_t_lengths, .ref h_t_fewCounts, .ref h_t_fewLengths, .ref h_t_weights, .ref h_t_parents, .ref h_t_symbols, .ref h_t_numbers, .ref h_t_fewNumbers, .ref h_t_firsts, .ref h_t_line, .int v_t_runs, .ref h_t_run, .ref h_t_rest, .int v_t_wide, .int v_t_deep, .int v_t_few, .ref h_t_ownLengths, .ref h_t_ownFew, .int v_t_kind, .int v_t_bytes, .int v_t_matches, .int v_t_storedBits, .int v_t_fixedBits, .int v_t_ownBits, .int v_t_out, .int v_t_pos, .int v_t_total, .int v_t_fault, .int v_t_place, .int v_t_made, .int v_t_limit, .int v_t_taken, .ref h_t_fresh, .ref h_t_many, .ref h_t_sorted]))] s.heap.size = A at hD ⊢
  have hA : ∀ q : Nat, s.heap.size ≤ q → A q := fun q h => by rw [← hAe]; exact Or.inr h
  have hS : va_S A s.heap s.heap [] := va_S.rf
  have hP : va_P (dC, dI) vwCl [(h_t, .inr (11, [.int v_t_code, .int v_t_length, .ref h_t_row, .int v_t_size, .ref h_t_product, .int v_t_tokens, .ref h_t_token, .ref h_t_heads, .ref h_t_before, .ref h_t_counts, .ref h_t_lengths, .ref h_t_fewCounts, .ref h_t_fewLengths, .ref h_t_weights, .ref h_t_parents, .ref h_t_symbols, .ref h_t_numbers, .ref h_t_fewNumbers, .ref h_t_firsts, .ref h_t_line, .int v_t_runs, .ref h_t_run, .ref h_t_rest, .int v_t_wide, .int v_t_deep, .int v_t_few, .ref h_t_ownLengths, .ref h_t_ownFew, .int v_t_kind, .int v_t_bytes, .int v_t_matches, .int v_t_storedBits, .int v_t_fixedBits, .int v_t_ownBits, .int v_t_out, .int v_t_pos, .int v_t_total, .int v_t_fault, .int v_t_place, .int v_t_made, .int v_t_limit, .int v_t_taken, .ref h_t_fresh, .ref h_t_many, .ref h_t_sorted]))] s.heap := hP
  skip
  have hl := lv_entry ([.ref h_t]) (n := 1) (Nat.le_of_ble_eq_true rfl)
  rw [lg_entry_eq]
  generalize (lg_sl ([.ref h_t]) ++ List.replicate (1 - (lg_sl ([.ref h_t])).length) Slot.unset).toArray = ls at hl ⊢
  have hl : lv_has ls 1 [(0, .ref h_t)] := hl
  refine lv_aload_n hx hb d_Mo_thrown_0 rfl (lv_at hl 0 rfl) ?_
  refine va_get (D := (dC, dI)) (ci := 11) (v := .int v_t_code) (C := R_Mo) (T := F_Mo) (N := 45) hx hb ht in_Mo hown hK hP 0 rfl rfl 0 (by decide) (ht _ k_945) (fun _ h9 => h9) rfl d_Mo_thrown_1 ?_
  obtain rfl := Option.some.inj h
  exact W.iret (v := v_t_code) hx hb hr (fun t ht hW => ⟨⟨_, (), rfl, rfl, by rw [ht]; exact hP, va_K.moved hW.alike hK, hD⟩, hS.F ht⟩) hS.2.2 d_Mo_thrown_4
/-! PackedBytesModel.feed(IIIII)V -/
def fMo_feed_32 (N : Nat) (v_t_length : Int32) (x1 : Int32) (x2 : Int32) (x3 : Int32) (x4 : Int32) (x5 : Int32) : Nat → (Int32) → (Nat → Int32) → Option ((Nat → Int32))
  | 0, _, _ => none
  | k + 1, x6, f_t_row =>
    if (20 : Int32) ≤ x6 then
      some f_t_row
    else
      if ¬ ((v_t_length + x6) < 0 ∨ 65536 ≤ (v_t_length + x6).toNatClampNeg) then
        fMo_feed_32 N v_t_length x1 x2 x3 x4 x5 k (x6 + (1 : Int32)) (upd f_t_row (v_t_length + x6).toNatClampNeg (((if (4 : Int32) ≤ x6 then (if (8 : Int32) ≤ x6 then (if (12 : Int32) ≤ x6 then (if (16 : Int32) ≤ x6 then x5 else x4) else x3) else x2) else x1) >>> (((24 : Int32) - ((8 : Int32) * (x6 - x6 / (4 : Int32) * (4 : Int32)))) &&& 31)).toInt8.toInt32))
      else none
def fMo_feed (N : Nat) (p1 : Int32) (p2 : Int32) (p3 : Int32) (p4 : Int32) (p5 : Int32) (v_t_length : Int32) (f_t_row : Nat → Int32) : Option (Int32 × Int32 × (Nat → Int32)) :=
    if (if (v_t_length + (20 : Int32)) ≤ (65536 : Int32) then (0 : Int32) else (1 : Int32)) ≤ 0 then
      (fMo_feed_32 N v_t_length p1 p2 p3 p4 p5 N (0 : Int32) f_t_row).bind (fun y31 =>
        some (if (v_t_length + (20 : Int32)) ≤ (65536 : Int32) then (0 : Int32) else (1 : Int32), v_t_length + (20 : Int32), y31))
    else
      some (if (v_t_length + (20 : Int32)) ≤ (65536 : Int32) then (0 : Int32) else (1 : Int32), v_t_length, f_t_row)
set_option maxHeartbeats 4000000 in
set_option maxRecDepth 100000 in
theorem wMo_feed_32 {p : Program} {l : Launch} {e : Env} {s : State} {m : MethodId} {args : Array Value} {below : List Frame} {meth : Method} {c : Code} {Q : State → Prop} {A : Nat → Prop} {dC : Nat → ClassId} {dI : Nat → Nat → Nat} (h_t h_t_row h_t_product h_t_token h_t_heads h_t_before h_t_counts h_t_lengths h_t_fewCounts h_t_fewLengths h_t_weights h_t_parents h_t_symbols h_t_numbers h_t_fewNumbers h_t_firsts h_t_line h_t_run h_t_rest h_t_ownLengths h_t_ownFew h_t_fresh h_t_many h_t_sorted : Nat) (cB cI cJ : ClassId) (N : Nat) (v_t_code : Int32) (v_t_length : Int32) (v_t_size : Int32) (v_t_tokens : Int32) (v_t_runs : Int32) (v_t_wide : Int32) (v_t_deep : Int32) (v_t_few : Int32) (v_t_kind : Int32) (v_t_bytes : Int32) (v_t_matches : Int32) (v_t_storedBits : Int32) (v_t_fixedBits : Int32) (v_t_ownBits : Int32) (v_t_out : Int32) (v_t_pos : Int32) (v_t_total : Int32) (v_t_fault : Int32) (v_t_place : Int32) (v_t_made : Int32) (v_t_limit : Int32) (v_t_taken : Int32) (x1 : Int32) (x2 : Int32) (x3 : Int32) (x4 : Int32) (x5 : Int32) (C : CX p s m args c b_Mo_feed 8 R_Mo A (dC, dI) [(cB, .byte), (cI, .int), (cJ, .long)]) :
    ∀ (n : Nat) (x6 : Int32) (f_t_row : Nat → Int32) (H : Heap) (locs : List Loc) (ls : Array Slot) (o : (Nat → Int32)), va_P (dC, dI) vwCl [(h_t, .inr (11, [.int v_t_code, .int v_t_length, .ref h_t_row, .int v_t_size, .ref h_t_product, .int v_t_tokens, .ref h_t_token, .ref h_t_heads, .ref h_t_before, .ref h_t_counts, .ref h_t_lengths, .ref h_t_fewCounts, .ref h_t_fewLengths, .ref h_t_weights, .ref h_t_parents, .ref h_t_symbols, .ref h_t_numbers, .ref h_t_fewNumbers, .ref h_t_firsts, .ref h_t_line, .int v_t_runs, .ref h_t_run, .ref h_t_rest, .int v_t_wide, .int v_t_deep, .int v_t_few, .ref h_t_ownLengths, .ref h_t_ownFew, .int v_t_kind, .int v_t_bytes, .int v_t_matches, .int v_t_storedBits, .int v_t_fixedBits, .int v_t_ownBits, .int v_t_out, .int v_t_pos, .int v_t_total, .int v_t_fault, .int v_t_place, .int v_t_made, .int v_t_limit, .int v_t_taken, .ref h_t_fresh, .ref h_t_many, .ref h_t_sorted])), (h_t_row, .inl (cB, 65536, .inl (bf f_t_row)))] H → va_D A [(h_t, .inr (11, [.int v_t_code, .int v_t_length, .ref h_t_row, .int v_t_size, .ref h_t_product, .int v_t_tokens, .ref h_t_token, .ref h_t_heads, .ref h_t_before, .ref h_t_counts, .ref h_t_lengths, .ref h_t_fewCounts, .ref h_t_fewLengths, .ref h_t_weights, .ref h_t_parents, .ref h_t_symbols, .ref h_t_numbers, .ref h_t_fewNumbers, .ref h_t_firsts, .ref h_t_line, .int v_t_runs, .ref h_t_run, .ref h_t_rest, .int v_t_wide, .int v_t_deep, .int v_t_few, .ref h_t_ownLengths, .ref h_t_ownFew, .int v_t_kind, .int v_t_bytes, .int v_t_matches, .int v_t_storedBits, .int v_t_fixedBits, .int v_t_ownBits, .int v_t_out, .int v_t_pos, .int v_t_total, .int v_t_fault, .int v_t_place, .int v_t_made, .int v_t_limit, .int v_t_taken, .ref h_t_fresh, .ref h_t_many, .ref h_t_sorted])), (h_t_row, .inl (cB, 65536, .inl (bf f_t_row)))] → va_S A s.heap H locs → lv_has ls 8 [(0, .ref h_t), (1, .int x1), (2, .int x2), (3, .int x3), (4, .int x4), (5, .int x5), (6, .int x6)] → fMo_feed_32 N v_t_length x1 x2 x3 x4 x5 n x6 f_t_row = some o → (∀ (H : Heap) (locs : List Loc) (ls : Array Slot), va_P (dC, dI) vwCl [(h_t, .inr (11, [.int v_t_code, .int v_t_length, .ref h_t_row, .int v_t_size, .ref h_t_product, .int v_t_tokens, .ref h_t_token, .ref h_t_heads, .ref h_t_before, .ref h_t_counts, .ref h_t_lengths, .ref h_t_fewCounts, .ref h_t_fewLengths, .ref h_t_weights, .ref h_t_parents, .ref h_t_symbols, .ref h_t_numbers, .ref h_t_fewNumbers, .ref h_t_firsts, .ref h_t_line, .int v_t_runs, .ref h_t_run, .ref h_t_rest, .int v_t_wide, .int v_t_deep, .int v_t_few, .ref h_t_ownLengths, .ref h_t_ownFew, .int v_t_kind, .int v_t_bytes, .int v_t_matches, .int v_t_storedBits, .int v_t_fixedBits, .int v_t_ownBits, .int v_t_out, .int v_t_pos, .int v_t_total, .int v_t_fault, .int v_t_place, .int v_t_made, .int v_t_limit, .int v_t_taken, .ref h_t_fresh, .ref h_t_many, .ref h_t_sorted])), (h_t_row, .inl (cB, 65536, .inl (bf o)))] H → va_D A [(h_t, .inr (11, [.int v_t_code, .int v_t_length, .ref h_t_row, .int v_t_size, .ref h_t_product, .int v_t_tokens, .ref h_t_token, .ref h_t_heads, .ref h_t_before, .ref h_t_counts, .ref h_t_lengths, .ref h_t_fewCounts, .ref h_t_fewLengths, .ref h_t_weights, .ref h_t_parents, .ref h_t_symbols, .ref h_t_numbers, .ref h_t_fewNumbers, .ref h_t_firsts, .ref h_t_line, .int v_t_runs, .ref h_t_run, .ref h_t_rest, .int v_t_wide, .int v_t_deep, .int v_t_few, .ref h_t_ownLengths, .ref h_t_ownFew, .int v_t_kind, .int v_t_bytes, .int v_t_matches, .int v_t_storedBits, .int v_t_fixedBits, .int v_t_ownBits, .int v_t_out, .int v_t_pos, .int v_t_total, .int v_t_fault, .int v_t_place, .int v_t_made, .int v_t_limit, .int v_t_taken, .ref h_t_fresh, .ref h_t_many, .ref h_t_sorted])), (h_t_row, .inl (cB, 65536, .inl (bf o)))] → va_S A s.heap H locs → lv_has ls 8 [(0, .ref h_t)] → W p l e ({ frames := 0, cells := 0, slots := 0, locals := 0 } : Room) s m args below meth c H locs 0 0 Q (F0 m 119 ls [])) → W p l e ({ frames := 0, cells := 0, slots := 0, locals := 0 } : Room) s m args below meth c H locs 0 0 Q (F0 m 32 ls []) := by
  obtain ⟨hx, hb, hml, hown, ht, hA, hK, hN⟩ := id C
  intro n
  induction n with
  | zero => intro x6 f_t_row H locs ls o _ _ _ _ h; exact nomatch h
  | succ k ih =>
    intro x6 f_t_row H locs ls o hP hD hS hl h kx
    refine lv_iload hx hb d_Mo_feed_32 (lv_at hl 6 rfl) ?_
    refine lv_bipush (v := (20 : Int32)) hx hb d_Mo_feed_34 (by decide) ?_
    refine lv_icmp_ge (tgt := 119) hx hb d_Mo_feed_36 (by decide) (fun c5 => ?_) (fun c5 => ?_)
    · replace h := ip_p c5 h
      obtain rfl := Option.some.inj h
      exact kx _ _ _ hP hD hS (lv_sub hl [0] rfl)
    · replace h := ip_n c5 h
      refine lv_iload hx hb d_Mo_feed_39 (lv_at hl 6 rfl) ?_
      refine lv_iconst (v := (4 : Int32)) hx hb d_Mo_feed_41 (by decide) ?_
      refine lv_tern (J := 85) (cd := (4 : Int32) ≤ x6) (a := (if (8 : Int32) ≤ x6 then (if (12 : Int32) ≤ x6 then (if (16 : Int32) ≤ x6 then x5 else x4) else x3) else x2)) (b := x1) (rest := []) (fun k28 k29 => ?_) ?_
      · refine lv_icmp_ge (tgt := 49) hx hb d_Mo_feed_42 (by decide) (fun c18 => ?_) (fun c18 => ?_)
        · refine lv_iload hx hb d_Mo_feed_49 (lv_at hl 6 rfl) ?_
          refine lv_bipush (v := (8 : Int32)) hx hb d_Mo_feed_51 (by decide) ?_
          refine lv_tern (J := 85) (cd := (8 : Int32) ≤ x6) (a := (if (12 : Int32) ≤ x6 then (if (16 : Int32) ≤ x6 then x5 else x4) else x3)) (b := x2) (rest := []) (fun k26 k27 => ?_) ?_
          · refine lv_icmp_ge (tgt := 60) hx hb d_Mo_feed_53 (by decide) (fun c19 => ?_) (fun c19 => ?_)
            · refine lv_iload hx hb d_Mo_feed_60 (lv_at hl 6 rfl) ?_
              refine lv_bipush (v := (12 : Int32)) hx hb d_Mo_feed_62 (by decide) ?_
              refine lv_tern (J := 85) (cd := (12 : Int32) ≤ x6) (a := (if (16 : Int32) ≤ x6 then x5 else x4)) (b := x3) (rest := []) (fun k24 k25 => ?_) ?_
              · refine lv_icmp_ge (tgt := 71) hx hb d_Mo_feed_64 (by decide) (fun c20 => ?_) (fun c20 => ?_)
                · refine lv_iload hx hb d_Mo_feed_71 (lv_at hl 6 rfl) ?_
                  refine lv_bipush (v := (16 : Int32)) hx hb d_Mo_feed_73 (by decide) ?_
                  refine lv_tern (J := 85) (cd := (16 : Int32) ≤ x6) (a := x5) (b := x4) (rest := []) (fun k22 k23 => ?_) ?_
                  · refine lv_icmp_ge (tgt := 83) hx hb d_Mo_feed_75 (by decide) (fun c21 => ?_) (fun c21 => ?_)
                    · refine lv_iload hx hb d_Mo_feed_83 (lv_at hl 5 rfl) ?_
                      exact k22 c21
                    · refine lv_iload hx hb d_Mo_feed_78 (lv_at hl 4 rfl) ?_
                      refine lv_goto (tgt := 85) hx hb d_Mo_feed_80 (by decide) ?_
                      exact k23 c21
                  exact k24 c20
                · refine lv_iload_n hx hb d_Mo_feed_67 rfl (lv_at hl 3 rfl) ?_
                  refine lv_goto (tgt := 85) hx hb d_Mo_feed_68 (by decide) ?_
                  exact k25 c20
              exact k26 c19
            · refine lv_iload_n hx hb d_Mo_feed_56 rfl (lv_at hl 2 rfl) ?_
              refine lv_goto (tgt := 85) hx hb d_Mo_feed_57 (by decide) ?_
              exact k27 c19
          exact k28 c18
        · refine lv_iload_n hx hb d_Mo_feed_45 rfl (lv_at hl 1 rfl) ?_
          refine lv_goto (tgt := 85) hx hb d_Mo_feed_46 (by decide) ?_
          exact k29 c18
      refine lv_istore (lv' := [(7, .int (if (4 : Int32) ≤ x6 then (if (8 : Int32) ≤ x6 then (if (12 : Int32) ≤ x6 then (if (16 : Int32) ≤ x6 then x5 else x4) else x3) else x2) else x1)), (0, .ref h_t), (1, .int x1), (2, .int x2), (3, .int x3), (4, .int x4), (5, .int x5), (6, .int x6)]) hx hb d_Mo_feed_85 hl (by decide) rfl (fun ls hl => ?_)
      refine lv_aload_n hx hb d_Mo_feed_87 rfl (lv_at hl 1 rfl) ?_
      refine va_get (D := (dC, dI)) (ci := 11) (v := .ref h_t_row) (C := R_Mo) (T := F_Mo) (N := 45) hx hb ht in_Mo hown hK hP 0 rfl rfl 2 (by decide) (ht _ k_947) (fun _ h9 => h9) rfl d_Mo_feed_88 ?_
      refine lv_aload_n hx hb d_Mo_feed_91 rfl (lv_at hl 1 rfl) ?_
      refine va_get (D := (dC, dI)) (ci := 11) (v := .int v_t_length) (C := R_Mo) (T := F_Mo) (N := 45) hx hb ht in_Mo hown hK hP 0 rfl rfl 1 (by decide) (ht _ k_946) (fun _ h9 => h9) rfl d_Mo_feed_92 ?_
      refine lv_iload hx hb d_Mo_feed_95 (lv_at hl 7 rfl) ?_
      refine lv_iadd hx hb d_Mo_feed_97 ?_
      refine lv_iload hx hb d_Mo_feed_98 (lv_at hl 0 rfl) ?_
      refine lv_bipush (v := (24 : Int32)) hx hb d_Mo_feed_100 (by decide) ?_
      refine lv_bipush (v := (8 : Int32)) hx hb d_Mo_feed_102 (by decide) ?_
      refine lv_iload hx hb d_Mo_feed_104 (lv_at hl 7 rfl) ?_
      refine lv_iconst (v := (4 : Int32)) hx hb d_Mo_feed_106 (by decide) ?_
      refine lv_irem hx hb d_Mo_feed_107 (by decide) ?_
      refine lv_imul hx hb d_Mo_feed_108 ?_
      refine lv_isub hx hb d_Mo_feed_109 ?_
      refine lv_ishr hx hb d_Mo_feed_110 ?_
      refine lv_i2b (v := ((if (4 : Int32) ≤ x6 then (if (8 : Int32) ≤ x6 then (if (12 : Int32) ≤ x6 then (if (16 : Int32) ≤ x6 then x5 else x4) else x3) else x2) else x1) >>> (((24 : Int32) - ((8 : Int32) * (x6 - x6 / (4 : Int32) * (4 : Int32)))) &&& 31)).toInt8.toInt32) hx hb d_Mo_feed_111 rfl ?_
      obtain ⟨g30, h⟩ := gd h
      refine va_bast (f := bf f_t_row) hx hb hK hP hD hS 1 0 rfl rfl g30 d_Mo_feed_112 (fun H locs hP hD hS => ?_)
      rw [bf_upd] at hP hD
      have hP : va_P (dC, dI) vwCl [(h_t, .inr (11, [.int v_t_code, .int v_t_length, .ref h_t_row, .int v_t_size, .ref h_t_product, .int v_t_tokens, .ref h_t_token, .ref h_t_heads, .ref h_t_before, .ref h_t_counts, .ref h_t_lengths, .ref h_t_fewCounts, .ref h_t_fewLengths, .ref h_t_weights, .ref h_t_parents, .ref h_t_symbols, .ref h_t_numbers, .ref h_t_fewNumbers, .ref h_t_firsts, .ref h_t_line, .int v_t_runs, .ref h_t_run, .ref h_t_rest, .int v_t_wide, .int v_t_deep, .int v_t_few, .ref h_t_ownLengths, .ref h_t_ownFew, .int v_t_kind, .int v_t_bytes, .int v_t_matches, .int v_t_storedBits, .int v_t_fixedBits, .int v_t_ownBits, .int v_t_out, .int v_t_pos, .int v_t_total, .int v_t_fault, .int v_t_place, .int v_t_made, .int v_t_limit, .int v_t_taken, .ref h_t_fresh, .ref h_t_many, .ref h_t_sorted])), (h_t_row, .inl (cB, 65536, .inl (bf (upd f_t_row (v_t_length + x6).toNatClampNeg (((if (4 : Int32) ≤ x6 then (if (8 : Int32) ≤ x6 then (if (12 : Int32) ≤ x6 then (if (16 : Int32) ≤ x6 then x5 else x4) else x3) else x2) else x1) >>> (((24 : Int32) - ((8 : Int32) * (x6 - x6 / (4 : Int32) * (4 : Int32)))) &&& 31)).toInt8.toInt32)))))] H := hP
      have hD : va_D A [(h_t, .inr (11, [.int v_t_code, .int v_t_length, .ref h_t_row, .int v_t_size, .ref h_t_product, .int v_t_tokens, .ref h_t_token, .ref h_t_heads, .ref h_t_before, .ref h_t_counts, .ref h_t_lengths, .ref h_t_fewCounts, .ref h_t_fewLengths, .ref h_t_weights, .ref h_t_parents, .ref h_t_symbols, .ref h_t_numbers, .ref h_t_fewNumbers, .ref h_t_firsts, .ref h_t_line, .int v_t_runs, .ref h_t_run, .ref h_t_rest, .int v_t_wide, .int v_t_deep, .int v_t_few, .ref h_t_ownLengths, .ref h_t_ownFew, .int v_t_kind, .int v_t_bytes, .int v_t_matches, .int v_t_storedBits, .int v_t_fixedBits, .int v_t_ownBits, .int v_t_out, .int v_t_pos, .int v_t_total, .int v_t_fault, .int v_t_place, .int v_t_made, .int v_t_limit, .int v_t_taken, .ref h_t_fresh, .ref h_t_many, .ref h_t_sorted])), (h_t_row, .inl (cB, 65536, .inl (bf (upd f_t_row (v_t_length + x6).toNatClampNeg (((if (4 : Int32) ≤ x6 then (if (8 : Int32) ≤ x6 then (if (12 : Int32) ≤ x6 then (if (16 : Int32) ≤ x6 then x5 else x4) else x3) else x2) else x1) >>> (((24 : Int32) - ((8 : Int32) * (x6 - x6 / (4 : Int32) * (4 : Int32)))) &&& 31)).toInt8.toInt32)))))] := hD
      refine lv_iinc (v := x6 + (1 : Int32)) (lv' := [(6, .int (x6 + (1 : Int32))), (7, .int (if (4 : Int32) ≤ x6 then (if (8 : Int32) ≤ x6 then (if (12 : Int32) ≤ x6 then (if (16 : Int32) ≤ x6 then x5 else x4) else x3) else x2) else x1)), (0, .ref h_t), (1, .int x1), (2, .int x2), (3, .int x3), (4, .int x4), (5, .int x5)]) hx hb d_Mo_feed_113 hl (k := 7) rfl rfl (by decide) rfl (fun ls hl => ?_)
      refine lv_goto (tgt := 32) hx hb d_Mo_feed_116 (by decide) ?_
      exact ih (x6 + (1 : Int32)) (upd f_t_row (v_t_length + x6).toNatClampNeg (((if (4 : Int32) ≤ x6 then (if (8 : Int32) ≤ x6 then (if (12 : Int32) ≤ x6 then (if (16 : Int32) ≤ x6 then x5 else x4) else x3) else x2) else x1) >>> (((24 : Int32) - ((8 : Int32) * (x6 - x6 / (4 : Int32) * (4 : Int32)))) &&& 31)).toInt8.toInt32)) _ _ _ _ hP hD hS (lv_sub hl [2, 3, 4, 5, 6, 7, 0] rfl) h kx
set_option maxHeartbeats 4000000 in
set_option maxRecDepth 100000 in
theorem cMo_feed (l : Launch) (dC : Nat → ClassId) (dI : Nat → Nat → Nat) (h_t h_t_row h_t_product h_t_token h_t_heads h_t_before h_t_counts h_t_lengths h_t_fewCounts h_t_fewLengths h_t_weights h_t_parents h_t_symbols h_t_numbers h_t_fewNumbers h_t_firsts h_t_line h_t_run h_t_rest h_t_ownLengths h_t_ownFew h_t_fresh h_t_many h_t_sorted : Nat) (cB cI cJ : ClassId) (sz : Nat) (N : Nat) (p1 : Int32) (p2 : Int32) (p3 : Int32) (p4 : Int32) (p5 : Int32) (v_t_code : Int32) (v_t_length : Int32) (v_t_size : Int32) (v_t_tokens : Int32) (v_t_runs : Int32) (v_t_wide : Int32) (v_t_deep : Int32) (v_t_few : Int32) (v_t_kind : Int32) (v_t_bytes : Int32) (v_t_matches : Int32) (v_t_storedBits : Int32) (v_t_fixedBits : Int32) (v_t_ownBits : Int32) (v_t_out : Int32) (v_t_pos : Int32) (v_t_total : Int32) (v_t_fault : Int32) (v_t_place : Int32) (v_t_made : Int32) (v_t_limit : Int32) (v_t_taken : Int32) (f_t_row : Nat → Int32) (o : Int32 × Int32 × (Nat → Int32)) (h : fMo_feed N p1 p2 p3 p4 p5 v_t_length f_t_row = some o) : Met l y_Mo_feed w_Mo_feed ({ frames := 0, cells := 0, slots := 0, locals := 0 } : Room) (va_Pc [.ref h_t, .int p1, .int p2, .int p3, .int p4, .int p5] (fun U => U.heap.size = sz ∧ va_P (dC, dI) vwCl [(h_t, .inr (11, [.int v_t_code, .int v_t_length, .ref h_t_row, .int v_t_size, .ref h_t_product, .int v_t_tokens, .ref h_t_token, .ref h_t_heads, .ref h_t_before, .ref h_t_counts, .ref h_t_lengths, .ref h_t_fewCounts, .ref h_t_fewLengths, .ref h_t_weights, .ref h_t_parents, .ref h_t_symbols, .ref h_t_numbers, .ref h_t_fewNumbers, .ref h_t_firsts, .ref h_t_line, .int v_t_runs, .ref h_t_run, .ref h_t_rest, .int v_t_wide, .int v_t_deep, .int v_t_few, .ref h_t_ownLengths, .ref h_t_ownFew, .int v_t_kind, .int v_t_bytes, .int v_t_matches, .int v_t_storedBits, .int v_t_fixedBits, .int v_t_ownBits, .int v_t_out, .int v_t_pos, .int v_t_total, .int v_t_fault, .int v_t_place, .int v_t_made, .int v_t_limit, .int v_t_taken, .ref h_t_fresh, .ref h_t_many, .ref h_t_sorted])), (h_t_row, .inl (cB, 65536, .inl (bf f_t_row)))] U.heap ∧ va_K (dC, dI) vwCl [(cB, .byte), (cI, .int), (cJ, .long)] U ∧ va_D (fun _ => True) [(h_t, .inr (11, [.int v_t_code, .int v_t_length, .ref h_t_row, .int v_t_size, .ref h_t_product, .int v_t_tokens, .ref h_t_token, .ref h_t_heads, .ref h_t_before, .ref h_t_counts, .ref h_t_lengths, .ref h_t_fewCounts, .ref h_t_fewLengths, .ref h_t_weights, .ref h_t_parents, .ref h_t_symbols, .ref h_t_numbers, .ref h_t_fewNumbers, .ref h_t_firsts, .ref h_t_line, .int v_t_runs, .ref h_t_run, .ref h_t_rest, .int v_t_wide, .int v_t_deep, .int v_t_few, .ref h_t_ownLengths, .ref h_t_ownFew, .int v_t_kind, .int v_t_bytes, .int v_t_matches, .int v_t_storedBits, .int v_t_fixedBits, .int v_t_ownBits, .int v_t_out, .int v_t_pos, .int v_t_total, .int v_t_fault, .int v_t_place, .int v_t_made, .int v_t_limit, .int v_t_taken, .ref h_t_fresh, .ref h_t_many, .ref h_t_sorted])), (h_t_row, .inl (cB, 65536, .inl (bf f_t_row)))] ∧ NW U)) (va_Qv (fun _ : Unit => True) (fun _ t => va_P (dC, dI) vwCl [(h_t, .inr (11, [.int o.1, .int o.2.1, .ref h_t_row, .int v_t_size, .ref h_t_product, .int v_t_tokens, .ref h_t_token, .ref h_t_heads, .ref h_t_before, .ref h_t_counts, .ref h_t_lengths, .ref h_t_fewCounts, .ref h_t_fewLengths, .ref h_t_weights, .ref h_t_parents, .ref h_t_symbols, .ref h_t_numbers, .ref h_t_fewNumbers, .ref h_t_firsts, .ref h_t_line, .int v_t_runs, .ref h_t_run, .ref h_t_rest, .int v_t_wide, .int v_t_deep, .int v_t_few, .ref h_t_ownLengths, .ref h_t_ownFew, .int v_t_kind, .int v_t_bytes, .int v_t_matches, .int v_t_storedBits, .int v_t_fixedBits, .int v_t_ownBits, .int v_t_out, .int v_t_pos, .int v_t_total, .int v_t_fault, .int v_t_place, .int v_t_made, .int v_t_limit, .int v_t_taken, .ref h_t_fresh, .ref h_t_many, .ref h_t_sorted])), (h_t_row, .inl (cB, 65536, .inl (bf o.2.2)))] t.heap ∧ va_K (dC, dI) vwCl [(cB, .byte), (cI, .int), (cJ, .long)] t ∧ va_D (va_A [(h_t, .inr (11, [.int v_t_code, .int v_t_length, .ref h_t_row, .int v_t_size, .ref h_t_product, .int v_t_tokens, .ref h_t_token, .ref h_t_heads, .ref h_t_before, .ref h_t_counts, .ref h_t_lengths, .ref h_t_fewCounts, .ref h_t_fewLengths, .ref h_t_weights, .ref h_t_parents, .ref h_t_symbols, .ref h_t_numbers, .ref h_t_fewNumbers, .ref h_t_firsts, .ref h_t_line, .int v_t_runs, .ref h_t_run, .ref h_t_rest, .int v_t_wide, .int v_t_deep, .int v_t_few, .ref h_t_ownLengths, .ref h_t_ownFew, .int v_t_kind, .int v_t_bytes, .int v_t_matches, .int v_t_storedBits, .int v_t_fixedBits, .int v_t_ownBits, .int v_t_out, .int v_t_pos, .int v_t_total, .int v_t_fault, .int v_t_place, .int v_t_made, .int v_t_limit, .int v_t_taken, .ref h_t_fresh, .ref h_t_many, .ref h_t_sorted])), (h_t_row, .inl (cB, 65536, .inl (bf f_t_row)))] sz) [(h_t, .inr (11, [.int o.1, .int o.2.1, .ref h_t_row, .int v_t_size, .ref h_t_product, .int v_t_tokens, .ref h_t_token, .ref h_t_heads, .ref h_t_before, .ref h_t_counts, .ref h_t_lengths, .ref h_t_fewCounts, .ref h_t_fewLengths, .ref h_t_weights, .ref h_t_parents, .ref h_t_symbols, .ref h_t_numbers, .ref h_t_fewNumbers, .ref h_t_firsts, .ref h_t_line, .int v_t_runs, .ref h_t_run, .ref h_t_rest, .int v_t_wide, .int v_t_deep, .int v_t_few, .ref h_t_ownLengths, .ref h_t_ownFew, .int v_t_kind, .int v_t_bytes, .int v_t_matches, .int v_t_storedBits, .int v_t_fixedBits, .int v_t_ownBits, .int v_t_out, .int v_t_pos, .int v_t_total, .int v_t_fault, .int v_t_place, .int v_t_made, .int v_t_limit, .int v_t_taken, .ref h_t_fresh, .ref h_t_many, .ref h_t_sorted])), (h_t_row, .inl (cB, 65536, .inl (bf o.2.2)))]) (va_A [(h_t, .inr (11, [.int v_t_code, .int v_t_length, .ref h_t_row, .int v_t_size, .ref h_t_product, .int v_t_tokens, .ref h_t_token, .ref h_t_heads, .ref h_t_before, .ref h_t_counts, .ref h_t_lengths, .ref h_t_fewCounts, .ref h_t_fewLengths, .ref h_t_weights, .ref h_t_parents, .ref h_t_symbols, .ref h_t_numbers, .ref h_t_fewNumbers, .ref h_t_firsts, .ref h_t_line, .int v_t_runs, .ref h_t_run, .ref h_t_rest, .int v_t_wide, .int v_t_deep, .int v_t_few, .ref h_t_ownLengths, .ref h_t_ownFew, .int v_t_kind, .int v_t_bytes, .int v_t_matches, .int v_t_storedBits, .int v_t_fixedBits, .int v_t_ownBits, .int v_t_out, .int v_t_pos, .int v_t_total, .int v_t_fault, .int v_t_place, .int v_t_made, .int v_t_limit, .int v_t_taken, .ref h_t_fresh, .ref h_t_many, .ref h_t_sorted])), (h_t_row, .inl (cB, 65536, .inl (bf f_t_row)))] sz)) 0 0 (va_A [(h_t, .inr (11, [.int v_t_code, .int v_t_length, .ref h_t_row, .int v_t_size, .ref h_t_product, .int v_t_tokens, .ref h_t_token, .ref h_t_heads, .ref h_t_before, .ref h_t_counts, .ref h_t_lengths, .ref h_t_fewCounts, .ref h_t_fewLengths, .ref h_t_weights, .ref h_t_parents, .ref h_t_symbols, .ref h_t_numbers, .ref h_t_fewNumbers, .ref h_t_firsts, .ref h_t_line, .int v_t_runs, .ref h_t_run, .ref h_t_rest, .int v_t_wide, .int v_t_deep, .int v_t_few, .ref h_t_ownLengths, .ref h_t_ownFew, .int v_t_kind, .int v_t_bytes, .int v_t_matches, .int v_t_storedBits, .int v_t_fixedBits, .int v_t_ownBits, .int v_t_out, .int v_t_pos, .int v_t_total, .int v_t_fault, .int v_t_place, .int v_t_made, .int v_t_limit, .int v_t_taken, .ref h_t_fresh, .ref h_t_many, .ref h_t_sorted])), (h_t_row, .inl (cB, 65536, .inl (bf f_t_row)))] sz) := by
  refine Met.ofW (cc := b_Mo_feed) (maxL := 8) (ret := none) (by decide) rfl ?_
  intro p e s m args below meth c s₁ B hml hv
  obtain ⟨rfl, hsz, hP, hK, hD0, hN⟩ := hv
  have hx := B.exec
  have hb := B.bytes
  have hr := B.returns
  have hts := atoms_spec (ws := w_Mo_feed) B.pre
  have ht : ∀ w ∈ TB, w.before ([.ref h_t, .int p1, .int p2, .int p3, .int p4, .int p5]).toArray s = true := fun w h => hts w (List.mem_cons_of_mem _ h)
  have hown : s.vm.findClass R_Mo = some m.cls := findClass_of_methodNamed B.named
  have hlocks := B.notSynchronized
  subst hsz
  have hD := hD0.self (sz := s.heap.size)
  generalize hAe : va_A [(h_t, .inr (11, [.int v_t_code, .int v_t_length, .ref h_t_row, .int v_t_size, .ref h_t_product, .int v_t_tokens, .ref h_t_token, .ref h_t_heads, .ref h_t_before, .ref h_t_counts, .ref h_t_lengths, .ref h_t_fewCounts, .ref h_t_fewLengths, .ref h_t_weights, .ref h_t_parents, .ref h_t_symbols, .ref h_t_numbers, .ref h_t_fewNumbers, .ref h_t_firsts, .ref h_t_line, .int v_t_runs, .ref h_t_run, .ref h_t_rest, .int v_t_wide, .int v_t_deep, .int v_t_few, .ref h_t_ownLengths, .ref h_t_ownFew, .int v_t_kind, .int v_t_bytes, .int v_t_matches, .int v_t_storedBits, .int v_t_fixedBits, .int v_t_ownBits, .int v_t_out, .int v_t_pos, .int v_t_total, .int v_t_fault, .int v_t_place, .int v_t_made, .int v_t_limit, .int v_t_taken, .ref h_t_fresh, .ref h_t_many, .ref h_t_sorted])), (h_t_row, .inl (cB, 65536, .inl (bf f_t_row)))] s.heap.size = A at hD ⊢
  have hA : ∀ q : Nat, s.heap.size ≤ q → A q := fun q h => by rw [← hAe]; exact Or.inr h
  have hS : va_S A s.heap s.heap [] := va_S.rf
  have hP : va_P (dC, dI) vwCl [(h_t, .inr (11, [.int v_t_code, .int v_t_length, .ref h_t_row, .int v_t_size, .ref h_t_product, .int v_t_tokens, .ref h_t_token, .ref h_t_heads, .ref h_t_before, .ref h_t_counts, .ref h_t_lengths, .ref h_t_fewCounts, .ref h_t_fewLengths, .ref h_t_weights, .ref h_t_parents, .ref h_t_symbols, .ref h_t_numbers, .ref h_t_fewNumbers, .ref h_t_firsts, .ref h_t_line, .int v_t_runs, .ref h_t_run, .ref h_t_rest, .int v_t_wide, .int v_t_deep, .int v_t_few, .ref h_t_ownLengths, .ref h_t_ownFew, .int v_t_kind, .int v_t_bytes, .int v_t_matches, .int v_t_storedBits, .int v_t_fixedBits, .int v_t_ownBits, .int v_t_out, .int v_t_pos, .int v_t_total, .int v_t_fault, .int v_t_place, .int v_t_made, .int v_t_limit, .int v_t_taken, .ref h_t_fresh, .ref h_t_many, .ref h_t_sorted])), (h_t_row, .inl (cB, 65536, .inl (bf f_t_row)))] s.heap := hP
  have C : CX p s m ([.ref h_t, .int p1, .int p2, .int p3, .int p4, .int p5]).toArray c b_Mo_feed 8 R_Mo A (dC, dI) [(cB, .byte), (cI, .int), (cJ, .long)] := ⟨hx, hb, hml, hown, ht, hA, hK, hN⟩
  have hl := lv_entry ([.ref h_t, .int p1, .int p2, .int p3, .int p4, .int p5]) (n := 8) (Nat.le_of_ble_eq_true rfl)
  rw [lg_entry_eq]
  generalize (lg_sl ([.ref h_t, .int p1, .int p2, .int p3, .int p4, .int p5]) ++ List.replicate (8 - (lg_sl ([.ref h_t, .int p1, .int p2, .int p3, .int p4, .int p5])).length) Slot.unset).toArray = ls at hl ⊢
  have hl : lv_has ls 8 [(0, .ref h_t), (1, .int p1), (2, .int p2), (3, .int p3), (4, .int p4), (5, .int p5)] := hl
  refine lv_aload_n hx hb d_Mo_feed_0 rfl (lv_at hl 0 rfl) ?_
  refine lv_aload_n hx hb d_Mo_feed_1 rfl (lv_at hl 0 rfl) ?_
  refine va_get (D := (dC, dI)) (ci := 11) (v := .int v_t_length) (C := R_Mo) (T := F_Mo) (N := 45) hx hb ht in_Mo hown hK hP 0 rfl rfl 1 (by decide) (ht _ k_946) (fun _ h9 => h9) rfl d_Mo_feed_2 ?_
  refine lv_bipush (v := (20 : Int32)) hx hb d_Mo_feed_5 (by decide) ?_
  refine lv_iadd hx hb d_Mo_feed_7 ?_
  refine lv_ldc (v := (65536 : Int32)) hx hb hown (ht _ k_942) d_Mo_feed_8 ?_
  refine lv_tern (J := 18) (cd := (v_t_length + (20 : Int32)) ≤ (65536 : Int32)) (a := (0 : Int32)) (b := (1 : Int32)) (rest := [.ref h_t]) (fun k2 k3 => ?_) ?_
  · refine lv_icmp_le (tgt := 17) hx hb d_Mo_feed_10 (by decide) (fun c1 => ?_) (fun c1 => ?_)
    · refine lv_iconst (v := (0 : Int32)) hx hb d_Mo_feed_17 (by decide) ?_
      exact k2 c1
    · refine lv_iconst (v := (1 : Int32)) hx hb d_Mo_feed_13 (by decide) ?_
      refine lv_goto (tgt := 18) hx hb d_Mo_feed_14 (by decide) ?_
      exact k3 c1
  refine va_put (D := (dC, dI)) (ci := 11) (v := .int (if (v_t_length + (20 : Int32)) ≤ (65536 : Int32) then (0 : Int32) else (1 : Int32))) (ty := .int) (C := R_Mo) (T := F_Mo) (N := 45) hx hb ht in_Mo t_Mo t_Mo_ok n_Mo hown hK hP hD hS 0 rfl rfl 0 (by decide) (ht _ k_945) (fun _ h9 => h9) rfl (by decide +kernel) rfl rfl (Nat.le_of_ble_eq_true rfl) d_Mo_feed_18 (fun H locs hP hD hS => ?_)
  have hP : va_P (dC, dI) vwCl [(h_t, .inr (11, [.int (if (v_t_length + (20 : Int32)) ≤ (65536 : Int32) then (0 : Int32) else (1 : Int32)), .int v_t_length, .ref h_t_row, .int v_t_size, .ref h_t_product, .int v_t_tokens, .ref h_t_token, .ref h_t_heads, .ref h_t_before, .ref h_t_counts, .ref h_t_lengths, .ref h_t_fewCounts, .ref h_t_fewLengths, .ref h_t_weights, .ref h_t_parents, .ref h_t_symbols, .ref h_t_numbers, .ref h_t_fewNumbers, .ref h_t_firsts, .ref h_t_line, .int v_t_runs, .ref h_t_run, .ref h_t_rest, .int v_t_wide, .int v_t_deep, .int v_t_few, .ref h_t_ownLengths, .ref h_t_ownFew, .int v_t_kind, .int v_t_bytes, .int v_t_matches, .int v_t_storedBits, .int v_t_fixedBits, .int v_t_ownBits, .int v_t_out, .int v_t_pos, .int v_t_total, .int v_t_fault, .int v_t_place, .int v_t_made, .int v_t_limit, .int v_t_taken, .ref h_t_fresh, .ref h_t_many, .ref h_t_sorted])), (h_t_row, .inl (cB, 65536, .inl (bf f_t_row)))] H := hP
  have hD : va_D A [(h_t, .inr (11, [.int (if (v_t_length + (20 : Int32)) ≤ (65536 : Int32) then (0 : Int32) else (1 : Int32)), .int v_t_length, .ref h_t_row, .int v_t_size, .ref h_t_product, .int v_t_tokens, .ref h_t_token, .ref h_t_heads, .ref h_t_before, .ref h_t_counts, .ref h_t_lengths, .ref h_t_fewCounts, .ref h_t_fewLengths, .ref h_t_weights, .ref h_t_parents, .ref h_t_symbols, .ref h_t_numbers, .ref h_t_fewNumbers, .ref h_t_firsts, .ref h_t_line, .int v_t_runs, .ref h_t_run, .ref h_t_rest, .int v_t_wide, .int v_t_deep, .int v_t_few, .ref h_t_ownLengths, .ref h_t_ownFew, .int v_t_kind, .int v_t_bytes, .int v_t_matches, .int v_t_storedBits, .int v_t_fixedBits, .int v_t_ownBits, .int v_t_out, .int v_t_pos, .int v_t_total, .int v_t_fault, .int v_t_place, .int v_t_made, .int v_t_limit, .int v_t_taken, .ref h_t_fresh, .ref h_t_many, .ref h_t_sorted])), (h_t_row, .inl (cB, 65536, .inl (bf f_t_row)))] := hD
  refine lv_aload_n hx hb d_Mo_feed_21 rfl (lv_at hl 0 rfl) ?_
  refine va_get (D := (dC, dI)) (ci := 11) (v := .int (if (v_t_length + (20 : Int32)) ≤ (65536 : Int32) then (0 : Int32) else (1 : Int32))) (C := R_Mo) (T := F_Mo) (N := 45) hx hb ht in_Mo hown hK hP 0 rfl rfl 0 (by decide) (ht _ k_945) (fun _ h9 => h9) rfl d_Mo_feed_22 ?_
  refine lv_if_le (tgt := 29) hx hb d_Mo_feed_25 (by decide) (fun c4 => ?_) (fun c4 => ?_)
  · replace h := ip_p c4 h
    refine lv_iconst (v := (0 : Int32)) hx hb d_Mo_feed_29 (by decide) ?_
    refine lv_istore (lv' := [(6, .int (0 : Int32)), (0, .ref h_t), (1, .int p1), (2, .int p2), (3, .int p3), (4, .int p4), (5, .int p5)]) hx hb d_Mo_feed_30 hl (by decide) rfl (fun ls hl => ?_)
    obtain ⟨y31, hy31, h⟩ := bd h
    refine wMo_feed_32 h_t h_t_row h_t_product h_t_token h_t_heads h_t_before h_t_counts h_t_lengths h_t_fewCounts h_t_fewLengths h_t_weights h_t_parents h_t_symbols h_t_numbers h_t_fewNumbers h_t_firsts h_t_line h_t_run h_t_rest h_t_ownLengths h_t_ownFew h_t_fresh h_t_many h_t_sorted cB cI cJ N (if (v_t_length + (20 : Int32)) ≤ (65536 : Int32) then (0 : Int32) else (1 : Int32)) v_t_length v_t_size v_t_tokens v_t_runs v_t_wide v_t_deep v_t_few v_t_kind v_t_bytes v_t_matches v_t_storedBits v_t_fixedBits v_t_ownBits v_t_out v_t_pos v_t_total v_t_fault v_t_place v_t_made v_t_limit v_t_taken p1 p2 p3 p4 p5 C N (0 : Int32) f_t_row _ _ _ _ hP hD hS (lv_sub hl [1, 2, 3, 4, 5, 6, 0] rfl) hy31 (fun H locs ls hP hD hS hl => ?_)
    refine lv_aload_n hx hb d_Mo_feed_119 rfl (lv_at hl 0 rfl) ?_
    refine lv_aload_n hx hb d_Mo_feed_120 rfl (lv_at hl 0 rfl) ?_
    refine va_get (D := (dC, dI)) (ci := 11) (v := .int v_t_length) (C := R_Mo) (T := F_Mo) (N := 45) hx hb ht in_Mo hown hK hP 0 rfl rfl 1 (by decide) (ht _ k_946) (fun _ h9 => h9) rfl d_Mo_feed_121 ?_
    refine lv_bipush (v := (20 : Int32)) hx hb d_Mo_feed_124 (by decide) ?_
    refine lv_iadd hx hb d_Mo_feed_126 ?_
    refine va_put (D := (dC, dI)) (ci := 11) (v := .int (v_t_length + (20 : Int32))) (ty := .int) (C := R_Mo) (T := F_Mo) (N := 45) hx hb ht in_Mo t_Mo t_Mo_ok n_Mo hown hK hP hD hS 0 rfl rfl 1 (by decide) (ht _ k_946) (fun _ h9 => h9) rfl (by decide +kernel) rfl rfl (Nat.le_of_ble_eq_true rfl) d_Mo_feed_127 (fun H locs hP hD hS => ?_)
    have hP : va_P (dC, dI) vwCl [(h_t, .inr (11, [.int (if (v_t_length + (20 : Int32)) ≤ (65536 : Int32) then (0 : Int32) else (1 : Int32)), .int (v_t_length + (20 : Int32)), .ref h_t_row, .int v_t_size, .ref h_t_product, .int v_t_tokens, .ref h_t_token, .ref h_t_heads, .ref h_t_before, .ref h_t_counts, .ref h_t_lengths, .ref h_t_fewCounts, .ref h_t_fewLengths, .ref h_t_weights, .ref h_t_parents, .ref h_t_symbols, .ref h_t_numbers, .ref h_t_fewNumbers, .ref h_t_firsts, .ref h_t_line, .int v_t_runs, .ref h_t_run, .ref h_t_rest, .int v_t_wide, .int v_t_deep, .int v_t_few, .ref h_t_ownLengths, .ref h_t_ownFew, .int v_t_kind, .int v_t_bytes, .int v_t_matches, .int v_t_storedBits, .int v_t_fixedBits, .int v_t_ownBits, .int v_t_out, .int v_t_pos, .int v_t_total, .int v_t_fault, .int v_t_place, .int v_t_made, .int v_t_limit, .int v_t_taken, .ref h_t_fresh, .ref h_t_many, .ref h_t_sorted])), (h_t_row, .inl (cB, 65536, .inl (bf y31)))] H := hP
    have hD : va_D A [(h_t, .inr (11, [.int (if (v_t_length + (20 : Int32)) ≤ (65536 : Int32) then (0 : Int32) else (1 : Int32)), .int (v_t_length + (20 : Int32)), .ref h_t_row, .int v_t_size, .ref h_t_product, .int v_t_tokens, .ref h_t_token, .ref h_t_heads, .ref h_t_before, .ref h_t_counts, .ref h_t_lengths, .ref h_t_fewCounts, .ref h_t_fewLengths, .ref h_t_weights, .ref h_t_parents, .ref h_t_symbols, .ref h_t_numbers, .ref h_t_fewNumbers, .ref h_t_firsts, .ref h_t_line, .int v_t_runs, .ref h_t_run, .ref h_t_rest, .int v_t_wide, .int v_t_deep, .int v_t_few, .ref h_t_ownLengths, .ref h_t_ownFew, .int v_t_kind, .int v_t_bytes, .int v_t_matches, .int v_t_storedBits, .int v_t_fixedBits, .int v_t_ownBits, .int v_t_out, .int v_t_pos, .int v_t_total, .int v_t_fault, .int v_t_place, .int v_t_made, .int v_t_limit, .int v_t_taken, .ref h_t_fresh, .ref h_t_many, .ref h_t_sorted])), (h_t_row, .inl (cB, 65536, .inl (bf y31)))] := hD
    obtain rfl := Option.some.inj h
    exact W.vret hx hb hr (fun t ht hW => ⟨⟨(), rfl, trivial, by rw [ht]; exact hP, va_K.moved hW.alike hK, hD⟩, hS.F ht⟩) hS.2.2 d_Mo_feed_130
  · replace h := ip_n c4 h
    obtain rfl := Option.some.inj h
    exact W.vret hx hb hr (fun t ht hW => ⟨⟨(), rfl, trivial, by rw [ht]; exact hP, va_K.moved hW.alike hK, hD⟩, hS.F ht⟩) hS.2.2 d_Mo_feed_28
/-! PackedBytesModel.end(I)V -/
def fMo_end (N : Nat) (p1 : Int32) (v_t_length : Int32) : Option (Int32 × Int32) :=
    if (if p1 < 0 then (1 : Int32) else (if p1 ≤ v_t_length then (0 : Int32) else (1 : Int32))) = 0 then
      some (if p1 < 0 then (1 : Int32) else (if p1 ≤ v_t_length then (0 : Int32) else (1 : Int32)), p1)
    else
      some (if p1 < 0 then (1 : Int32) else (if p1 ≤ v_t_length then (0 : Int32) else (1 : Int32)), v_t_length)
set_option maxHeartbeats 4000000 in
set_option maxRecDepth 100000 in
theorem cMo_end (l : Launch) (dC : Nat → ClassId) (dI : Nat → Nat → Nat) (h_t h_t_row h_t_product h_t_token h_t_heads h_t_before h_t_counts h_t_lengths h_t_fewCounts h_t_fewLengths h_t_weights h_t_parents h_t_symbols h_t_numbers h_t_fewNumbers h_t_firsts h_t_line h_t_run h_t_rest h_t_ownLengths h_t_ownFew h_t_fresh h_t_many h_t_sorted : Nat) (cB cI cJ : ClassId) (sz : Nat) (N : Nat) (p1 : Int32) (v_t_code : Int32) (v_t_length : Int32) (v_t_size : Int32) (v_t_tokens : Int32) (v_t_runs : Int32) (v_t_wide : Int32) (v_t_deep : Int32) (v_t_few : Int32) (v_t_kind : Int32) (v_t_bytes : Int32) (v_t_matches : Int32) (v_t_storedBits : Int32) (v_t_fixedBits : Int32) (v_t_ownBits : Int32) (v_t_out : Int32) (v_t_pos : Int32) (v_t_total : Int32) (v_t_fault : Int32) (v_t_place : Int32) (v_t_made : Int32) (v_t_limit : Int32) (v_t_taken : Int32) (o : Int32 × Int32) (h : fMo_end N p1 v_t_length = some o) : Met l y_Mo_end w_Mo_end ({ frames := 0, cells := 0, slots := 0, locals := 0 } : Room) (va_Pc [.ref h_t, .int p1] (fun U => U.heap.size = sz ∧ va_P (dC, dI) vwCl [(h_t, .inr (11, [.int v_t_code, .int v_t_length, .ref h_t_row, .int v_t_size, .ref h_t_product, .int v_t_tokens, .ref h_t_token, .ref h_t_heads, .ref h_t_before, .ref h_t_counts, .ref h_t_lengths, .ref h_t_fewCounts, .ref h_t_fewLengths, .ref h_t_weights, .ref h_t_parents, .ref h_t_symbols, .ref h_t_numbers, .ref h_t_fewNumbers, .ref h_t_firsts, .ref h_t_line, .int v_t_runs, .ref h_t_run, .ref h_t_rest, .int v_t_wide, .int v_t_deep, .int v_t_few, .ref h_t_ownLengths, .ref h_t_ownFew, .int v_t_kind, .int v_t_bytes, .int v_t_matches, .int v_t_storedBits, .int v_t_fixedBits, .int v_t_ownBits, .int v_t_out, .int v_t_pos, .int v_t_total, .int v_t_fault, .int v_t_place, .int v_t_made, .int v_t_limit, .int v_t_taken, .ref h_t_fresh, .ref h_t_many, .ref h_t_sorted]))] U.heap ∧ va_K (dC, dI) vwCl [(cB, .byte), (cI, .int), (cJ, .long)] U ∧ va_D (fun _ => True) [(h_t, .inr (11, [.int v_t_code, .int v_t_length, .ref h_t_row, .int v_t_size, .ref h_t_product, .int v_t_tokens, .ref h_t_token, .ref h_t_heads, .ref h_t_before, .ref h_t_counts, .ref h_t_lengths, .ref h_t_fewCounts, .ref h_t_fewLengths, .ref h_t_weights, .ref h_t_parents, .ref h_t_symbols, .ref h_t_numbers, .ref h_t_fewNumbers, .ref h_t_firsts, .ref h_t_line, .int v_t_runs, .ref h_t_run, .ref h_t_rest, .int v_t_wide, .int v_t_deep, .int v_t_few, .ref h_t_ownLengths, .ref h_t_ownFew, .int v_t_kind, .int v_t_bytes, .int v_t_matches, .int v_t_storedBits, .int v_t_fixedBits, .int v_t_ownBits, .int v_t_out, .int v_t_pos, .int v_t_total, .int v_t_fault, .int v_t_place, .int v_t_made, .int v_t_limit, .int v_t_taken, .ref h_t_fresh, .ref h_t_many, .ref h_t_sorted]))] ∧ NW U)) (va_Qv (fun _ : Unit => True) (fun _ t => va_P (dC, dI) vwCl [(h_t, .inr (11, [.int o.1, .int o.2, .ref h_t_row, .int v_t_size, .ref h_t_product, .int v_t_tokens, .ref h_t_token, .ref h_t_heads, .ref h_t_before, .ref h_t_counts, .ref h_t_lengths, .ref h_t_fewCounts, .ref h_t_fewLengths, .ref h_t_weights, .ref h_t_parents, .ref h_t_symbols, .ref h_t_numbers, .ref h_t_fewNumbers, .ref h_t_firsts, .ref h_t_line, .int v_t_runs, .ref h_t_run, .ref h_t_rest, .int v_t_wide, .int v_t_deep, .int v_t_few, .ref h_t_ownLengths, .ref h_t_ownFew, .int v_t_kind, .int v_t_bytes, .int v_t_matches, .int v_t_storedBits, .int v_t_fixedBits, .int v_t_ownBits, .int v_t_out, .int v_t_pos, .int v_t_total, .int v_t_fault, .int v_t_place, .int v_t_made, .int v_t_limit, .int v_t_taken, .ref h_t_fresh, .ref h_t_many, .ref h_t_sorted]))] t.heap ∧ va_K (dC, dI) vwCl [(cB, .byte), (cI, .int), (cJ, .long)] t ∧ va_D (va_A [(h_t, .inr (11, [.int v_t_code, .int v_t_length, .ref h_t_row, .int v_t_size, .ref h_t_product, .int v_t_tokens, .ref h_t_token, .ref h_t_heads, .ref h_t_before, .ref h_t_counts, .ref h_t_lengths, .ref h_t_fewCounts, .ref h_t_fewLengths, .ref h_t_weights, .ref h_t_parents, .ref h_t_symbols, .ref h_t_numbers, .ref h_t_fewNumbers, .ref h_t_firsts, .ref h_t_line, .int v_t_runs, .ref h_t_run, .ref h_t_rest, .int v_t_wide, .int v_t_deep, .int v_t_few, .ref h_t_ownLengths, .ref h_t_ownFew, .int v_t_kind, .int v_t_bytes, .int v_t_matches, .int v_t_storedBits, .int v_t_fixedBits, .int v_t_ownBits, .int v_t_out, .int v_t_pos, .int v_t_total, .int v_t_fault, .int v_t_place, .int v_t_made, .int v_t_limit, .int v_t_taken, .ref h_t_fresh, .ref h_t_many, .ref h_t_sorted]))] sz) [(h_t, .inr (11, [.int o.1, .int o.2, .ref h_t_row, .int v_t_size, .ref h_t_product, .int v_t_tokens, .ref h_t_token, .ref h_t_heads, .ref h_t_before, .ref h_t_counts, .ref h_t_lengths, .ref h_t_fewCounts, .ref h_t_fewLengths, .ref h_t_weights, .ref h_t_parents, .ref h_t_symbols, .ref h_t_numbers, .ref h_t_fewNumbers, .ref h_t_firsts, .ref h_t_line, .int v_t_runs, .ref h_t_run, .ref h_t_rest, .int v_t_wide, .int v_t_deep, .int v_t_few, .ref h_t_ownLengths, .ref h_t_ownFew, .int v_t_kind, .int v_t_bytes, .int v_t_matches, .int v_t_storedBits, .int v_t_fixedBits, .int v_t_ownBits, .int v_t_out, .int v_t_pos, .int v_t_total, .int v_t_fault, .int v_t_place, .int v_t_made, .int v_t_limit, .int v_t_taken, .ref h_t_fresh, .ref h_t_many, .ref h_t_sorted]))]) (va_A [(h_t, .inr (11, [.int v_t_code, .int v_t_length, .ref h_t_row, .int v_t_size, .ref h_t_product, .int v_t_tokens, .ref h_t_token, .ref h_t_heads, .ref h_t_before, .ref h_t_counts, .ref h_t_lengths, .ref h_t_fewCounts, .ref h_t_fewLengths, .ref h_t_weights, .ref h_t_parents, .ref h_t_symbols, .ref h_t_numbers, .ref h_t_fewNumbers, .ref h_t_firsts, .ref h_t_line, .int v_t_runs, .ref h_t_run, .ref h_t_rest, .int v_t_wide, .int v_t_deep, .int v_t_few, .ref h_t_ownLengths, .ref h_t_ownFew, .int v_t_kind, .int v_t_bytes, .int v_t_matches, .int v_t_storedBits, .int v_t_fixedBits, .int v_t_ownBits, .int v_t_out, .int v_t_pos, .int v_t_total, .int v_t_fault, .int v_t_place, .int v_t_made, .int v_t_limit, .int v_t_taken, .ref h_t_fresh, .ref h_t_many, .ref h_t_sorted]))] sz)) 0 0 (va_A [(h_t, .inr (11, [.int v_t_code, .int v_t_length, .ref h_t_row, .int v_t_size, .ref h_t_product, .int v_t_tokens, .ref h_t_token, .ref h_t_heads, .ref h_t_before, .ref h_t_counts, .ref h_t_lengths, .ref h_t_fewCounts, .ref h_t_fewLengths, .ref h_t_weights, .ref h_t_parents, .ref h_t_symbols, .ref h_t_numbers, .ref h_t_fewNumbers, .ref h_t_firsts, .ref h_t_line, .int v_t_runs, .ref h_t_run, .ref h_t_rest, .int v_t_wide, .int v_t_deep, .int v_t_few, .ref h_t_ownLengths, .ref h_t_ownFew, .int v_t_kind, .int v_t_bytes, .int v_t_matches, .int v_t_storedBits, .int v_t_fixedBits, .int v_t_ownBits, .int v_t_out, .int v_t_pos, .int v_t_total, .int v_t_fault, .int v_t_place, .int v_t_made, .int v_t_limit, .int v_t_taken, .ref h_t_fresh, .ref h_t_many, .ref h_t_sorted]))] sz) := by
  refine Met.ofW (cc := b_Mo_end) (maxL := 2) (ret := none) (by decide) rfl ?_
  intro p e s m args below meth c s₁ B hml hv
  obtain ⟨rfl, hsz, hP, hK, hD0, hN⟩ := hv
  have hx := B.exec
  have hb := B.bytes
  have hr := B.returns
  have hts := atoms_spec (ws := w_Mo_end) B.pre
  have ht : ∀ w ∈ TB, w.before ([.ref h_t, .int p1]).toArray s = true := fun w h => hts w (List.mem_cons_of_mem _ h)
  have hown : s.vm.findClass R_Mo = some m.cls := findClass_of_methodNamed B.named
  have hlocks := B.notSynchronized
  subst hsz
  have hD := hD0.self (sz := s.heap.size)
  generalize hAe : va_A [(h_t, .inr (11, [.int v_t_code, .int v_t_length, .ref h_t_row, .int v_t_size, .ref h_t_product, .int v_t_tokens, .ref h_t_token, .ref h_t_heads, .ref h_t_before, .ref h_t_counts, .ref h_t_lengths, .ref h_t_fewCounts, .ref h_t_fewLengths, .ref h_t_weights, .ref h_t_parents, .ref h_t_symbols, .ref h_t_numbers, .ref h_t_fewNumbers, .ref h_t_firsts, .ref h_t_line, .int v_t_runs, .ref h_t_run, .ref h_t_rest, .int v_t_wide, .int v_t_deep, .int v_t_few, .ref h_t_ownLengths, .ref h_t_ownFew, .int v_t_kind, .int v_t_bytes, .int v_t_matches, .int v_t_storedBits, .int v_t_fixedBits, .int v_t_ownBits, .int v_t_out, .int v_t_pos, .int v_t_total, .int v_t_fault, .int v_t_place, .int v_t_made, .int v_t_limit, .int v_t_taken, .ref h_t_fresh, .ref h_t_many, .ref h_t_sorted]))] s.heap.size = A at hD ⊢
  have hA : ∀ q : Nat, s.heap.size ≤ q → A q := fun q h => by rw [← hAe]; exact Or.inr h
  have hS : va_S A s.heap s.heap [] := va_S.rf
  have hP : va_P (dC, dI) vwCl [(h_t, .inr (11, [.int v_t_code, .int v_t_length, .ref h_t_row, .int v_t_size, .ref h_t_product, .int v_t_tokens, .ref h_t_token, .ref h_t_heads, .ref h_t_before, .ref h_t_counts, .ref h_t_lengths, .ref h_t_fewCounts, .ref h_t_fewLengths, .ref h_t_weights, .ref h_t_parents, .ref h_t_symbols, .ref h_t_numbers, .ref h_t_fewNumbers, .ref h_t_firsts, .ref h_t_line, .int v_t_runs, .ref h_t_run, .ref h_t_rest, .int v_t_wide, .int v_t_deep, .int v_t_few, .ref h_t_ownLengths, .ref h_t_ownFew, .int v_t_kind, .int v_t_bytes, .int v_t_matches, .int v_t_storedBits, .int v_t_fixedBits, .int v_t_ownBits, .int v_t_out, .int v_t_pos, .int v_t_total, .int v_t_fault, .int v_t_place, .int v_t_made, .int v_t_limit, .int v_t_taken, .ref h_t_fresh, .ref h_t_many, .ref h_t_sorted]))] s.heap := hP
  skip
  have hl := lv_entry ([.ref h_t, .int p1]) (n := 2) (Nat.le_of_ble_eq_true rfl)
  rw [lg_entry_eq]
  generalize (lg_sl ([.ref h_t, .int p1]) ++ List.replicate (2 - (lg_sl ([.ref h_t, .int p1])).length) Slot.unset).toArray = ls at hl ⊢
  have hl : lv_has ls 2 [(0, .ref h_t), (1, .int p1)] := hl
  refine lv_aload_n hx hb d_Mo_end_0 rfl (lv_at hl 0 rfl) ?_
  refine lv_iload_n hx hb d_Mo_end_1 rfl (lv_at hl 1 rfl) ?_
  refine lv_tern (J := 18) (cd := p1 < 0) (a := (1 : Int32)) (b := (if p1 ≤ v_t_length then (0 : Int32) else (1 : Int32))) (rest := [.ref h_t]) (fun k5 k6 => ?_) ?_
  · refine lv_if_lt (tgt := 13) hx hb d_Mo_end_2 (by decide) (fun c1 => ?_) (fun c1 => ?_)
    · refine lv_iconst (v := (1 : Int32)) hx hb d_Mo_end_13 (by decide) ?_
      refine lv_goto (tgt := 18) hx hb d_Mo_end_14 (by decide) ?_
      exact k5 c1
    · refine lv_iload_n hx hb d_Mo_end_5 rfl (lv_at hl 1 rfl) ?_
      refine lv_aload_n hx hb d_Mo_end_6 rfl (lv_at hl 0 rfl) ?_
      refine va_get (D := (dC, dI)) (ci := 11) (v := .int v_t_length) (C := R_Mo) (T := F_Mo) (N := 45) hx hb ht in_Mo hown hK hP 0 rfl rfl 1 (by decide) (ht _ k_946) (fun _ h9 => h9) rfl d_Mo_end_7 ?_
      refine lv_tern (J := 18) (cd := p1 ≤ v_t_length) (a := (0 : Int32)) (b := (1 : Int32)) (rest := [.ref h_t]) (fun k3 k4 => ?_) ?_
      · refine lv_icmp_le (tgt := 17) hx hb d_Mo_end_10 (by decide) (fun c2 => ?_) (fun c2 => ?_)
        · refine lv_iconst (v := (0 : Int32)) hx hb d_Mo_end_17 (by decide) ?_
          exact k3 c2
        · refine lv_iconst (v := (1 : Int32)) hx hb d_Mo_end_13 (by decide) ?_
          refine lv_goto (tgt := 18) hx hb d_Mo_end_14 (by decide) ?_
          exact k4 c2
      exact k6 c1
  refine va_put (D := (dC, dI)) (ci := 11) (v := .int (if p1 < 0 then (1 : Int32) else (if p1 ≤ v_t_length then (0 : Int32) else (1 : Int32)))) (ty := .int) (C := R_Mo) (T := F_Mo) (N := 45) hx hb ht in_Mo t_Mo t_Mo_ok n_Mo hown hK hP hD hS 0 rfl rfl 0 (by decide) (ht _ k_945) (fun _ h9 => h9) rfl (by decide +kernel) rfl rfl (Nat.le_of_ble_eq_true rfl) d_Mo_end_18 (fun H locs hP hD hS => ?_)
  have hP : va_P (dC, dI) vwCl [(h_t, .inr (11, [.int (if p1 < 0 then (1 : Int32) else (if p1 ≤ v_t_length then (0 : Int32) else (1 : Int32))), .int v_t_length, .ref h_t_row, .int v_t_size, .ref h_t_product, .int v_t_tokens, .ref h_t_token, .ref h_t_heads, .ref h_t_before, .ref h_t_counts, .ref h_t_lengths, .ref h_t_fewCounts, .ref h_t_fewLengths, .ref h_t_weights, .ref h_t_parents, .ref h_t_symbols, .ref h_t_numbers, .ref h_t_fewNumbers, .ref h_t_firsts, .ref h_t_line, .int v_t_runs, .ref h_t_run, .ref h_t_rest, .int v_t_wide, .int v_t_deep, .int v_t_few, .ref h_t_ownLengths, .ref h_t_ownFew, .int v_t_kind, .int v_t_bytes, .int v_t_matches, .int v_t_storedBits, .int v_t_fixedBits, .int v_t_ownBits, .int v_t_out, .int v_t_pos, .int v_t_total, .int v_t_fault, .int v_t_place, .int v_t_made, .int v_t_limit, .int v_t_taken, .ref h_t_fresh, .ref h_t_many, .ref h_t_sorted]))] H := hP
  have hD : va_D A [(h_t, .inr (11, [.int (if p1 < 0 then (1 : Int32) else (if p1 ≤ v_t_length then (0 : Int32) else (1 : Int32))), .int v_t_length, .ref h_t_row, .int v_t_size, .ref h_t_product, .int v_t_tokens, .ref h_t_token, .ref h_t_heads, .ref h_t_before, .ref h_t_counts, .ref h_t_lengths, .ref h_t_fewCounts, .ref h_t_fewLengths, .ref h_t_weights, .ref h_t_parents, .ref h_t_symbols, .ref h_t_numbers, .ref h_t_fewNumbers, .ref h_t_firsts, .ref h_t_line, .int v_t_runs, .ref h_t_run, .ref h_t_rest, .int v_t_wide, .int v_t_deep, .int v_t_few, .ref h_t_ownLengths, .ref h_t_ownFew, .int v_t_kind, .int v_t_bytes, .int v_t_matches, .int v_t_storedBits, .int v_t_fixedBits, .int v_t_ownBits, .int v_t_out, .int v_t_pos, .int v_t_total, .int v_t_fault, .int v_t_place, .int v_t_made, .int v_t_limit, .int v_t_taken, .ref h_t_fresh, .ref h_t_many, .ref h_t_sorted]))] := hD
  refine lv_aload_n hx hb d_Mo_end_21 rfl (lv_at hl 0 rfl) ?_
  refine va_get (D := (dC, dI)) (ci := 11) (v := .int (if p1 < 0 then (1 : Int32) else (if p1 ≤ v_t_length then (0 : Int32) else (1 : Int32)))) (C := R_Mo) (T := F_Mo) (N := 45) hx hb ht in_Mo hown hK hP 0 rfl rfl 0 (by decide) (ht _ k_945) (fun _ h9 => h9) rfl d_Mo_end_22 ?_
  refine lv_if_ne (tgt := 33) hx hb d_Mo_end_25 (by decide) (fun c7 => ?_) (fun c7 => ?_)
  · replace h := ip_n c7 h
    obtain rfl := Option.some.inj h
    exact W.vret hx hb hr (fun t ht hW => ⟨⟨(), rfl, trivial, by rw [ht]; exact hP, va_K.moved hW.alike hK, hD⟩, hS.F ht⟩) hS.2.2 d_Mo_end_33
  · replace h := ip_p c7 h
    refine lv_aload_n hx hb d_Mo_end_28 rfl (lv_at hl 0 rfl) ?_
    refine lv_iload_n hx hb d_Mo_end_29 rfl (lv_at hl 1 rfl) ?_
    refine va_put (D := (dC, dI)) (ci := 11) (v := .int p1) (ty := .int) (C := R_Mo) (T := F_Mo) (N := 45) hx hb ht in_Mo t_Mo t_Mo_ok n_Mo hown hK hP hD hS 0 rfl rfl 1 (by decide) (ht _ k_946) (fun _ h9 => h9) rfl (by decide +kernel) rfl rfl (Nat.le_of_ble_eq_true rfl) d_Mo_end_30 (fun H locs hP hD hS => ?_)
    have hP : va_P (dC, dI) vwCl [(h_t, .inr (11, [.int (if p1 < 0 then (1 : Int32) else (if p1 ≤ v_t_length then (0 : Int32) else (1 : Int32))), .int p1, .ref h_t_row, .int v_t_size, .ref h_t_product, .int v_t_tokens, .ref h_t_token, .ref h_t_heads, .ref h_t_before, .ref h_t_counts, .ref h_t_lengths, .ref h_t_fewCounts, .ref h_t_fewLengths, .ref h_t_weights, .ref h_t_parents, .ref h_t_symbols, .ref h_t_numbers, .ref h_t_fewNumbers, .ref h_t_firsts, .ref h_t_line, .int v_t_runs, .ref h_t_run, .ref h_t_rest, .int v_t_wide, .int v_t_deep, .int v_t_few, .ref h_t_ownLengths, .ref h_t_ownFew, .int v_t_kind, .int v_t_bytes, .int v_t_matches, .int v_t_storedBits, .int v_t_fixedBits, .int v_t_ownBits, .int v_t_out, .int v_t_pos, .int v_t_total, .int v_t_fault, .int v_t_place, .int v_t_made, .int v_t_limit, .int v_t_taken, .ref h_t_fresh, .ref h_t_many, .ref h_t_sorted]))] H := hP
    have hD : va_D A [(h_t, .inr (11, [.int (if p1 < 0 then (1 : Int32) else (if p1 ≤ v_t_length then (0 : Int32) else (1 : Int32))), .int p1, .ref h_t_row, .int v_t_size, .ref h_t_product, .int v_t_tokens, .ref h_t_token, .ref h_t_heads, .ref h_t_before, .ref h_t_counts, .ref h_t_lengths, .ref h_t_fewCounts, .ref h_t_fewLengths, .ref h_t_weights, .ref h_t_parents, .ref h_t_symbols, .ref h_t_numbers, .ref h_t_fewNumbers, .ref h_t_firsts, .ref h_t_line, .int v_t_runs, .ref h_t_run, .ref h_t_rest, .int v_t_wide, .int v_t_deep, .int v_t_few, .ref h_t_ownLengths, .ref h_t_ownFew, .int v_t_kind, .int v_t_bytes, .int v_t_matches, .int v_t_storedBits, .int v_t_fixedBits, .int v_t_ownBits, .int v_t_out, .int v_t_pos, .int v_t_total, .int v_t_fault, .int v_t_place, .int v_t_made, .int v_t_limit, .int v_t_taken, .ref h_t_fresh, .ref h_t_many, .ref h_t_sorted]))] := hD
    obtain rfl := Option.some.inj h
    exact W.vret hx hb hr (fun t ht hW => ⟨⟨(), rfl, trivial, by rw [ht]; exact hP, va_K.moved hW.alike hK, hD⟩, hS.F ht⟩) hS.2.2 d_Mo_end_33
/-! PackedBytesModel.again(II)V -/
def fMo_again_57 (N : Nat) (v_t_length : Int32) (x1 : Int32) (x2 : Int32) : Nat → (Int32) → (Nat → Int32) → Option ((Nat → Int32))
  | 0, _, _ => none
  | k + 1, x3, f_t_row =>
    if x2 ≤ x3 then
      some f_t_row
    else
      if ¬ (((v_t_length + x3) - x1) < 0 ∨ 65536 ≤ ((v_t_length + x3) - x1).toNatClampNeg) then
        if ¬ ((v_t_length + x3) < 0 ∨ 65536 ≤ (v_t_length + x3).toNatClampNeg) then
          fMo_again_57 N v_t_length x1 x2 k (x3 + (1 : Int32)) (upd f_t_row (v_t_length + x3).toNatClampNeg ((f_t_row ((v_t_length + x3) - x1).toNatClampNeg).toInt8.toInt32))
        else none
      else none
def fMo_again (N : Nat) (p1 : Int32) (p2 : Int32) (v_t_length : Int32) (f_t_row : Nat → Int32) : Option (Int32 × Int32 × (Nat → Int32)) :=
    if (if p1 < (1 : Int32) then (1 : Int32) else (if v_t_length < p1 then (1 : Int32) else (if p2 < 0 then (1 : Int32) else (if p2 ≤ (65536 : Int32) then (if (v_t_length + p2) ≤ (65536 : Int32) then (0 : Int32) else (2 : Int32)) else (1 : Int32))))) ≤ 0 then
      (fMo_again_57 N v_t_length p1 p2 N (0 : Int32) f_t_row).bind (fun y20 =>
        some (if p1 < (1 : Int32) then (1 : Int32) else (if v_t_length < p1 then (1 : Int32) else (if p2 < 0 then (1 : Int32) else (if p2 ≤ (65536 : Int32) then (if (v_t_length + p2) ≤ (65536 : Int32) then (0 : Int32) else (2 : Int32)) else (1 : Int32)))), v_t_length + p2, y20))
    else
      some (if p1 < (1 : Int32) then (1 : Int32) else (if v_t_length < p1 then (1 : Int32) else (if p2 < 0 then (1 : Int32) else (if p2 ≤ (65536 : Int32) then (if (v_t_length + p2) ≤ (65536 : Int32) then (0 : Int32) else (2 : Int32)) else (1 : Int32)))), v_t_length, f_t_row)
set_option maxHeartbeats 4000000 in
set_option maxRecDepth 100000 in
theorem wMo_again_57 {p : Program} {l : Launch} {e : Env} {s : State} {m : MethodId} {args : Array Value} {below : List Frame} {meth : Method} {c : Code} {Q : State → Prop} {A : Nat → Prop} {dC : Nat → ClassId} {dI : Nat → Nat → Nat} (h_t h_t_row h_t_product h_t_token h_t_heads h_t_before h_t_counts h_t_lengths h_t_fewCounts h_t_fewLengths h_t_weights h_t_parents h_t_symbols h_t_numbers h_t_fewNumbers h_t_firsts h_t_line h_t_run h_t_rest h_t_ownLengths h_t_ownFew h_t_fresh h_t_many h_t_sorted : Nat) (cB cI cJ : ClassId) (N : Nat) (v_t_code : Int32) (v_t_length : Int32) (v_t_size : Int32) (v_t_tokens : Int32) (v_t_runs : Int32) (v_t_wide : Int32) (v_t_deep : Int32) (v_t_few : Int32) (v_t_kind : Int32) (v_t_bytes : Int32) (v_t_matches : Int32) (v_t_storedBits : Int32) (v_t_fixedBits : Int32) (v_t_ownBits : Int32) (v_t_out : Int32) (v_t_pos : Int32) (v_t_total : Int32) (v_t_fault : Int32) (v_t_place : Int32) (v_t_made : Int32) (v_t_limit : Int32) (v_t_taken : Int32) (x1 : Int32) (x2 : Int32) (C : CX p s m args c b_Mo_again 4 R_Mo A (dC, dI) [(cB, .byte), (cI, .int), (cJ, .long)]) :
    ∀ (n : Nat) (x3 : Int32) (f_t_row : Nat → Int32) (H : Heap) (locs : List Loc) (ls : Array Slot) (o : (Nat → Int32)), va_P (dC, dI) vwCl [(h_t, .inr (11, [.int v_t_code, .int v_t_length, .ref h_t_row, .int v_t_size, .ref h_t_product, .int v_t_tokens, .ref h_t_token, .ref h_t_heads, .ref h_t_before, .ref h_t_counts, .ref h_t_lengths, .ref h_t_fewCounts, .ref h_t_fewLengths, .ref h_t_weights, .ref h_t_parents, .ref h_t_symbols, .ref h_t_numbers, .ref h_t_fewNumbers, .ref h_t_firsts, .ref h_t_line, .int v_t_runs, .ref h_t_run, .ref h_t_rest, .int v_t_wide, .int v_t_deep, .int v_t_few, .ref h_t_ownLengths, .ref h_t_ownFew, .int v_t_kind, .int v_t_bytes, .int v_t_matches, .int v_t_storedBits, .int v_t_fixedBits, .int v_t_ownBits, .int v_t_out, .int v_t_pos, .int v_t_total, .int v_t_fault, .int v_t_place, .int v_t_made, .int v_t_limit, .int v_t_taken, .ref h_t_fresh, .ref h_t_many, .ref h_t_sorted])), (h_t_row, .inl (cB, 65536, .inl (bf f_t_row)))] H → va_D A [(h_t, .inr (11, [.int v_t_code, .int v_t_length, .ref h_t_row, .int v_t_size, .ref h_t_product, .int v_t_tokens, .ref h_t_token, .ref h_t_heads, .ref h_t_before, .ref h_t_counts, .ref h_t_lengths, .ref h_t_fewCounts, .ref h_t_fewLengths, .ref h_t_weights, .ref h_t_parents, .ref h_t_symbols, .ref h_t_numbers, .ref h_t_fewNumbers, .ref h_t_firsts, .ref h_t_line, .int v_t_runs, .ref h_t_run, .ref h_t_rest, .int v_t_wide, .int v_t_deep, .int v_t_few, .ref h_t_ownLengths, .ref h_t_ownFew, .int v_t_kind, .int v_t_bytes, .int v_t_matches, .int v_t_storedBits, .int v_t_fixedBits, .int v_t_ownBits, .int v_t_out, .int v_t_pos, .int v_t_total, .int v_t_fault, .int v_t_place, .int v_t_made, .int v_t_limit, .int v_t_taken, .ref h_t_fresh, .ref h_t_many, .ref h_t_sorted])), (h_t_row, .inl (cB, 65536, .inl (bf f_t_row)))] → va_S A s.heap H locs → lv_has ls 4 [(0, .ref h_t), (1, .int x1), (2, .int x2), (3, .int x3)] → fMo_again_57 N v_t_length x1 x2 n x3 f_t_row = some o → (∀ (H : Heap) (locs : List Loc) (ls : Array Slot), va_P (dC, dI) vwCl [(h_t, .inr (11, [.int v_t_code, .int v_t_length, .ref h_t_row, .int v_t_size, .ref h_t_product, .int v_t_tokens, .ref h_t_token, .ref h_t_heads, .ref h_t_before, .ref h_t_counts, .ref h_t_lengths, .ref h_t_fewCounts, .ref h_t_fewLengths, .ref h_t_weights, .ref h_t_parents, .ref h_t_symbols, .ref h_t_numbers, .ref h_t_fewNumbers, .ref h_t_firsts, .ref h_t_line, .int v_t_runs, .ref h_t_run, .ref h_t_rest, .int v_t_wide, .int v_t_deep, .int v_t_few, .ref h_t_ownLengths, .ref h_t_ownFew, .int v_t_kind, .int v_t_bytes, .int v_t_matches, .int v_t_storedBits, .int v_t_fixedBits, .int v_t_ownBits, .int v_t_out, .int v_t_pos, .int v_t_total, .int v_t_fault, .int v_t_place, .int v_t_made, .int v_t_limit, .int v_t_taken, .ref h_t_fresh, .ref h_t_many, .ref h_t_sorted])), (h_t_row, .inl (cB, 65536, .inl (bf o)))] H → va_D A [(h_t, .inr (11, [.int v_t_code, .int v_t_length, .ref h_t_row, .int v_t_size, .ref h_t_product, .int v_t_tokens, .ref h_t_token, .ref h_t_heads, .ref h_t_before, .ref h_t_counts, .ref h_t_lengths, .ref h_t_fewCounts, .ref h_t_fewLengths, .ref h_t_weights, .ref h_t_parents, .ref h_t_symbols, .ref h_t_numbers, .ref h_t_fewNumbers, .ref h_t_firsts, .ref h_t_line, .int v_t_runs, .ref h_t_run, .ref h_t_rest, .int v_t_wide, .int v_t_deep, .int v_t_few, .ref h_t_ownLengths, .ref h_t_ownFew, .int v_t_kind, .int v_t_bytes, .int v_t_matches, .int v_t_storedBits, .int v_t_fixedBits, .int v_t_ownBits, .int v_t_out, .int v_t_pos, .int v_t_total, .int v_t_fault, .int v_t_place, .int v_t_made, .int v_t_limit, .int v_t_taken, .ref h_t_fresh, .ref h_t_many, .ref h_t_sorted])), (h_t_row, .inl (cB, 65536, .inl (bf o)))] → va_S A s.heap H locs → lv_has ls 4 [(0, .ref h_t), (2, .int x2)] → W p l e ({ frames := 0, cells := 0, slots := 0, locals := 0 } : Room) s m args below meth c H locs 0 0 Q (F0 m 92 ls [])) → W p l e ({ frames := 0, cells := 0, slots := 0, locals := 0 } : Room) s m args below meth c H locs 0 0 Q (F0 m 57 ls []) := by
  obtain ⟨hx, hb, hml, hown, ht, hA, hK, hN⟩ := id C
  intro n
  induction n with
  | zero => intro x3 f_t_row H locs ls o _ _ _ _ h; exact nomatch h
  | succ k ih =>
    intro x3 f_t_row H locs ls o hP hD hS hl h kx
    refine lv_iload_n hx hb d_Mo_again_57 rfl (lv_at hl 3 rfl) ?_
    refine lv_iload_n hx hb d_Mo_again_58 rfl (lv_at hl 2 rfl) ?_
    refine lv_icmp_ge (tgt := 92) hx hb d_Mo_again_59 (by decide) (fun c17 => ?_) (fun c17 => ?_)
    · replace h := ip_p c17 h
      obtain rfl := Option.some.inj h
      exact kx _ _ _ hP hD hS (lv_sub hl [0, 2] rfl)
    · replace h := ip_n c17 h
      refine lv_aload_n hx hb d_Mo_again_62 rfl (lv_at hl 0 rfl) ?_
      refine va_get (D := (dC, dI)) (ci := 11) (v := .ref h_t_row) (C := R_Mo) (T := F_Mo) (N := 45) hx hb ht in_Mo hown hK hP 0 rfl rfl 2 (by decide) (ht _ k_947) (fun _ h9 => h9) rfl d_Mo_again_63 ?_
      refine lv_aload_n hx hb d_Mo_again_66 rfl (lv_at hl 0 rfl) ?_
      refine va_get (D := (dC, dI)) (ci := 11) (v := .int v_t_length) (C := R_Mo) (T := F_Mo) (N := 45) hx hb ht in_Mo hown hK hP 0 rfl rfl 1 (by decide) (ht _ k_946) (fun _ h9 => h9) rfl d_Mo_again_67 ?_
      refine lv_iload_n hx hb d_Mo_again_70 rfl (lv_at hl 3 rfl) ?_
      refine lv_iadd hx hb d_Mo_again_71 ?_
      refine lv_aload_n hx hb d_Mo_again_72 rfl (lv_at hl 0 rfl) ?_
      refine va_get (D := (dC, dI)) (ci := 11) (v := .ref h_t_row) (C := R_Mo) (T := F_Mo) (N := 45) hx hb ht in_Mo hown hK hP 0 rfl rfl 2 (by decide) (ht _ k_947) (fun _ h9 => h9) rfl d_Mo_again_73 ?_
      refine lv_aload_n hx hb d_Mo_again_76 rfl (lv_at hl 0 rfl) ?_
      refine va_get (D := (dC, dI)) (ci := 11) (v := .int v_t_length) (C := R_Mo) (T := F_Mo) (N := 45) hx hb ht in_Mo hown hK hP 0 rfl rfl 1 (by decide) (ht _ k_946) (fun _ h9 => h9) rfl d_Mo_again_77 ?_
      refine lv_iload_n hx hb d_Mo_again_80 rfl (lv_at hl 3 rfl) ?_
      refine lv_iadd hx hb d_Mo_again_81 ?_
      refine lv_iload_n hx hb d_Mo_again_82 rfl (lv_at hl 1 rfl) ?_
      refine lv_isub hx hb d_Mo_again_83 ?_
      obtain ⟨g18, h⟩ := gd h
      refine va_bald (f := bf f_t_row) hx hb hK hP 1 0 rfl rfl g18 d_Mo_again_84 ?_
      obtain ⟨g19, h⟩ := gd h
      refine va_bast (f := bf f_t_row) hx hb hK hP hD hS 1 0 rfl rfl g19 d_Mo_again_85 (fun H locs hP hD hS => ?_)
      rw [bf_upd] at hP hD
      have hP : va_P (dC, dI) vwCl [(h_t, .inr (11, [.int v_t_code, .int v_t_length, .ref h_t_row, .int v_t_size, .ref h_t_product, .int v_t_tokens, .ref h_t_token, .ref h_t_heads, .ref h_t_before, .ref h_t_counts, .ref h_t_lengths, .ref h_t_fewCounts, .ref h_t_fewLengths, .ref h_t_weights, .ref h_t_parents, .ref h_t_symbols, .ref h_t_numbers, .ref h_t_fewNumbers, .ref h_t_firsts, .ref h_t_line, .int v_t_runs, .ref h_t_run, .ref h_t_rest, .int v_t_wide, .int v_t_deep, .int v_t_few, .ref h_t_ownLengths, .ref h_t_ownFew, .int v_t_kind, .int v_t_bytes, .int v_t_matches, .int v_t_storedBits, .int v_t_fixedBits, .int v_t_ownBits, .int v_t_out, .int v_t_pos, .int v_t_total, .int v_t_fault, .int v_t_place, .int v_t_made, .int v_t_limit, .int v_t_taken, .ref h_t_fresh, .ref h_t_many, .ref h_t_sorted])), (h_t_row, .inl (cB, 65536, .inl (bf (upd f_t_row (v_t_length + x3).toNatClampNeg ((f_t_row ((v_t_length + x3) - x1).toNatClampNeg).toInt8.toInt32)))))] H := hP
      have hD : va_D A [(h_t, .inr (11, [.int v_t_code, .int v_t_length, .ref h_t_row, .int v_t_size, .ref h_t_product, .int v_t_tokens, .ref h_t_token, .ref h_t_heads, .ref h_t_before, .ref h_t_counts, .ref h_t_lengths, .ref h_t_fewCounts, .ref h_t_fewLengths, .ref h_t_weights, .ref h_t_parents, .ref h_t_symbols, .ref h_t_numbers, .ref h_t_fewNumbers, .ref h_t_firsts, .ref h_t_line, .int v_t_runs, .ref h_t_run, .ref h_t_rest, .int v_t_wide, .int v_t_deep, .int v_t_few, .ref h_t_ownLengths, .ref h_t_ownFew, .int v_t_kind, .int v_t_bytes, .int v_t_matches, .int v_t_storedBits, .int v_t_fixedBits, .int v_t_ownBits, .int v_t_out, .int v_t_pos, .int v_t_total, .int v_t_fault, .int v_t_place, .int v_t_made, .int v_t_limit, .int v_t_taken, .ref h_t_fresh, .ref h_t_many, .ref h_t_sorted])), (h_t_row, .inl (cB, 65536, .inl (bf (upd f_t_row (v_t_length + x3).toNatClampNeg ((f_t_row ((v_t_length + x3) - x1).toNatClampNeg).toInt8.toInt32)))))] := hD
      refine lv_iinc (v := x3 + (1 : Int32)) (lv' := [(3, .int (x3 + (1 : Int32))), (0, .ref h_t), (1, .int x1), (2, .int x2)]) hx hb d_Mo_again_86 hl (k := 3) rfl rfl (by decide) rfl (fun ls hl => ?_)
      refine lv_goto (tgt := 57) hx hb d_Mo_again_89 (by decide) ?_
      exact ih (x3 + (1 : Int32)) (upd f_t_row (v_t_length + x3).toNatClampNeg ((f_t_row ((v_t_length + x3) - x1).toNatClampNeg).toInt8.toInt32)) _ _ _ _ hP hD hS (lv_sub hl [1, 2, 3, 0] rfl) h kx
set_option maxHeartbeats 4000000 in
set_option maxRecDepth 100000 in
theorem cMo_again (l : Launch) (dC : Nat → ClassId) (dI : Nat → Nat → Nat) (h_t h_t_row h_t_product h_t_token h_t_heads h_t_before h_t_counts h_t_lengths h_t_fewCounts h_t_fewLengths h_t_weights h_t_parents h_t_symbols h_t_numbers h_t_fewNumbers h_t_firsts h_t_line h_t_run h_t_rest h_t_ownLengths h_t_ownFew h_t_fresh h_t_many h_t_sorted : Nat) (cB cI cJ : ClassId) (sz : Nat) (N : Nat) (p1 : Int32) (p2 : Int32) (v_t_code : Int32) (v_t_length : Int32) (v_t_size : Int32) (v_t_tokens : Int32) (v_t_runs : Int32) (v_t_wide : Int32) (v_t_deep : Int32) (v_t_few : Int32) (v_t_kind : Int32) (v_t_bytes : Int32) (v_t_matches : Int32) (v_t_storedBits : Int32) (v_t_fixedBits : Int32) (v_t_ownBits : Int32) (v_t_out : Int32) (v_t_pos : Int32) (v_t_total : Int32) (v_t_fault : Int32) (v_t_place : Int32) (v_t_made : Int32) (v_t_limit : Int32) (v_t_taken : Int32) (f_t_row : Nat → Int32) (o : Int32 × Int32 × (Nat → Int32)) (h : fMo_again N p1 p2 v_t_length f_t_row = some o) : Met l y_Mo_again w_Mo_again ({ frames := 0, cells := 0, slots := 0, locals := 0 } : Room) (va_Pc [.ref h_t, .int p1, .int p2] (fun U => U.heap.size = sz ∧ va_P (dC, dI) vwCl [(h_t, .inr (11, [.int v_t_code, .int v_t_length, .ref h_t_row, .int v_t_size, .ref h_t_product, .int v_t_tokens, .ref h_t_token, .ref h_t_heads, .ref h_t_before, .ref h_t_counts, .ref h_t_lengths, .ref h_t_fewCounts, .ref h_t_fewLengths, .ref h_t_weights, .ref h_t_parents, .ref h_t_symbols, .ref h_t_numbers, .ref h_t_fewNumbers, .ref h_t_firsts, .ref h_t_line, .int v_t_runs, .ref h_t_run, .ref h_t_rest, .int v_t_wide, .int v_t_deep, .int v_t_few, .ref h_t_ownLengths, .ref h_t_ownFew, .int v_t_kind, .int v_t_bytes, .int v_t_matches, .int v_t_storedBits, .int v_t_fixedBits, .int v_t_ownBits, .int v_t_out, .int v_t_pos, .int v_t_total, .int v_t_fault, .int v_t_place, .int v_t_made, .int v_t_limit, .int v_t_taken, .ref h_t_fresh, .ref h_t_many, .ref h_t_sorted])), (h_t_row, .inl (cB, 65536, .inl (bf f_t_row)))] U.heap ∧ va_K (dC, dI) vwCl [(cB, .byte), (cI, .int), (cJ, .long)] U ∧ va_D (fun _ => True) [(h_t, .inr (11, [.int v_t_code, .int v_t_length, .ref h_t_row, .int v_t_size, .ref h_t_product, .int v_t_tokens, .ref h_t_token, .ref h_t_heads, .ref h_t_before, .ref h_t_counts, .ref h_t_lengths, .ref h_t_fewCounts, .ref h_t_fewLengths, .ref h_t_weights, .ref h_t_parents, .ref h_t_symbols, .ref h_t_numbers, .ref h_t_fewNumbers, .ref h_t_firsts, .ref h_t_line, .int v_t_runs, .ref h_t_run, .ref h_t_rest, .int v_t_wide, .int v_t_deep, .int v_t_few, .ref h_t_ownLengths, .ref h_t_ownFew, .int v_t_kind, .int v_t_bytes, .int v_t_matches, .int v_t_storedBits, .int v_t_fixedBits, .int v_t_ownBits, .int v_t_out, .int v_t_pos, .int v_t_total, .int v_t_fault, .int v_t_place, .int v_t_made, .int v_t_limit, .int v_t_taken, .ref h_t_fresh, .ref h_t_many, .ref h_t_sorted])), (h_t_row, .inl (cB, 65536, .inl (bf f_t_row)))] ∧ NW U)) (va_Qv (fun _ : Unit => True) (fun _ t => va_P (dC, dI) vwCl [(h_t, .inr (11, [.int o.1, .int o.2.1, .ref h_t_row, .int v_t_size, .ref h_t_product, .int v_t_tokens, .ref h_t_token, .ref h_t_heads, .ref h_t_before, .ref h_t_counts, .ref h_t_lengths, .ref h_t_fewCounts, .ref h_t_fewLengths, .ref h_t_weights, .ref h_t_parents, .ref h_t_symbols, .ref h_t_numbers, .ref h_t_fewNumbers, .ref h_t_firsts, .ref h_t_line, .int v_t_runs, .ref h_t_run, .ref h_t_rest, .int v_t_wide, .int v_t_deep, .int v_t_few, .ref h_t_ownLengths, .ref h_t_ownFew, .int v_t_kind, .int v_t_bytes, .int v_t_matches, .int v_t_storedBits, .int v_t_fixedBits, .int v_t_ownBits, .int v_t_out, .int v_t_pos, .int v_t_total, .int v_t_fault, .int v_t_place, .int v_t_made, .int v_t_limit, .int v_t_taken, .ref h_t_fresh, .ref h_t_many, .ref h_t_sorted])), (h_t_row, .inl (cB, 65536, .inl (bf o.2.2)))] t.heap ∧ va_K (dC, dI) vwCl [(cB, .byte), (cI, .int), (cJ, .long)] t ∧ va_D (va_A [(h_t, .inr (11, [.int v_t_code, .int v_t_length, .ref h_t_row, .int v_t_size, .ref h_t_product, .int v_t_tokens, .ref h_t_token, .ref h_t_heads, .ref h_t_before, .ref h_t_counts, .ref h_t_lengths, .ref h_t_fewCounts, .ref h_t_fewLengths, .ref h_t_weights, .ref h_t_parents, .ref h_t_symbols, .ref h_t_numbers, .ref h_t_fewNumbers, .ref h_t_firsts, .ref h_t_line, .int v_t_runs, .ref h_t_run, .ref h_t_rest, .int v_t_wide, .int v_t_deep, .int v_t_few, .ref h_t_ownLengths, .ref h_t_ownFew, .int v_t_kind, .int v_t_bytes, .int v_t_matches, .int v_t_storedBits, .int v_t_fixedBits, .int v_t_ownBits, .int v_t_out, .int v_t_pos, .int v_t_total, .int v_t_fault, .int v_t_place, .int v_t_made, .int v_t_limit, .int v_t_taken, .ref h_t_fresh, .ref h_t_many, .ref h_t_sorted])), (h_t_row, .inl (cB, 65536, .inl (bf f_t_row)))] sz) [(h_t, .inr (11, [.int o.1, .int o.2.1, .ref h_t_row, .int v_t_size, .ref h_t_product, .int v_t_tokens, .ref h_t_token, .ref h_t_heads, .ref h_t_before, .ref h_t_counts, .ref h_t_lengths, .ref h_t_fewCounts, .ref h_t_fewLengths, .ref h_t_weights, .ref h_t_parents, .ref h_t_symbols, .ref h_t_numbers, .ref h_t_fewNumbers, .ref h_t_firsts, .ref h_t_line, .int v_t_runs, .ref h_t_run, .ref h_t_rest, .int v_t_wide, .int v_t_deep, .int v_t_few, .ref h_t_ownLengths, .ref h_t_ownFew, .int v_t_kind, .int v_t_bytes, .int v_t_matches, .int v_t_storedBits, .int v_t_fixedBits, .int v_t_ownBits, .int v_t_out, .int v_t_pos, .int v_t_total, .int v_t_fault, .int v_t_place, .int v_t_made, .int v_t_limit, .int v_t_taken, .ref h_t_fresh, .ref h_t_many, .ref h_t_sorted])), (h_t_row, .inl (cB, 65536, .inl (bf o.2.2)))]) (va_A [(h_t, .inr (11, [.int v_t_code, .int v_t_length, .ref h_t_row, .int v_t_size, .ref h_t_product, .int v_t_tokens, .ref h_t_token, .ref h_t_heads, .ref h_t_before, .ref h_t_counts, .ref h_t_lengths, .ref h_t_fewCounts, .ref h_t_fewLengths, .ref h_t_weights, .ref h_t_parents, .ref h_t_symbols, .ref h_t_numbers, .ref h_t_fewNumbers, .ref h_t_firsts, .ref h_t_line, .int v_t_runs, .ref h_t_run, .ref h_t_rest, .int v_t_wide, .int v_t_deep, .int v_t_few, .ref h_t_ownLengths, .ref h_t_ownFew, .int v_t_kind, .int v_t_bytes, .int v_t_matches, .int v_t_storedBits, .int v_t_fixedBits, .int v_t_ownBits, .int v_t_out, .int v_t_pos, .int v_t_total, .int v_t_fault, .int v_t_place, .int v_t_made, .int v_t_limit, .int v_t_taken, .ref h_t_fresh, .ref h_t_many, .ref h_t_sorted])), (h_t_row, .inl (cB, 65536, .inl (bf f_t_row)))] sz)) 0 0 (va_A [(h_t, .inr (11, [.int v_t_code, .int v_t_length, .ref h_t_row, .int v_t_size, .ref h_t_product, .int v_t_tokens, .ref h_t_token, .ref h_t_heads, .ref h_t_before, .ref h_t_counts, .ref h_t_lengths, .ref h_t_fewCounts, .ref h_t_fewLengths, .ref h_t_weights, .ref h_t_parents, .ref h_t_symbols, .ref h_t_numbers, .ref h_t_fewNumbers, .ref h_t_firsts, .ref h_t_line, .int v_t_runs, .ref h_t_run, .ref h_t_rest, .int v_t_wide, .int v_t_deep, .int v_t_few, .ref h_t_ownLengths, .ref h_t_ownFew, .int v_t_kind, .int v_t_bytes, .int v_t_matches, .int v_t_storedBits, .int v_t_fixedBits, .int v_t_ownBits, .int v_t_out, .int v_t_pos, .int v_t_total, .int v_t_fault, .int v_t_place, .int v_t_made, .int v_t_limit, .int v_t_taken, .ref h_t_fresh, .ref h_t_many, .ref h_t_sorted])), (h_t_row, .inl (cB, 65536, .inl (bf f_t_row)))] sz) := by
  refine Met.ofW (cc := b_Mo_again) (maxL := 4) (ret := none) (by decide) rfl ?_
  intro p e s m args below meth c s₁ B hml hv
  obtain ⟨rfl, hsz, hP, hK, hD0, hN⟩ := hv
  have hx := B.exec
  have hb := B.bytes
  have hr := B.returns
  have hts := atoms_spec (ws := w_Mo_again) B.pre
  have ht : ∀ w ∈ TB, w.before ([.ref h_t, .int p1, .int p2]).toArray s = true := fun w h => hts w (List.mem_cons_of_mem _ h)
  have hown : s.vm.findClass R_Mo = some m.cls := findClass_of_methodNamed B.named
  have hlocks := B.notSynchronized
  subst hsz
  have hD := hD0.self (sz := s.heap.size)
  generalize hAe : va_A [(h_t, .inr (11, [.int v_t_code, .int v_t_length, .ref h_t_row, .int v_t_size, .ref h_t_product, .int v_t_tokens, .ref h_t_token, .ref h_t_heads, .ref h_t_before, .ref h_t_counts, .ref h_t_lengths, .ref h_t_fewCounts, .ref h_t_fewLengths, .ref h_t_weights, .ref h_t_parents, .ref h_t_symbols, .ref h_t_numbers, .ref h_t_fewNumbers, .ref h_t_firsts, .ref h_t_line, .int v_t_runs, .ref h_t_run, .ref h_t_rest, .int v_t_wide, .int v_t_deep, .int v_t_few, .ref h_t_ownLengths, .ref h_t_ownFew, .int v_t_kind, .int v_t_bytes, .int v_t_matches, .int v_t_storedBits, .int v_t_fixedBits, .int v_t_ownBits, .int v_t_out, .int v_t_pos, .int v_t_total, .int v_t_fault, .int v_t_place, .int v_t_made, .int v_t_limit, .int v_t_taken, .ref h_t_fresh, .ref h_t_many, .ref h_t_sorted])), (h_t_row, .inl (cB, 65536, .inl (bf f_t_row)))] s.heap.size = A at hD ⊢
  have hA : ∀ q : Nat, s.heap.size ≤ q → A q := fun q h => by rw [← hAe]; exact Or.inr h
  have hS : va_S A s.heap s.heap [] := va_S.rf
  have hP : va_P (dC, dI) vwCl [(h_t, .inr (11, [.int v_t_code, .int v_t_length, .ref h_t_row, .int v_t_size, .ref h_t_product, .int v_t_tokens, .ref h_t_token, .ref h_t_heads, .ref h_t_before, .ref h_t_counts, .ref h_t_lengths, .ref h_t_fewCounts, .ref h_t_fewLengths, .ref h_t_weights, .ref h_t_parents, .ref h_t_symbols, .ref h_t_numbers, .ref h_t_fewNumbers, .ref h_t_firsts, .ref h_t_line, .int v_t_runs, .ref h_t_run, .ref h_t_rest, .int v_t_wide, .int v_t_deep, .int v_t_few, .ref h_t_ownLengths, .ref h_t_ownFew, .int v_t_kind, .int v_t_bytes, .int v_t_matches, .int v_t_storedBits, .int v_t_fixedBits, .int v_t_ownBits, .int v_t_out, .int v_t_pos, .int v_t_total, .int v_t_fault, .int v_t_place, .int v_t_made, .int v_t_limit, .int v_t_taken, .ref h_t_fresh, .ref h_t_many, .ref h_t_sorted])), (h_t_row, .inl (cB, 65536, .inl (bf f_t_row)))] s.heap := hP
  have C : CX p s m ([.ref h_t, .int p1, .int p2]).toArray c b_Mo_again 4 R_Mo A (dC, dI) [(cB, .byte), (cI, .int), (cJ, .long)] := ⟨hx, hb, hml, hown, ht, hA, hK, hN⟩
  have hl := lv_entry ([.ref h_t, .int p1, .int p2]) (n := 4) (Nat.le_of_ble_eq_true rfl)
  rw [lg_entry_eq]
  generalize (lg_sl ([.ref h_t, .int p1, .int p2]) ++ List.replicate (4 - (lg_sl ([.ref h_t, .int p1, .int p2])).length) Slot.unset).toArray = ls at hl ⊢
  have hl : lv_has ls 4 [(0, .ref h_t), (1, .int p1), (2, .int p2)] := hl
  refine lv_aload_n hx hb d_Mo_again_0 rfl (lv_at hl 0 rfl) ?_
  refine lv_iload_n hx hb d_Mo_again_1 rfl (lv_at hl 1 rfl) ?_
  refine lv_iconst (v := (1 : Int32)) hx hb d_Mo_again_2 (by decide) ?_
  refine lv_tern (J := 44) (cd := p1 < (1 : Int32)) (a := (1 : Int32)) (b := (if v_t_length < p1 then (1 : Int32) else (if p2 < 0 then (1 : Int32) else (if p2 ≤ (65536 : Int32) then (if (v_t_length + p2) ≤ (65536 : Int32) then (0 : Int32) else (2 : Int32)) else (1 : Int32))))) (rest := [.ref h_t]) (fun k14 k15 => ?_) ?_
  · refine lv_icmp_lt (tgt := 24) hx hb d_Mo_again_3 (by decide) (fun c1 => ?_) (fun c1 => ?_)
    · refine lv_iconst (v := (1 : Int32)) hx hb d_Mo_again_24 (by decide) ?_
      refine lv_goto (tgt := 44) hx hb d_Mo_again_25 (by decide) ?_
      exact k14 c1
    · refine lv_iload_n hx hb d_Mo_again_6 rfl (lv_at hl 1 rfl) ?_
      refine lv_aload_n hx hb d_Mo_again_7 rfl (lv_at hl 0 rfl) ?_
      refine va_get (D := (dC, dI)) (ci := 11) (v := .int v_t_length) (C := R_Mo) (T := F_Mo) (N := 45) hx hb ht in_Mo hown hK hP 0 rfl rfl 1 (by decide) (ht _ k_946) (fun _ h9 => h9) rfl d_Mo_again_8 ?_
      refine lv_tern (J := 44) (cd := v_t_length < p1) (a := (1 : Int32)) (b := (if p2 < 0 then (1 : Int32) else (if p2 ≤ (65536 : Int32) then (if (v_t_length + p2) ≤ (65536 : Int32) then (0 : Int32) else (2 : Int32)) else (1 : Int32)))) (rest := [.ref h_t]) (fun k12 k13 => ?_) ?_
      · refine lv_icmp_gt (tgt := 24) hx hb d_Mo_again_11 (by decide) (fun c2 => ?_) (fun c2 => ?_)
        · refine lv_iconst (v := (1 : Int32)) hx hb d_Mo_again_24 (by decide) ?_
          refine lv_goto (tgt := 44) hx hb d_Mo_again_25 (by decide) ?_
          exact k12 c2
        · refine lv_iload_n hx hb d_Mo_again_14 rfl (lv_at hl 2 rfl) ?_
          refine lv_tern (J := 44) (cd := p2 < 0) (a := (1 : Int32)) (b := (if p2 ≤ (65536 : Int32) then (if (v_t_length + p2) ≤ (65536 : Int32) then (0 : Int32) else (2 : Int32)) else (1 : Int32))) (rest := [.ref h_t]) (fun k10 k11 => ?_) ?_
          · refine lv_if_lt (tgt := 24) hx hb d_Mo_again_15 (by decide) (fun c3 => ?_) (fun c3 => ?_)
            · refine lv_iconst (v := (1 : Int32)) hx hb d_Mo_again_24 (by decide) ?_
              refine lv_goto (tgt := 44) hx hb d_Mo_again_25 (by decide) ?_
              exact k10 c3
            · refine lv_iload_n hx hb d_Mo_again_18 rfl (lv_at hl 2 rfl) ?_
              refine lv_ldc (v := (65536 : Int32)) hx hb hown (ht _ k_942) d_Mo_again_19 ?_
              refine lv_tern (J := 44) (cd := p2 ≤ (65536 : Int32)) (a := (if (v_t_length + p2) ≤ (65536 : Int32) then (0 : Int32) else (2 : Int32))) (b := (1 : Int32)) (rest := [.ref h_t]) (fun k8 k9 => ?_) ?_
              · refine lv_icmp_le (tgt := 28) hx hb d_Mo_again_21 (by decide) (fun c4 => ?_) (fun c4 => ?_)
                · refine lv_aload_n hx hb d_Mo_again_28 rfl (lv_at hl 0 rfl) ?_
                  refine va_get (D := (dC, dI)) (ci := 11) (v := .int v_t_length) (C := R_Mo) (T := F_Mo) (N := 45) hx hb ht in_Mo hown hK hP 0 rfl rfl 1 (by decide) (ht _ k_946) (fun _ h9 => h9) rfl d_Mo_again_29 ?_
                  refine lv_iload_n hx hb d_Mo_again_32 rfl (lv_at hl 2 rfl) ?_
                  refine lv_iadd hx hb d_Mo_again_33 ?_
                  refine lv_ldc (v := (65536 : Int32)) hx hb hown (ht _ k_942) d_Mo_again_34 ?_
                  refine lv_tern (J := 44) (cd := (v_t_length + p2) ≤ (65536 : Int32)) (a := (0 : Int32)) (b := (2 : Int32)) (rest := [.ref h_t]) (fun k6 k7 => ?_) ?_
                  · refine lv_icmp_le (tgt := 43) hx hb d_Mo_again_36 (by decide) (fun c5 => ?_) (fun c5 => ?_)
                    · refine lv_iconst (v := (0 : Int32)) hx hb d_Mo_again_43 (by decide) ?_
                      exact k6 c5
                    · refine lv_iconst (v := (2 : Int32)) hx hb d_Mo_again_39 (by decide) ?_
                      refine lv_goto (tgt := 44) hx hb d_Mo_again_40 (by decide) ?_
                      exact k7 c5
                  exact k8 c4
                · refine lv_iconst (v := (1 : Int32)) hx hb d_Mo_again_24 (by decide) ?_
                  refine lv_goto (tgt := 44) hx hb d_Mo_again_25 (by decide) ?_
                  exact k9 c4
              exact k11 c3
          exact k13 c2
      exact k15 c1
  refine va_put (D := (dC, dI)) (ci := 11) (v := .int (if p1 < (1 : Int32) then (1 : Int32) else (if v_t_length < p1 then (1 : Int32) else (if p2 < 0 then (1 : Int32) else (if p2 ≤ (65536 : Int32) then (if (v_t_length + p2) ≤ (65536 : Int32) then (0 : Int32) else (2 : Int32)) else (1 : Int32)))))) (ty := .int) (C := R_Mo) (T := F_Mo) (N := 45) hx hb ht in_Mo t_Mo t_Mo_ok n_Mo hown hK hP hD hS 0 rfl rfl 0 (by decide) (ht _ k_945) (fun _ h9 => h9) rfl (by decide +kernel) rfl rfl (Nat.le_of_ble_eq_true rfl) d_Mo_again_44 (fun H locs hP hD hS => ?_)
  have hP : va_P (dC, dI) vwCl [(h_t, .inr (11, [.int (if p1 < (1 : Int32) then (1 : Int32) else (if v_t_length < p1 then (1 : Int32) else (if p2 < 0 then (1 : Int32) else (if p2 ≤ (65536 : Int32) then (if (v_t_length + p2) ≤ (65536 : Int32) then (0 : Int32) else (2 : Int32)) else (1 : Int32))))), .int v_t_length, .ref h_t_row, .int v_t_size, .ref h_t_product, .int v_t_tokens, .ref h_t_token, .ref h_t_heads, .ref h_t_before, .ref h_t_counts, .ref h_t_lengths, .ref h_t_fewCounts, .ref h_t_fewLengths, .ref h_t_weights, .ref h_t_parents, .ref h_t_symbols, .ref h_t_numbers, .ref h_t_fewNumbers, .ref h_t_firsts, .ref h_t_line, .int v_t_runs, .ref h_t_run, .ref h_t_rest, .int v_t_wide, .int v_t_deep, .int v_t_few, .ref h_t_ownLengths, .ref h_t_ownFew, .int v_t_kind, .int v_t_bytes, .int v_t_matches, .int v_t_storedBits, .int v_t_fixedBits, .int v_t_ownBits, .int v_t_out, .int v_t_pos, .int v_t_total, .int v_t_fault, .int v_t_place, .int v_t_made, .int v_t_limit, .int v_t_taken, .ref h_t_fresh, .ref h_t_many, .ref h_t_sorted])), (h_t_row, .inl (cB, 65536, .inl (bf f_t_row)))] H := hP
  have hD : va_D A [(h_t, .inr (11, [.int (if p1 < (1 : Int32) then (1 : Int32) else (if v_t_length < p1 then (1 : Int32) else (if p2 < 0 then (1 : Int32) else (if p2 ≤ (65536 : Int32) then (if (v_t_length + p2) ≤ (65536 : Int32) then (0 : Int32) else (2 : Int32)) else (1 : Int32))))), .int v_t_length, .ref h_t_row, .int v_t_size, .ref h_t_product, .int v_t_tokens, .ref h_t_token, .ref h_t_heads, .ref h_t_before, .ref h_t_counts, .ref h_t_lengths, .ref h_t_fewCounts, .ref h_t_fewLengths, .ref h_t_weights, .ref h_t_parents, .ref h_t_symbols, .ref h_t_numbers, .ref h_t_fewNumbers, .ref h_t_firsts, .ref h_t_line, .int v_t_runs, .ref h_t_run, .ref h_t_rest, .int v_t_wide, .int v_t_deep, .int v_t_few, .ref h_t_ownLengths, .ref h_t_ownFew, .int v_t_kind, .int v_t_bytes, .int v_t_matches, .int v_t_storedBits, .int v_t_fixedBits, .int v_t_ownBits, .int v_t_out, .int v_t_pos, .int v_t_total, .int v_t_fault, .int v_t_place, .int v_t_made, .int v_t_limit, .int v_t_taken, .ref h_t_fresh, .ref h_t_many, .ref h_t_sorted])), (h_t_row, .inl (cB, 65536, .inl (bf f_t_row)))] := hD
  refine lv_aload_n hx hb d_Mo_again_47 rfl (lv_at hl 0 rfl) ?_
  refine va_get (D := (dC, dI)) (ci := 11) (v := .int (if p1 < (1 : Int32) then (1 : Int32) else (if v_t_length < p1 then (1 : Int32) else (if p2 < 0 then (1 : Int32) else (if p2 ≤ (65536 : Int32) then (if (v_t_length + p2) ≤ (65536 : Int32) then (0 : Int32) else (2 : Int32)) else (1 : Int32)))))) (C := R_Mo) (T := F_Mo) (N := 45) hx hb ht in_Mo hown hK hP 0 rfl rfl 0 (by decide) (ht _ k_945) (fun _ h9 => h9) rfl d_Mo_again_48 ?_
  refine lv_if_le (tgt := 55) hx hb d_Mo_again_51 (by decide) (fun c16 => ?_) (fun c16 => ?_)
  · replace h := ip_p c16 h
    refine lv_iconst (v := (0 : Int32)) hx hb d_Mo_again_55 (by decide) ?_
    refine lv_istore_n (lv' := [(3, .int (0 : Int32)), (0, .ref h_t), (1, .int p1), (2, .int p2)]) hx hb d_Mo_again_56 rfl hl (by decide) rfl (fun ls hl => ?_)
    obtain ⟨y20, hy20, h⟩ := bd h
    refine wMo_again_57 h_t h_t_row h_t_product h_t_token h_t_heads h_t_before h_t_counts h_t_lengths h_t_fewCounts h_t_fewLengths h_t_weights h_t_parents h_t_symbols h_t_numbers h_t_fewNumbers h_t_firsts h_t_line h_t_run h_t_rest h_t_ownLengths h_t_ownFew h_t_fresh h_t_many h_t_sorted cB cI cJ N (if p1 < (1 : Int32) then (1 : Int32) else (if v_t_length < p1 then (1 : Int32) else (if p2 < 0 then (1 : Int32) else (if p2 ≤ (65536 : Int32) then (if (v_t_length + p2) ≤ (65536 : Int32) then (0 : Int32) else (2 : Int32)) else (1 : Int32))))) v_t_length v_t_size v_t_tokens v_t_runs v_t_wide v_t_deep v_t_few v_t_kind v_t_bytes v_t_matches v_t_storedBits v_t_fixedBits v_t_ownBits v_t_out v_t_pos v_t_total v_t_fault v_t_place v_t_made v_t_limit v_t_taken p1 p2 C N (0 : Int32) f_t_row _ _ _ _ hP hD hS (lv_sub hl [1, 2, 3, 0] rfl) hy20 (fun H locs ls hP hD hS hl => ?_)
    refine lv_aload_n hx hb d_Mo_again_92 rfl (lv_at hl 0 rfl) ?_
    refine lv_aload_n hx hb d_Mo_again_93 rfl (lv_at hl 0 rfl) ?_
    refine va_get (D := (dC, dI)) (ci := 11) (v := .int v_t_length) (C := R_Mo) (T := F_Mo) (N := 45) hx hb ht in_Mo hown hK hP 0 rfl rfl 1 (by decide) (ht _ k_946) (fun _ h9 => h9) rfl d_Mo_again_94 ?_
    refine lv_iload_n hx hb d_Mo_again_97 rfl (lv_at hl 1 rfl) ?_
    refine lv_iadd hx hb d_Mo_again_98 ?_
    refine va_put (D := (dC, dI)) (ci := 11) (v := .int (v_t_length + p2)) (ty := .int) (C := R_Mo) (T := F_Mo) (N := 45) hx hb ht in_Mo t_Mo t_Mo_ok n_Mo hown hK hP hD hS 0 rfl rfl 1 (by decide) (ht _ k_946) (fun _ h9 => h9) rfl (by decide +kernel) rfl rfl (Nat.le_of_ble_eq_true rfl) d_Mo_again_99 (fun H locs hP hD hS => ?_)
    have hP : va_P (dC, dI) vwCl [(h_t, .inr (11, [.int (if p1 < (1 : Int32) then (1 : Int32) else (if v_t_length < p1 then (1 : Int32) else (if p2 < 0 then (1 : Int32) else (if p2 ≤ (65536 : Int32) then (if (v_t_length + p2) ≤ (65536 : Int32) then (0 : Int32) else (2 : Int32)) else (1 : Int32))))), .int (v_t_length + p2), .ref h_t_row, .int v_t_size, .ref h_t_product, .int v_t_tokens, .ref h_t_token, .ref h_t_heads, .ref h_t_before, .ref h_t_counts, .ref h_t_lengths, .ref h_t_fewCounts, .ref h_t_fewLengths, .ref h_t_weights, .ref h_t_parents, .ref h_t_symbols, .ref h_t_numbers, .ref h_t_fewNumbers, .ref h_t_firsts, .ref h_t_line, .int v_t_runs, .ref h_t_run, .ref h_t_rest, .int v_t_wide, .int v_t_deep, .int v_t_few, .ref h_t_ownLengths, .ref h_t_ownFew, .int v_t_kind, .int v_t_bytes, .int v_t_matches, .int v_t_storedBits, .int v_t_fixedBits, .int v_t_ownBits, .int v_t_out, .int v_t_pos, .int v_t_total, .int v_t_fault, .int v_t_place, .int v_t_made, .int v_t_limit, .int v_t_taken, .ref h_t_fresh, .ref h_t_many, .ref h_t_sorted])), (h_t_row, .inl (cB, 65536, .inl (bf y20)))] H := hP
    have hD : va_D A [(h_t, .inr (11, [.int (if p1 < (1 : Int32) then (1 : Int32) else (if v_t_length < p1 then (1 : Int32) else (if p2 < 0 then (1 : Int32) else (if p2 ≤ (65536 : Int32) then (if (v_t_length + p2) ≤ (65536 : Int32) then (0 : Int32) else (2 : Int32)) else (1 : Int32))))), .int (v_t_length + p2), .ref h_t_row, .int v_t_size, .ref h_t_product, .int v_t_tokens, .ref h_t_token, .ref h_t_heads, .ref h_t_before, .ref h_t_counts, .ref h_t_lengths, .ref h_t_fewCounts, .ref h_t_fewLengths, .ref h_t_weights, .ref h_t_parents, .ref h_t_symbols, .ref h_t_numbers, .ref h_t_fewNumbers, .ref h_t_firsts, .ref h_t_line, .int v_t_runs, .ref h_t_run, .ref h_t_rest, .int v_t_wide, .int v_t_deep, .int v_t_few, .ref h_t_ownLengths, .ref h_t_ownFew, .int v_t_kind, .int v_t_bytes, .int v_t_matches, .int v_t_storedBits, .int v_t_fixedBits, .int v_t_ownBits, .int v_t_out, .int v_t_pos, .int v_t_total, .int v_t_fault, .int v_t_place, .int v_t_made, .int v_t_limit, .int v_t_taken, .ref h_t_fresh, .ref h_t_many, .ref h_t_sorted])), (h_t_row, .inl (cB, 65536, .inl (bf y20)))] := hD
    obtain rfl := Option.some.inj h
    exact W.vret hx hb hr (fun t ht hW => ⟨⟨(), rfl, trivial, by rw [ht]; exact hP, va_K.moved hW.alike hK, hD⟩, hS.F ht⟩) hS.2.2 d_Mo_again_102
  · replace h := ip_n c16 h
    obtain rfl := Option.some.inj h
    exact W.vret hx hb hr (fun t ht hW => ⟨⟨(), rfl, trivial, by rw [ht]; exact hP, va_K.moved hW.alike hK, hD⟩, hS.F ht⟩) hS.2.2 d_Mo_again_54
/-! PackedBytesModel.length()I -/
def fMo_length (N : Nat) (v_t_length : Int32) : Option (Int32 × Int32) :=
    some (v_t_length, (0 : Int32))
set_option maxHeartbeats 4000000 in
set_option maxRecDepth 100000 in
theorem cMo_length (l : Launch) (dC : Nat → ClassId) (dI : Nat → Nat → Nat) (h_t h_t_row h_t_product h_t_token h_t_heads h_t_before h_t_counts h_t_lengths h_t_fewCounts h_t_fewLengths h_t_weights h_t_parents h_t_symbols h_t_numbers h_t_fewNumbers h_t_firsts h_t_line h_t_run h_t_rest h_t_ownLengths h_t_ownFew h_t_fresh h_t_many h_t_sorted : Nat) (cB cI cJ : ClassId) (sz : Nat) (N : Nat) (v_t_code : Int32) (v_t_length : Int32) (v_t_size : Int32) (v_t_tokens : Int32) (v_t_runs : Int32) (v_t_wide : Int32) (v_t_deep : Int32) (v_t_few : Int32) (v_t_kind : Int32) (v_t_bytes : Int32) (v_t_matches : Int32) (v_t_storedBits : Int32) (v_t_fixedBits : Int32) (v_t_ownBits : Int32) (v_t_out : Int32) (v_t_pos : Int32) (v_t_total : Int32) (v_t_fault : Int32) (v_t_place : Int32) (v_t_made : Int32) (v_t_limit : Int32) (v_t_taken : Int32) (o : Int32 × Int32) (h : fMo_length N v_t_length = some o) : Met l y_Mo_length w_Mo_length ({ frames := 0, cells := 0, slots := 0, locals := 0 } : Room) (va_Pc [.ref h_t] (fun U => U.heap.size = sz ∧ va_P (dC, dI) vwCl [(h_t, .inr (11, [.int v_t_code, .int v_t_length, .ref h_t_row, .int v_t_size, .ref h_t_product, .int v_t_tokens, .ref h_t_token, .ref h_t_heads, .ref h_t_before, .ref h_t_counts, .ref h_t_lengths, .ref h_t_fewCounts, .ref h_t_fewLengths, .ref h_t_weights, .ref h_t_parents, .ref h_t_symbols, .ref h_t_numbers, .ref h_t_fewNumbers, .ref h_t_firsts, .ref h_t_line, .int v_t_runs, .ref h_t_run, .ref h_t_rest, .int v_t_wide, .int v_t_deep, .int v_t_few, .ref h_t_ownLengths, .ref h_t_ownFew, .int v_t_kind, .int v_t_bytes, .int v_t_matches, .int v_t_storedBits, .int v_t_fixedBits, .int v_t_ownBits, .int v_t_out, .int v_t_pos, .int v_t_total, .int v_t_fault, .int v_t_place, .int v_t_made, .int v_t_limit, .int v_t_taken, .ref h_t_fresh, .ref h_t_many, .ref h_t_sorted]))] U.heap ∧ va_K (dC, dI) vwCl [(cB, .byte), (cI, .int), (cJ, .long)] U ∧ va_D (fun _ => True) [(h_t, .inr (11, [.int v_t_code, .int v_t_length, .ref h_t_row, .int v_t_size, .ref h_t_product, .int v_t_tokens, .ref h_t_token, .ref h_t_heads, .ref h_t_before, .ref h_t_counts, .ref h_t_lengths, .ref h_t_fewCounts, .ref h_t_fewLengths, .ref h_t_weights, .ref h_t_parents, .ref h_t_symbols, .ref h_t_numbers, .ref h_t_fewNumbers, .ref h_t_firsts, .ref h_t_line, .int v_t_runs, .ref h_t_run, .ref h_t_rest, .int v_t_wide, .int v_t_deep, .int v_t_few, .ref h_t_ownLengths, .ref h_t_ownFew, .int v_t_kind, .int v_t_bytes, .int v_t_matches, .int v_t_storedBits, .int v_t_fixedBits, .int v_t_ownBits, .int v_t_out, .int v_t_pos, .int v_t_total, .int v_t_fault, .int v_t_place, .int v_t_made, .int v_t_limit, .int v_t_taken, .ref h_t_fresh, .ref h_t_many, .ref h_t_sorted]))] ∧ NW U)) (va_Qi (fun r (_ : Unit) => r = o.1) (fun _ t => va_P (dC, dI) vwCl [(h_t, .inr (11, [.int o.2, .int v_t_length, .ref h_t_row, .int v_t_size, .ref h_t_product, .int v_t_tokens, .ref h_t_token, .ref h_t_heads, .ref h_t_before, .ref h_t_counts, .ref h_t_lengths, .ref h_t_fewCounts, .ref h_t_fewLengths, .ref h_t_weights, .ref h_t_parents, .ref h_t_symbols, .ref h_t_numbers, .ref h_t_fewNumbers, .ref h_t_firsts, .ref h_t_line, .int v_t_runs, .ref h_t_run, .ref h_t_rest, .int v_t_wide, .int v_t_deep, .int v_t_few, .ref h_t_ownLengths, .ref h_t_ownFew, .int v_t_kind, .int v_t_bytes, .int v_t_matches, .int v_t_storedBits, .int v_t_fixedBits, .int v_t_ownBits, .int v_t_out, .int v_t_pos, .int v_t_total, .int v_t_fault, .int v_t_place, .int v_t_made, .int v_t_limit, .int v_t_taken, .ref h_t_fresh, .ref h_t_many, .ref h_t_sorted]))] t.heap ∧ va_K (dC, dI) vwCl [(cB, .byte), (cI, .int), (cJ, .long)] t ∧ va_D (va_A [(h_t, .inr (11, [.int v_t_code, .int v_t_length, .ref h_t_row, .int v_t_size, .ref h_t_product, .int v_t_tokens, .ref h_t_token, .ref h_t_heads, .ref h_t_before, .ref h_t_counts, .ref h_t_lengths, .ref h_t_fewCounts, .ref h_t_fewLengths, .ref h_t_weights, .ref h_t_parents, .ref h_t_symbols, .ref h_t_numbers, .ref h_t_fewNumbers, .ref h_t_firsts, .ref h_t_line, .int v_t_runs, .ref h_t_run, .ref h_t_rest, .int v_t_wide, .int v_t_deep, .int v_t_few, .ref h_t_ownLengths, .ref h_t_ownFew, .int v_t_kind, .int v_t_bytes, .int v_t_matches, .int v_t_storedBits, .int v_t_fixedBits, .int v_t_ownBits, .int v_t_out, .int v_t_pos, .int v_t_total, .int v_t_fault, .int v_t_place, .int v_t_made, .int v_t_limit, .int v_t_taken, .ref h_t_fresh, .ref h_t_many, .ref h_t_sorted]))] sz) [(h_t, .inr (11, [.int o.2, .int v_t_length, .ref h_t_row, .int v_t_size, .ref h_t_product, .int v_t_tokens, .ref h_t_token, .ref h_t_heads, .ref h_t_before, .ref h_t_counts, .ref h_t_lengths, .ref h_t_fewCounts, .ref h_t_fewLengths, .ref h_t_weights, .ref h_t_parents, .ref h_t_symbols, .ref h_t_numbers, .ref h_t_fewNumbers, .ref h_t_firsts, .ref h_t_line, .int v_t_runs, .ref h_t_run, .ref h_t_rest, .int v_t_wide, .int v_t_deep, .int v_t_few, .ref h_t_ownLengths, .ref h_t_ownFew, .int v_t_kind, .int v_t_bytes, .int v_t_matches, .int v_t_storedBits, .int v_t_fixedBits, .int v_t_ownBits, .int v_t_out, .int v_t_pos, .int v_t_total, .int v_t_fault, .int v_t_place, .int v_t_made, .int v_t_limit, .int v_t_taken, .ref h_t_fresh, .ref h_t_many, .ref h_t_sorted]))]) (va_A [(h_t, .inr (11, [.int v_t_code, .int v_t_length, .ref h_t_row, .int v_t_size, .ref h_t_product, .int v_t_tokens, .ref h_t_token, .ref h_t_heads, .ref h_t_before, .ref h_t_counts, .ref h_t_lengths, .ref h_t_fewCounts, .ref h_t_fewLengths, .ref h_t_weights, .ref h_t_parents, .ref h_t_symbols, .ref h_t_numbers, .ref h_t_fewNumbers, .ref h_t_firsts, .ref h_t_line, .int v_t_runs, .ref h_t_run, .ref h_t_rest, .int v_t_wide, .int v_t_deep, .int v_t_few, .ref h_t_ownLengths, .ref h_t_ownFew, .int v_t_kind, .int v_t_bytes, .int v_t_matches, .int v_t_storedBits, .int v_t_fixedBits, .int v_t_ownBits, .int v_t_out, .int v_t_pos, .int v_t_total, .int v_t_fault, .int v_t_place, .int v_t_made, .int v_t_limit, .int v_t_taken, .ref h_t_fresh, .ref h_t_many, .ref h_t_sorted]))] sz)) 0 0 (va_A [(h_t, .inr (11, [.int v_t_code, .int v_t_length, .ref h_t_row, .int v_t_size, .ref h_t_product, .int v_t_tokens, .ref h_t_token, .ref h_t_heads, .ref h_t_before, .ref h_t_counts, .ref h_t_lengths, .ref h_t_fewCounts, .ref h_t_fewLengths, .ref h_t_weights, .ref h_t_parents, .ref h_t_symbols, .ref h_t_numbers, .ref h_t_fewNumbers, .ref h_t_firsts, .ref h_t_line, .int v_t_runs, .ref h_t_run, .ref h_t_rest, .int v_t_wide, .int v_t_deep, .int v_t_few, .ref h_t_ownLengths, .ref h_t_ownFew, .int v_t_kind, .int v_t_bytes, .int v_t_matches, .int v_t_storedBits, .int v_t_fixedBits, .int v_t_ownBits, .int v_t_out, .int v_t_pos, .int v_t_total, .int v_t_fault, .int v_t_place, .int v_t_made, .int v_t_limit, .int v_t_taken, .ref h_t_fresh, .ref h_t_many, .ref h_t_sorted]))] sz) := by
  refine Met.ofW (cc := b_Mo_length) (maxL := 1) (ret := (some .int)) (by decide) rfl ?_
  intro p e s m args below meth c s₁ B hml hv
  obtain ⟨rfl, hsz, hP, hK, hD0, hN⟩ := hv
  have hx := B.exec
  have hb := B.bytes
  have hr := B.returns
  have hts := atoms_spec (ws := w_Mo_length) B.pre
  have ht : ∀ w ∈ TB, w.before ([.ref h_t]).toArray s = true := fun w h => hts w (List.mem_cons_of_mem _ h)
  have hown : s.vm.findClass R_Mo = some m.cls := findClass_of_methodNamed B.named
  have hlocks := B.notSynchronized
  subst hsz
  have hD := hD0.self (sz := s.heap.size)
  generalize hAe : va_A [(h_t, .inr (11, [.int v_t_code, .int v_t_length, .ref h_t_row, .int v_t_size, .ref h_t_product, .int v_t_tokens, .ref h_t_token, .ref h_t_heads, .ref h_t_before, .ref h_t_counts, .ref h_t_lengths, .ref h_t_fewCounts, .ref h_t_fewLengths, .ref h_t_weights, .ref h_t_parents, .ref h_t_symbols, .ref h_t_numbers, .ref h_t_fewNumbers, .ref h_t_firsts, .ref h_t_line, .int v_t_runs, .ref h_t_run, .ref h_t_rest, .int v_t_wide, .int v_t_deep, .int v_t_few, .ref h_t_ownLengths, .ref h_t_ownFew, .int v_t_kind, .int v_t_bytes, .int v_t_matches, .int v_t_storedBits, .int v_t_fixedBits, .int v_t_ownBits, .int v_t_out, .int v_t_pos, .int v_t_total, .int v_t_fault, .int v_t_place, .int v_t_made, .int v_t_limit, .int v_t_taken, .ref h_t_fresh, .ref h_t_many, .ref h_t_sorted]))] s.heap.size = A at hD ⊢
  have hA : ∀ q : Nat, s.heap.size ≤ q → A q := fun q h => by rw [← hAe]; exact Or.inr h
  have hS : va_S A s.heap s.heap [] := va_S.rf
  have hP : va_P (dC, dI) vwCl [(h_t, .inr (11, [.int v_t_code, .int v_t_length, .ref h_t_row, .int v_t_size, .ref h_t_product, .int v_t_tokens, .ref h_t_token, .ref h_t_heads, .ref h_t_before, .ref h_t_counts, .ref h_t_lengths, .ref h_t_fewCounts, .ref h_t_fewLengths, .ref h_t_weights, .ref h_t_parents, .ref h_t_symbols, .ref h_t_numbers, .ref h_t_fewNumbers, .ref h_t_firsts, .ref h_t_line, .int v_t_runs, .ref h_t_run, .ref h_t_rest, .int v_t_wide, .int v_t_deep, .int v_t_few, .ref h_t_ownLengths, .ref h_t_ownFew, .int v_t_kind, .int v_t_bytes, .int v_t_matches, .int v_t_storedBits, .int v_t_fixedBits, .int v_t_ownBits, .int v_t_out, .int v_t_pos, .int v_t_total, .int v_t_fault, .int v_t_place, .int v_t_made, .int v_t_limit, .int v_t_taken, .ref h_t_fresh, .ref h_t_many, .ref h_t_sorted]))] s.heap := hP
  skip
  have hl := lv_entry ([.ref h_t]) (n := 1) (Nat.le_of_ble_eq_true rfl)
  rw [lg_entry_eq]
  generalize (lg_sl ([.ref h_t]) ++ List.replicate (1 - (lg_sl ([.ref h_t])).length) Slot.unset).toArray = ls at hl ⊢
  have hl : lv_has ls 1 [(0, .ref h_t)] := hl
  refine lv_aload_n hx hb d_Mo_length_0 rfl (lv_at hl 0 rfl) ?_
  refine lv_iconst (v := (0 : Int32)) hx hb d_Mo_length_1 (by decide) ?_
  refine va_put (D := (dC, dI)) (ci := 11) (v := .int (0 : Int32)) (ty := .int) (C := R_Mo) (T := F_Mo) (N := 45) hx hb ht in_Mo t_Mo t_Mo_ok n_Mo hown hK hP hD hS 0 rfl rfl 0 (by decide) (ht _ k_945) (fun _ h9 => h9) rfl (by decide +kernel) rfl rfl (Nat.le_of_ble_eq_true rfl) d_Mo_length_2 (fun H locs hP hD hS => ?_)
  have hP : va_P (dC, dI) vwCl [(h_t, .inr (11, [.int (0 : Int32), .int v_t_length, .ref h_t_row, .int v_t_size, .ref h_t_product, .int v_t_tokens, .ref h_t_token, .ref h_t_heads, .ref h_t_before, .ref h_t_counts, .ref h_t_lengths, .ref h_t_fewCounts, .ref h_t_fewLengths, .ref h_t_weights, .ref h_t_parents, .ref h_t_symbols, .ref h_t_numbers, .ref h_t_fewNumbers, .ref h_t_firsts, .ref h_t_line, .int v_t_runs, .ref h_t_run, .ref h_t_rest, .int v_t_wide, .int v_t_deep, .int v_t_few, .ref h_t_ownLengths, .ref h_t_ownFew, .int v_t_kind, .int v_t_bytes, .int v_t_matches, .int v_t_storedBits, .int v_t_fixedBits, .int v_t_ownBits, .int v_t_out, .int v_t_pos, .int v_t_total, .int v_t_fault, .int v_t_place, .int v_t_made, .int v_t_limit, .int v_t_taken, .ref h_t_fresh, .ref h_t_many, .ref h_t_sorted]))] H := hP
  have hD : va_D A [(h_t, .inr (11, [.int (0 : Int32), .int v_t_length, .ref h_t_row, .int v_t_size, .ref h_t_product, .int v_t_tokens, .ref h_t_token, .ref h_t_heads, .ref h_t_before, .ref h_t_counts, .ref h_t_lengths, .ref h_t_fewCounts, .ref h_t_fewLengths, .ref h_t_weights, .ref h_t_parents, .ref h_t_symbols, .ref h_t_numbers, .ref h_t_fewNumbers, .ref h_t_firsts, .ref h_t_line, .int v_t_runs, .ref h_t_run, .ref h_t_rest, .int v_t_wide, .int v_t_deep, .int v_t_few, .ref h_t_ownLengths, .ref h_t_ownFew, .int v_t_kind, .int v_t_bytes, .int v_t_matches, .int v_t_storedBits, .int v_t_fixedBits, .int v_t_ownBits, .int v_t_out, .int v_t_pos, .int v_t_total, .int v_t_fault, .int v_t_place, .int v_t_made, .int v_t_limit, .int v_t_taken, .ref h_t_fresh, .ref h_t_many, .ref h_t_sorted]))] := hD
  refine lv_aload_n hx hb d_Mo_length_5 rfl (lv_at hl 0 rfl) ?_
  refine va_get (D := (dC, dI)) (ci := 11) (v := .int v_t_length) (C := R_Mo) (T := F_Mo) (N := 45) hx hb ht in_Mo hown hK hP 0 rfl rfl 1 (by decide) (ht _ k_946) (fun _ h9 => h9) rfl d_Mo_length_6 ?_
  obtain rfl := Option.some.inj h
  exact W.iret (v := v_t_length) hx hb hr (fun t ht hW => ⟨⟨_, (), rfl, rfl, by rw [ht]; exact hP, va_K.moved hW.alike hK, hD⟩, hS.F ht⟩) hS.2.2 d_Mo_length_9
/-! PackedBytesModel.alter(II)V -/
def fMo_alter (N : Nat) (p1 : Int32) (p2 : Int32) (v_t_length : Int32) (f_t_row : Nat → Int32) : Option (Int32 × (Nat → Int32)) :=
    if (if p1 < 0 then (1 : Int32) else (if p1 < v_t_length then (if p2 < 0 then (2 : Int32) else (if p2 ≤ (255 : Int32) then (0 : Int32) else (2 : Int32))) else (1 : Int32))) = 0 then
      if ¬ (p1 < 0 ∨ 65536 ≤ p1.toNatClampNeg) then
        some (if p1 < 0 then (1 : Int32) else (if p1 < v_t_length then (if p2 < 0 then (2 : Int32) else (if p2 ≤ (255 : Int32) then (0 : Int32) else (2 : Int32))) else (1 : Int32)), upd f_t_row p1.toNatClampNeg p2.toInt8.toInt32)
      else none
    else
      some (if p1 < 0 then (1 : Int32) else (if p1 < v_t_length then (if p2 < 0 then (2 : Int32) else (if p2 ≤ (255 : Int32) then (0 : Int32) else (2 : Int32))) else (1 : Int32)), f_t_row)
set_option maxHeartbeats 4000000 in
set_option maxRecDepth 100000 in
theorem cMo_alter (l : Launch) (dC : Nat → ClassId) (dI : Nat → Nat → Nat) (h_t h_t_row h_t_product h_t_token h_t_heads h_t_before h_t_counts h_t_lengths h_t_fewCounts h_t_fewLengths h_t_weights h_t_parents h_t_symbols h_t_numbers h_t_fewNumbers h_t_firsts h_t_line h_t_run h_t_rest h_t_ownLengths h_t_ownFew h_t_fresh h_t_many h_t_sorted : Nat) (cB cI cJ : ClassId) (sz : Nat) (N : Nat) (p1 : Int32) (p2 : Int32) (v_t_code : Int32) (v_t_length : Int32) (v_t_size : Int32) (v_t_tokens : Int32) (v_t_runs : Int32) (v_t_wide : Int32) (v_t_deep : Int32) (v_t_few : Int32) (v_t_kind : Int32) (v_t_bytes : Int32) (v_t_matches : Int32) (v_t_storedBits : Int32) (v_t_fixedBits : Int32) (v_t_ownBits : Int32) (v_t_out : Int32) (v_t_pos : Int32) (v_t_total : Int32) (v_t_fault : Int32) (v_t_place : Int32) (v_t_made : Int32) (v_t_limit : Int32) (v_t_taken : Int32) (f_t_row : Nat → Int32) (o : Int32 × (Nat → Int32)) (h : fMo_alter N p1 p2 v_t_length f_t_row = some o) : Met l y_Mo_alter w_Mo_alter ({ frames := 0, cells := 0, slots := 0, locals := 0 } : Room) (va_Pc [.ref h_t, .int p1, .int p2] (fun U => U.heap.size = sz ∧ va_P (dC, dI) vwCl [(h_t, .inr (11, [.int v_t_code, .int v_t_length, .ref h_t_row, .int v_t_size, .ref h_t_product, .int v_t_tokens, .ref h_t_token, .ref h_t_heads, .ref h_t_before, .ref h_t_counts, .ref h_t_lengths, .ref h_t_fewCounts, .ref h_t_fewLengths, .ref h_t_weights, .ref h_t_parents, .ref h_t_symbols, .ref h_t_numbers, .ref h_t_fewNumbers, .ref h_t_firsts, .ref h_t_line, .int v_t_runs, .ref h_t_run, .ref h_t_rest, .int v_t_wide, .int v_t_deep, .int v_t_few, .ref h_t_ownLengths, .ref h_t_ownFew, .int v_t_kind, .int v_t_bytes, .int v_t_matches, .int v_t_storedBits, .int v_t_fixedBits, .int v_t_ownBits, .int v_t_out, .int v_t_pos, .int v_t_total, .int v_t_fault, .int v_t_place, .int v_t_made, .int v_t_limit, .int v_t_taken, .ref h_t_fresh, .ref h_t_many, .ref h_t_sorted])), (h_t_row, .inl (cB, 65536, .inl (bf f_t_row)))] U.heap ∧ va_K (dC, dI) vwCl [(cB, .byte), (cI, .int), (cJ, .long)] U ∧ va_D (fun _ => True) [(h_t, .inr (11, [.int v_t_code, .int v_t_length, .ref h_t_row, .int v_t_size, .ref h_t_product, .int v_t_tokens, .ref h_t_token, .ref h_t_heads, .ref h_t_before, .ref h_t_counts, .ref h_t_lengths, .ref h_t_fewCounts, .ref h_t_fewLengths, .ref h_t_weights, .ref h_t_parents, .ref h_t_symbols, .ref h_t_numbers, .ref h_t_fewNumbers, .ref h_t_firsts, .ref h_t_line, .int v_t_runs, .ref h_t_run, .ref h_t_rest, .int v_t_wide, .int v_t_deep, .int v_t_few, .ref h_t_ownLengths, .ref h_t_ownFew, .int v_t_kind, .int v_t_bytes, .int v_t_matches, .int v_t_storedBits, .int v_t_fixedBits, .int v_t_ownBits, .int v_t_out, .int v_t_pos, .int v_t_total, .int v_t_fault, .int v_t_place, .int v_t_made, .int v_t_limit, .int v_t_taken, .ref h_t_fresh, .ref h_t_many, .ref h_t_sorted])), (h_t_row, .inl (cB, 65536, .inl (bf f_t_row)))] ∧ NW U)) (va_Qv (fun _ : Unit => True) (fun _ t => va_P (dC, dI) vwCl [(h_t, .inr (11, [.int o.1, .int v_t_length, .ref h_t_row, .int v_t_size, .ref h_t_product, .int v_t_tokens, .ref h_t_token, .ref h_t_heads, .ref h_t_before, .ref h_t_counts, .ref h_t_lengths, .ref h_t_fewCounts, .ref h_t_fewLengths, .ref h_t_weights, .ref h_t_parents, .ref h_t_symbols, .ref h_t_numbers, .ref h_t_fewNumbers, .ref h_t_firsts, .ref h_t_line, .int v_t_runs, .ref h_t_run, .ref h_t_rest, .int v_t_wide, .int v_t_deep, .int v_t_few, .ref h_t_ownLengths, .ref h_t_ownFew, .int v_t_kind, .int v_t_bytes, .int v_t_matches, .int v_t_storedBits, .int v_t_fixedBits, .int v_t_ownBits, .int v_t_out, .int v_t_pos, .int v_t_total, .int v_t_fault, .int v_t_place, .int v_t_made, .int v_t_limit, .int v_t_taken, .ref h_t_fresh, .ref h_t_many, .ref h_t_sorted])), (h_t_row, .inl (cB, 65536, .inl (bf o.2)))] t.heap ∧ va_K (dC, dI) vwCl [(cB, .byte), (cI, .int), (cJ, .long)] t ∧ va_D (va_A [(h_t, .inr (11, [.int v_t_code, .int v_t_length, .ref h_t_row, .int v_t_size, .ref h_t_product, .int v_t_tokens, .ref h_t_token, .ref h_t_heads, .ref h_t_before, .ref h_t_counts, .ref h_t_lengths, .ref h_t_fewCounts, .ref h_t_fewLengths, .ref h_t_weights, .ref h_t_parents, .ref h_t_symbols, .ref h_t_numbers, .ref h_t_fewNumbers, .ref h_t_firsts, .ref h_t_line, .int v_t_runs, .ref h_t_run, .ref h_t_rest, .int v_t_wide, .int v_t_deep, .int v_t_few, .ref h_t_ownLengths, .ref h_t_ownFew, .int v_t_kind, .int v_t_bytes, .int v_t_matches, .int v_t_storedBits, .int v_t_fixedBits, .int v_t_ownBits, .int v_t_out, .int v_t_pos, .int v_t_total, .int v_t_fault, .int v_t_place, .int v_t_made, .int v_t_limit, .int v_t_taken, .ref h_t_fresh, .ref h_t_many, .ref h_t_sorted])), (h_t_row, .inl (cB, 65536, .inl (bf f_t_row)))] sz) [(h_t, .inr (11, [.int o.1, .int v_t_length, .ref h_t_row, .int v_t_size, .ref h_t_product, .int v_t_tokens, .ref h_t_token, .ref h_t_heads, .ref h_t_before, .ref h_t_counts, .ref h_t_lengths, .ref h_t_fewCounts, .ref h_t_fewLengths, .ref h_t_weights, .ref h_t_parents, .ref h_t_symbols, .ref h_t_numbers, .ref h_t_fewNumbers, .ref h_t_firsts, .ref h_t_line, .int v_t_runs, .ref h_t_run, .ref h_t_rest, .int v_t_wide, .int v_t_deep, .int v_t_few, .ref h_t_ownLengths, .ref h_t_ownFew, .int v_t_kind, .int v_t_bytes, .int v_t_matches, .int v_t_storedBits, .int v_t_fixedBits, .int v_t_ownBits, .int v_t_out, .int v_t_pos, .int v_t_total, .int v_t_fault, .int v_t_place, .int v_t_made, .int v_t_limit, .int v_t_taken, .ref h_t_fresh, .ref h_t_many, .ref h_t_sorted])), (h_t_row, .inl (cB, 65536, .inl (bf o.2)))]) (va_A [(h_t, .inr (11, [.int v_t_code, .int v_t_length, .ref h_t_row, .int v_t_size, .ref h_t_product, .int v_t_tokens, .ref h_t_token, .ref h_t_heads, .ref h_t_before, .ref h_t_counts, .ref h_t_lengths, .ref h_t_fewCounts, .ref h_t_fewLengths, .ref h_t_weights, .ref h_t_parents, .ref h_t_symbols, .ref h_t_numbers, .ref h_t_fewNumbers, .ref h_t_firsts, .ref h_t_line, .int v_t_runs, .ref h_t_run, .ref h_t_rest, .int v_t_wide, .int v_t_deep, .int v_t_few, .ref h_t_ownLengths, .ref h_t_ownFew, .int v_t_kind, .int v_t_bytes, .int v_t_matches, .int v_t_storedBits, .int v_t_fixedBits, .int v_t_ownBits, .int v_t_out, .int v_t_pos, .int v_t_total, .int v_t_fault, .int v_t_place, .int v_t_made, .int v_t_limit, .int v_t_taken, .ref h_t_fresh, .ref h_t_many, .ref h_t_sorted])), (h_t_row, .inl (cB, 65536, .inl (bf f_t_row)))] sz)) 0 0 (va_A [(h_t, .inr (11, [.int v_t_code, .int v_t_length, .ref h_t_row, .int v_t_size, .ref h_t_product, .int v_t_tokens, .ref h_t_token, .ref h_t_heads, .ref h_t_before, .ref h_t_counts, .ref h_t_lengths, .ref h_t_fewCounts, .ref h_t_fewLengths, .ref h_t_weights, .ref h_t_parents, .ref h_t_symbols, .ref h_t_numbers, .ref h_t_fewNumbers, .ref h_t_firsts, .ref h_t_line, .int v_t_runs, .ref h_t_run, .ref h_t_rest, .int v_t_wide, .int v_t_deep, .int v_t_few, .ref h_t_ownLengths, .ref h_t_ownFew, .int v_t_kind, .int v_t_bytes, .int v_t_matches, .int v_t_storedBits, .int v_t_fixedBits, .int v_t_ownBits, .int v_t_out, .int v_t_pos, .int v_t_total, .int v_t_fault, .int v_t_place, .int v_t_made, .int v_t_limit, .int v_t_taken, .ref h_t_fresh, .ref h_t_many, .ref h_t_sorted])), (h_t_row, .inl (cB, 65536, .inl (bf f_t_row)))] sz) := by
  refine Met.ofW (cc := b_Mo_alter) (maxL := 3) (ret := none) (by decide) rfl ?_
  intro p e s m args below meth c s₁ B hml hv
  obtain ⟨rfl, hsz, hP, hK, hD0, hN⟩ := hv
  have hx := B.exec
  have hb := B.bytes
  have hr := B.returns
  have hts := atoms_spec (ws := w_Mo_alter) B.pre
  have ht : ∀ w ∈ TB, w.before ([.ref h_t, .int p1, .int p2]).toArray s = true := fun w h => hts w (List.mem_cons_of_mem _ h)
  have hown : s.vm.findClass R_Mo = some m.cls := findClass_of_methodNamed B.named
  have hlocks := B.notSynchronized
  subst hsz
  have hD := hD0.self (sz := s.heap.size)
  generalize hAe : va_A [(h_t, .inr (11, [.int v_t_code, .int v_t_length, .ref h_t_row, .int v_t_size, .ref h_t_product, .int v_t_tokens, .ref h_t_token, .ref h_t_heads, .ref h_t_before, .ref h_t_counts, .ref h_t_lengths, .ref h_t_fewCounts, .ref h_t_fewLengths, .ref h_t_weights, .ref h_t_parents, .ref h_t_symbols, .ref h_t_numbers, .ref h_t_fewNumbers, .ref h_t_firsts, .ref h_t_line, .int v_t_runs, .ref h_t_run, .ref h_t_rest, .int v_t_wide, .int v_t_deep, .int v_t_few, .ref h_t_ownLengths, .ref h_t_ownFew, .int v_t_kind, .int v_t_bytes, .int v_t_matches, .int v_t_storedBits, .int v_t_fixedBits, .int v_t_ownBits, .int v_t_out, .int v_t_pos, .int v_t_total, .int v_t_fault, .int v_t_place, .int v_t_made, .int v_t_limit, .int v_t_taken, .ref h_t_fresh, .ref h_t_many, .ref h_t_sorted])), (h_t_row, .inl (cB, 65536, .inl (bf f_t_row)))] s.heap.size = A at hD ⊢
  have hA : ∀ q : Nat, s.heap.size ≤ q → A q := fun q h => by rw [← hAe]; exact Or.inr h
  have hS : va_S A s.heap s.heap [] := va_S.rf
  have hP : va_P (dC, dI) vwCl [(h_t, .inr (11, [.int v_t_code, .int v_t_length, .ref h_t_row, .int v_t_size, .ref h_t_product, .int v_t_tokens, .ref h_t_token, .ref h_t_heads, .ref h_t_before, .ref h_t_counts, .ref h_t_lengths, .ref h_t_fewCounts, .ref h_t_fewLengths, .ref h_t_weights, .ref h_t_parents, .ref h_t_symbols, .ref h_t_numbers, .ref h_t_fewNumbers, .ref h_t_firsts, .ref h_t_line, .int v_t_runs, .ref h_t_run, .ref h_t_rest, .int v_t_wide, .int v_t_deep, .int v_t_few, .ref h_t_ownLengths, .ref h_t_ownFew, .int v_t_kind, .int v_t_bytes, .int v_t_matches, .int v_t_storedBits, .int v_t_fixedBits, .int v_t_ownBits, .int v_t_out, .int v_t_pos, .int v_t_total, .int v_t_fault, .int v_t_place, .int v_t_made, .int v_t_limit, .int v_t_taken, .ref h_t_fresh, .ref h_t_many, .ref h_t_sorted])), (h_t_row, .inl (cB, 65536, .inl (bf f_t_row)))] s.heap := hP
  skip
  have hl := lv_entry ([.ref h_t, .int p1, .int p2]) (n := 3) (Nat.le_of_ble_eq_true rfl)
  rw [lg_entry_eq]
  generalize (lg_sl ([.ref h_t, .int p1, .int p2]) ++ List.replicate (3 - (lg_sl ([.ref h_t, .int p1, .int p2])).length) Slot.unset).toArray = ls at hl ⊢
  have hl : lv_has ls 3 [(0, .ref h_t), (1, .int p1), (2, .int p2)] := hl
  refine lv_aload_n hx hb d_Mo_alter_0 rfl (lv_at hl 0 rfl) ?_
  refine lv_iload_n hx hb d_Mo_alter_1 rfl (lv_at hl 1 rfl) ?_
  refine lv_tern (J := 33) (cd := p1 < 0) (a := (1 : Int32)) (b := (if p1 < v_t_length then (if p2 < 0 then (2 : Int32) else (if p2 ≤ (255 : Int32) then (0 : Int32) else (2 : Int32))) else (1 : Int32))) (rest := [.ref h_t]) (fun k11 k12 => ?_) ?_
  · refine lv_if_lt (tgt := 13) hx hb d_Mo_alter_2 (by decide) (fun c1 => ?_) (fun c1 => ?_)
    · refine lv_iconst (v := (1 : Int32)) hx hb d_Mo_alter_13 (by decide) ?_
      refine lv_goto (tgt := 33) hx hb d_Mo_alter_14 (by decide) ?_
      exact k11 c1
    · refine lv_iload_n hx hb d_Mo_alter_5 rfl (lv_at hl 1 rfl) ?_
      refine lv_aload_n hx hb d_Mo_alter_6 rfl (lv_at hl 0 rfl) ?_
      refine va_get (D := (dC, dI)) (ci := 11) (v := .int v_t_length) (C := R_Mo) (T := F_Mo) (N := 45) hx hb ht in_Mo hown hK hP 0 rfl rfl 1 (by decide) (ht _ k_946) (fun _ h9 => h9) rfl d_Mo_alter_7 ?_
      refine lv_tern (J := 33) (cd := p1 < v_t_length) (a := (if p2 < 0 then (2 : Int32) else (if p2 ≤ (255 : Int32) then (0 : Int32) else (2 : Int32)))) (b := (1 : Int32)) (rest := [.ref h_t]) (fun k9 k10 => ?_) ?_
      · refine lv_icmp_lt (tgt := 17) hx hb d_Mo_alter_10 (by decide) (fun c2 => ?_) (fun c2 => ?_)
        · refine lv_iload_n hx hb d_Mo_alter_17 rfl (lv_at hl 2 rfl) ?_
          refine lv_tern (J := 33) (cd := p2 < 0) (a := (2 : Int32)) (b := (if p2 ≤ (255 : Int32) then (0 : Int32) else (2 : Int32))) (rest := [.ref h_t]) (fun k7 k8 => ?_) ?_
          · refine lv_if_lt (tgt := 28) hx hb d_Mo_alter_18 (by decide) (fun c3 => ?_) (fun c3 => ?_)
            · refine lv_iconst (v := (2 : Int32)) hx hb d_Mo_alter_28 (by decide) ?_
              refine lv_goto (tgt := 33) hx hb d_Mo_alter_29 (by decide) ?_
              exact k7 c3
            · refine lv_iload_n hx hb d_Mo_alter_21 rfl (lv_at hl 2 rfl) ?_
              refine lv_sipush (v := (255 : Int32)) hx hb d_Mo_alter_22 (by decide) ?_
              refine lv_tern (J := 33) (cd := p2 ≤ (255 : Int32)) (a := (0 : Int32)) (b := (2 : Int32)) (rest := [.ref h_t]) (fun k5 k6 => ?_) ?_
              · refine lv_icmp_le (tgt := 32) hx hb d_Mo_alter_25 (by decide) (fun c4 => ?_) (fun c4 => ?_)
                · refine lv_iconst (v := (0 : Int32)) hx hb d_Mo_alter_32 (by decide) ?_
                  exact k5 c4
                · refine lv_iconst (v := (2 : Int32)) hx hb d_Mo_alter_28 (by decide) ?_
                  refine lv_goto (tgt := 33) hx hb d_Mo_alter_29 (by decide) ?_
                  exact k6 c4
              exact k8 c3
          exact k9 c2
        · refine lv_iconst (v := (1 : Int32)) hx hb d_Mo_alter_13 (by decide) ?_
          refine lv_goto (tgt := 33) hx hb d_Mo_alter_14 (by decide) ?_
          exact k10 c2
      exact k12 c1
  refine va_put (D := (dC, dI)) (ci := 11) (v := .int (if p1 < 0 then (1 : Int32) else (if p1 < v_t_length then (if p2 < 0 then (2 : Int32) else (if p2 ≤ (255 : Int32) then (0 : Int32) else (2 : Int32))) else (1 : Int32)))) (ty := .int) (C := R_Mo) (T := F_Mo) (N := 45) hx hb ht in_Mo t_Mo t_Mo_ok n_Mo hown hK hP hD hS 0 rfl rfl 0 (by decide) (ht _ k_945) (fun _ h9 => h9) rfl (by decide +kernel) rfl rfl (Nat.le_of_ble_eq_true rfl) d_Mo_alter_33 (fun H locs hP hD hS => ?_)
  have hP : va_P (dC, dI) vwCl [(h_t, .inr (11, [.int (if p1 < 0 then (1 : Int32) else (if p1 < v_t_length then (if p2 < 0 then (2 : Int32) else (if p2 ≤ (255 : Int32) then (0 : Int32) else (2 : Int32))) else (1 : Int32))), .int v_t_length, .ref h_t_row, .int v_t_size, .ref h_t_product, .int v_t_tokens, .ref h_t_token, .ref h_t_heads, .ref h_t_before, .ref h_t_counts, .ref h_t_lengths, .ref h_t_fewCounts, .ref h_t_fewLengths, .ref h_t_weights, .ref h_t_parents, .ref h_t_symbols, .ref h_t_numbers, .ref h_t_fewNumbers, .ref h_t_firsts, .ref h_t_line, .int v_t_runs, .ref h_t_run, .ref h_t_rest, .int v_t_wide, .int v_t_deep, .int v_t_few, .ref h_t_ownLengths, .ref h_t_ownFew, .int v_t_kind, .int v_t_bytes, .int v_t_matches, .int v_t_storedBits, .int v_t_fixedBits, .int v_t_ownBits, .int v_t_out, .int v_t_pos, .int v_t_total, .int v_t_fault, .int v_t_place, .int v_t_made, .int v_t_limit, .int v_t_taken, .ref h_t_fresh, .ref h_t_many, .ref h_t_sorted])), (h_t_row, .inl (cB, 65536, .inl (bf f_t_row)))] H := hP
  have hD : va_D A [(h_t, .inr (11, [.int (if p1 < 0 then (1 : Int32) else (if p1 < v_t_length then (if p2 < 0 then (2 : Int32) else (if p2 ≤ (255 : Int32) then (0 : Int32) else (2 : Int32))) else (1 : Int32))), .int v_t_length, .ref h_t_row, .int v_t_size, .ref h_t_product, .int v_t_tokens, .ref h_t_token, .ref h_t_heads, .ref h_t_before, .ref h_t_counts, .ref h_t_lengths, .ref h_t_fewCounts, .ref h_t_fewLengths, .ref h_t_weights, .ref h_t_parents, .ref h_t_symbols, .ref h_t_numbers, .ref h_t_fewNumbers, .ref h_t_firsts, .ref h_t_line, .int v_t_runs, .ref h_t_run, .ref h_t_rest, .int v_t_wide, .int v_t_deep, .int v_t_few, .ref h_t_ownLengths, .ref h_t_ownFew, .int v_t_kind, .int v_t_bytes, .int v_t_matches, .int v_t_storedBits, .int v_t_fixedBits, .int v_t_ownBits, .int v_t_out, .int v_t_pos, .int v_t_total, .int v_t_fault, .int v_t_place, .int v_t_made, .int v_t_limit, .int v_t_taken, .ref h_t_fresh, .ref h_t_many, .ref h_t_sorted])), (h_t_row, .inl (cB, 65536, .inl (bf f_t_row)))] := hD
  refine lv_aload_n hx hb d_Mo_alter_36 rfl (lv_at hl 0 rfl) ?_
  refine va_get (D := (dC, dI)) (ci := 11) (v := .int (if p1 < 0 then (1 : Int32) else (if p1 < v_t_length then (if p2 < 0 then (2 : Int32) else (if p2 ≤ (255 : Int32) then (0 : Int32) else (2 : Int32))) else (1 : Int32)))) (C := R_Mo) (T := F_Mo) (N := 45) hx hb ht in_Mo hown hK hP 0 rfl rfl 0 (by decide) (ht _ k_945) (fun _ h9 => h9) rfl d_Mo_alter_37 ?_
  refine lv_if_ne (tgt := 51) hx hb d_Mo_alter_40 (by decide) (fun c13 => ?_) (fun c13 => ?_)
  · replace h := ip_n c13 h
    obtain rfl := Option.some.inj h
    exact W.vret hx hb hr (fun t ht hW => ⟨⟨(), rfl, trivial, by rw [ht]; exact hP, va_K.moved hW.alike hK, hD⟩, hS.F ht⟩) hS.2.2 d_Mo_alter_51
  · replace h := ip_p c13 h
    refine lv_aload_n hx hb d_Mo_alter_43 rfl (lv_at hl 0 rfl) ?_
    refine va_get (D := (dC, dI)) (ci := 11) (v := .ref h_t_row) (C := R_Mo) (T := F_Mo) (N := 45) hx hb ht in_Mo hown hK hP 0 rfl rfl 2 (by decide) (ht _ k_947) (fun _ h9 => h9) rfl d_Mo_alter_44 ?_
    refine lv_iload_n hx hb d_Mo_alter_47 rfl (lv_at hl 1 rfl) ?_
    refine lv_iload_n hx hb d_Mo_alter_48 rfl (lv_at hl 2 rfl) ?_
    refine lv_i2b (v := p2.toInt8.toInt32) hx hb d_Mo_alter_49 rfl ?_
    obtain ⟨g14, h⟩ := gd h
    refine va_bast (f := bf f_t_row) hx hb hK hP hD hS 1 0 rfl rfl g14 d_Mo_alter_50 (fun H locs hP hD hS => ?_)
    rw [bf_upd] at hP hD
    have hP : va_P (dC, dI) vwCl [(h_t, .inr (11, [.int (if p1 < 0 then (1 : Int32) else (if p1 < v_t_length then (if p2 < 0 then (2 : Int32) else (if p2 ≤ (255 : Int32) then (0 : Int32) else (2 : Int32))) else (1 : Int32))), .int v_t_length, .ref h_t_row, .int v_t_size, .ref h_t_product, .int v_t_tokens, .ref h_t_token, .ref h_t_heads, .ref h_t_before, .ref h_t_counts, .ref h_t_lengths, .ref h_t_fewCounts, .ref h_t_fewLengths, .ref h_t_weights, .ref h_t_parents, .ref h_t_symbols, .ref h_t_numbers, .ref h_t_fewNumbers, .ref h_t_firsts, .ref h_t_line, .int v_t_runs, .ref h_t_run, .ref h_t_rest, .int v_t_wide, .int v_t_deep, .int v_t_few, .ref h_t_ownLengths, .ref h_t_ownFew, .int v_t_kind, .int v_t_bytes, .int v_t_matches, .int v_t_storedBits, .int v_t_fixedBits, .int v_t_ownBits, .int v_t_out, .int v_t_pos, .int v_t_total, .int v_t_fault, .int v_t_place, .int v_t_made, .int v_t_limit, .int v_t_taken, .ref h_t_fresh, .ref h_t_many, .ref h_t_sorted])), (h_t_row, .inl (cB, 65536, .inl (bf (upd f_t_row p1.toNatClampNeg p2.toInt8.toInt32))))] H := hP
    have hD : va_D A [(h_t, .inr (11, [.int (if p1 < 0 then (1 : Int32) else (if p1 < v_t_length then (if p2 < 0 then (2 : Int32) else (if p2 ≤ (255 : Int32) then (0 : Int32) else (2 : Int32))) else (1 : Int32))), .int v_t_length, .ref h_t_row, .int v_t_size, .ref h_t_product, .int v_t_tokens, .ref h_t_token, .ref h_t_heads, .ref h_t_before, .ref h_t_counts, .ref h_t_lengths, .ref h_t_fewCounts, .ref h_t_fewLengths, .ref h_t_weights, .ref h_t_parents, .ref h_t_symbols, .ref h_t_numbers, .ref h_t_fewNumbers, .ref h_t_firsts, .ref h_t_line, .int v_t_runs, .ref h_t_run, .ref h_t_rest, .int v_t_wide, .int v_t_deep, .int v_t_few, .ref h_t_ownLengths, .ref h_t_ownFew, .int v_t_kind, .int v_t_bytes, .int v_t_matches, .int v_t_storedBits, .int v_t_fixedBits, .int v_t_ownBits, .int v_t_out, .int v_t_pos, .int v_t_total, .int v_t_fault, .int v_t_place, .int v_t_made, .int v_t_limit, .int v_t_taken, .ref h_t_fresh, .ref h_t_many, .ref h_t_sorted])), (h_t_row, .inl (cB, 65536, .inl (bf (upd f_t_row p1.toNatClampNeg p2.toInt8.toInt32))))] := hD
    obtain rfl := Option.some.inj h
    exact W.vret hx hb hr (fun t ht hW => ⟨⟨(), rfl, trivial, by rw [ht]; exact hP, va_K.moved hW.alike hK, hD⟩, hS.F ht⟩) hS.2.2 d_Mo_alter_51
/-! PackedBytesModel.check()J -/
def fMo_check_32 (N : Nat) : Nat → (Int32) → (Int32) → Option (Int32)
  | 0, _, _ => none
  | k + 1, x1, x3 =>
    if (8 : Int32) ≤ x3 then
      some x1
    else
      fMo_check_32 N k (if (x1 &&& (1 : Int32)) = 0 then (jus x1 (1 : Int32)) else ((jus x1 (1 : Int32)) ^^^ (-306674912 : Int32))) (x3 + (1 : Int32))
def fMo_check_9 (N : Nat) (v_t_length : Int32) (f_t_row : Nat → Int32) : Nat → (Int32) → (Int32) → Option (Int32)
  | 0, _, _ => none
  | k + 1, x1, x2 =>
    if v_t_length ≤ x2 then
      some x1
    else
      if ¬ (x2 < 0 ∨ 65536 ≤ x2.toNatClampNeg) then
        (fMo_check_32 N N (x1 ^^^ (((f_t_row x2.toNatClampNeg).toInt8.toInt32) &&& (255 : Int32))) (0 : Int32)).bind (fun y10 =>
          fMo_check_9 N v_t_length f_t_row k y10 (x2 + (1 : Int32)))
      else none
def fMo_check (N : Nat) (v_t_length : Int32) (f_t_row : Nat → Int32) : Option (Int64 × Int32) :=
    (fMo_check_9 N v_t_length f_t_row N (-1 : Int32) (0 : Int32)).bind (fun y11 =>
      some (((y11 ^^^ (-1 : Int32)).toInt64) &&& (4294967295 : Int64), (0 : Int32)))
set_option maxHeartbeats 4000000 in
set_option maxRecDepth 100000 in
theorem wMo_check_32 {p : Program} {l : Launch} {e : Env} {s : State} {m : MethodId} {args : Array Value} {below : List Frame} {meth : Method} {c : Code} {Q : State → Prop} {A : Nat → Prop} {dC : Nat → ClassId} {dI : Nat → Nat → Nat} (h_t h_t_row h_t_product h_t_token h_t_heads h_t_before h_t_counts h_t_lengths h_t_fewCounts h_t_fewLengths h_t_weights h_t_parents h_t_symbols h_t_numbers h_t_fewNumbers h_t_firsts h_t_line h_t_run h_t_rest h_t_ownLengths h_t_ownFew h_t_fresh h_t_many h_t_sorted : Nat) (cB cI cJ : ClassId) (N : Nat) (v_t_code : Int32) (v_t_length : Int32) (v_t_size : Int32) (v_t_tokens : Int32) (v_t_runs : Int32) (v_t_wide : Int32) (v_t_deep : Int32) (v_t_few : Int32) (v_t_kind : Int32) (v_t_bytes : Int32) (v_t_matches : Int32) (v_t_storedBits : Int32) (v_t_fixedBits : Int32) (v_t_ownBits : Int32) (v_t_out : Int32) (v_t_pos : Int32) (v_t_total : Int32) (v_t_fault : Int32) (v_t_place : Int32) (v_t_made : Int32) (v_t_limit : Int32) (v_t_taken : Int32) (f_t_row : Nat → Int32) (x2 : Int32) (C : CX p s m args c b_Mo_check 4 R_Mo A (dC, dI) [(cB, .byte), (cI, .int), (cJ, .long)]) :
    ∀ (n : Nat) (x1 : Int32) (x3 : Int32) (H : Heap) (locs : List Loc) (ls : Array Slot) (o : Int32), va_P (dC, dI) vwCl [(h_t, .inr (11, [.int v_t_code, .int v_t_length, .ref h_t_row, .int v_t_size, .ref h_t_product, .int v_t_tokens, .ref h_t_token, .ref h_t_heads, .ref h_t_before, .ref h_t_counts, .ref h_t_lengths, .ref h_t_fewCounts, .ref h_t_fewLengths, .ref h_t_weights, .ref h_t_parents, .ref h_t_symbols, .ref h_t_numbers, .ref h_t_fewNumbers, .ref h_t_firsts, .ref h_t_line, .int v_t_runs, .ref h_t_run, .ref h_t_rest, .int v_t_wide, .int v_t_deep, .int v_t_few, .ref h_t_ownLengths, .ref h_t_ownFew, .int v_t_kind, .int v_t_bytes, .int v_t_matches, .int v_t_storedBits, .int v_t_fixedBits, .int v_t_ownBits, .int v_t_out, .int v_t_pos, .int v_t_total, .int v_t_fault, .int v_t_place, .int v_t_made, .int v_t_limit, .int v_t_taken, .ref h_t_fresh, .ref h_t_many, .ref h_t_sorted])), (h_t_row, .inl (cB, 65536, .inl (bf f_t_row)))] H → va_D A [(h_t, .inr (11, [.int v_t_code, .int v_t_length, .ref h_t_row, .int v_t_size, .ref h_t_product, .int v_t_tokens, .ref h_t_token, .ref h_t_heads, .ref h_t_before, .ref h_t_counts, .ref h_t_lengths, .ref h_t_fewCounts, .ref h_t_fewLengths, .ref h_t_weights, .ref h_t_parents, .ref h_t_symbols, .ref h_t_numbers, .ref h_t_fewNumbers, .ref h_t_firsts, .ref h_t_line, .int v_t_runs, .ref h_t_run, .ref h_t_rest, .int v_t_wide, .int v_t_deep, .int v_t_few, .ref h_t_ownLengths, .ref h_t_ownFew, .int v_t_kind, .int v_t_bytes, .int v_t_matches, .int v_t_storedBits, .int v_t_fixedBits, .int v_t_ownBits, .int v_t_out, .int v_t_pos, .int v_t_total, .int v_t_fault, .int v_t_place, .int v_t_made, .int v_t_limit, .int v_t_taken, .ref h_t_fresh, .ref h_t_many, .ref h_t_sorted])), (h_t_row, .inl (cB, 65536, .inl (bf f_t_row)))] → va_S A s.heap H locs → lv_has ls 4 [(0, .ref h_t), (1, .int x1), (2, .int x2), (3, .int x3)] → fMo_check_32 N n x1 x3 = some o → (∀ (H : Heap) (locs : List Loc) (ls : Array Slot), va_P (dC, dI) vwCl [(h_t, .inr (11, [.int v_t_code, .int v_t_length, .ref h_t_row, .int v_t_size, .ref h_t_product, .int v_t_tokens, .ref h_t_token, .ref h_t_heads, .ref h_t_before, .ref h_t_counts, .ref h_t_lengths, .ref h_t_fewCounts, .ref h_t_fewLengths, .ref h_t_weights, .ref h_t_parents, .ref h_t_symbols, .ref h_t_numbers, .ref h_t_fewNumbers, .ref h_t_firsts, .ref h_t_line, .int v_t_runs, .ref h_t_run, .ref h_t_rest, .int v_t_wide, .int v_t_deep, .int v_t_few, .ref h_t_ownLengths, .ref h_t_ownFew, .int v_t_kind, .int v_t_bytes, .int v_t_matches, .int v_t_storedBits, .int v_t_fixedBits, .int v_t_ownBits, .int v_t_out, .int v_t_pos, .int v_t_total, .int v_t_fault, .int v_t_place, .int v_t_made, .int v_t_limit, .int v_t_taken, .ref h_t_fresh, .ref h_t_many, .ref h_t_sorted])), (h_t_row, .inl (cB, 65536, .inl (bf f_t_row)))] H → va_D A [(h_t, .inr (11, [.int v_t_code, .int v_t_length, .ref h_t_row, .int v_t_size, .ref h_t_product, .int v_t_tokens, .ref h_t_token, .ref h_t_heads, .ref h_t_before, .ref h_t_counts, .ref h_t_lengths, .ref h_t_fewCounts, .ref h_t_fewLengths, .ref h_t_weights, .ref h_t_parents, .ref h_t_symbols, .ref h_t_numbers, .ref h_t_fewNumbers, .ref h_t_firsts, .ref h_t_line, .int v_t_runs, .ref h_t_run, .ref h_t_rest, .int v_t_wide, .int v_t_deep, .int v_t_few, .ref h_t_ownLengths, .ref h_t_ownFew, .int v_t_kind, .int v_t_bytes, .int v_t_matches, .int v_t_storedBits, .int v_t_fixedBits, .int v_t_ownBits, .int v_t_out, .int v_t_pos, .int v_t_total, .int v_t_fault, .int v_t_place, .int v_t_made, .int v_t_limit, .int v_t_taken, .ref h_t_fresh, .ref h_t_many, .ref h_t_sorted])), (h_t_row, .inl (cB, 65536, .inl (bf f_t_row)))] → va_S A s.heap H locs → lv_has ls 4 [(0, .ref h_t), (1, .int o), (2, .int x2)] → W p l e ({ frames := 0, cells := 0, slots := 0, locals := 0 } : Room) s m args below meth c H locs 0 0 Q (F0 m 63 ls [])) → W p l e ({ frames := 0, cells := 0, slots := 0, locals := 0 } : Room) s m args below meth c H locs 0 0 Q (F0 m 32 ls []) := by
  obtain ⟨hx, hb, hml, hown, ht, hA, hK, hN⟩ := id C
  intro n
  induction n with
  | zero => intro x1 x3 H locs ls o _ _ _ _ h; exact nomatch h
  | succ k ih =>
    intro x1 x3 H locs ls o hP hD hS hl h kx
    refine lv_iload_n hx hb d_Mo_check_32 rfl (lv_at hl 3 rfl) ?_
    refine lv_bipush (v := (8 : Int32)) hx hb d_Mo_check_33 (by decide) ?_
    refine lv_icmp_ge (tgt := 63) hx hb d_Mo_check_35 (by decide) (fun c3 => ?_) (fun c3 => ?_)
    · replace h := ip_p c3 h
      obtain rfl := Option.some.inj h
      exact kx _ _ _ hP hD hS (lv_sub hl [0, 1, 2] rfl)
    · replace h := ip_n c3 h
      refine lv_iload_n hx hb d_Mo_check_38 rfl (lv_at hl 1 rfl) ?_
      refine lv_iconst (v := (1 : Int32)) hx hb d_Mo_check_39 (by decide) ?_
      refine lv_iand hx hb d_Mo_check_40 ?_
      refine lv_tern (J := 56) (cd := (x1 &&& (1 : Int32)) = 0) (a := (jus x1 (1 : Int32))) (b := ((jus x1 (1 : Int32)) ^^^ (-306674912 : Int32))) (rest := []) (fun k8 k9 => ?_) ?_
      · refine lv_if_ne (tgt := 50) hx hb d_Mo_check_41 (by decide) (fun c7 => ?_) (fun c7 => ?_)
        · refine lv_iload_n hx hb d_Mo_check_50 rfl (lv_at hl 1 rfl) ?_
          refine lv_iconst (v := (1 : Int32)) hx hb d_Mo_check_51 (by decide) ?_
          refine lv_iushr (v := jus x1 (1 : Int32)) hx hb d_Mo_check_52 rfl ?_
          refine lv_ldc (v := (-306674912 : Int32)) hx hb hown (ht _ k_1109) d_Mo_check_53 ?_
          refine lv_ixor hx hb d_Mo_check_55 ?_
          exact k9 c7
        · refine lv_iload_n hx hb d_Mo_check_44 rfl (lv_at hl 1 rfl) ?_
          refine lv_iconst (v := (1 : Int32)) hx hb d_Mo_check_45 (by decide) ?_
          refine lv_iushr (v := jus x1 (1 : Int32)) hx hb d_Mo_check_46 rfl ?_
          refine lv_goto (tgt := 56) hx hb d_Mo_check_47 (by decide) ?_
          exact k8 c7
      refine lv_istore_n (lv' := [(1, .int (if (x1 &&& (1 : Int32)) = 0 then (jus x1 (1 : Int32)) else ((jus x1 (1 : Int32)) ^^^ (-306674912 : Int32)))), (0, .ref h_t), (2, .int x2), (3, .int x3)]) hx hb d_Mo_check_56 rfl hl (by decide) rfl (fun ls hl => ?_)
      refine lv_iinc (v := x3 + (1 : Int32)) (lv' := [(3, .int (x3 + (1 : Int32))), (1, .int (if (x1 &&& (1 : Int32)) = 0 then (jus x1 (1 : Int32)) else ((jus x1 (1 : Int32)) ^^^ (-306674912 : Int32)))), (0, .ref h_t), (2, .int x2)]) hx hb d_Mo_check_57 hl (k := 3) rfl rfl (by decide) rfl (fun ls hl => ?_)
      refine lv_goto (tgt := 32) hx hb d_Mo_check_60 (by decide) ?_
      exact ih (if (x1 &&& (1 : Int32)) = 0 then (jus x1 (1 : Int32)) else ((jus x1 (1 : Int32)) ^^^ (-306674912 : Int32))) (x3 + (1 : Int32)) _ _ _ _ hP hD hS (lv_sub hl [2, 1, 3, 0] rfl) h kx
set_option maxHeartbeats 4000000 in
set_option maxRecDepth 100000 in
theorem wMo_check_9 {p : Program} {l : Launch} {e : Env} {s : State} {m : MethodId} {args : Array Value} {below : List Frame} {meth : Method} {c : Code} {Q : State → Prop} {A : Nat → Prop} {dC : Nat → ClassId} {dI : Nat → Nat → Nat} (h_t h_t_row h_t_product h_t_token h_t_heads h_t_before h_t_counts h_t_lengths h_t_fewCounts h_t_fewLengths h_t_weights h_t_parents h_t_symbols h_t_numbers h_t_fewNumbers h_t_firsts h_t_line h_t_run h_t_rest h_t_ownLengths h_t_ownFew h_t_fresh h_t_many h_t_sorted : Nat) (cB cI cJ : ClassId) (N : Nat) (v_t_code : Int32) (v_t_length : Int32) (v_t_size : Int32) (v_t_tokens : Int32) (v_t_runs : Int32) (v_t_wide : Int32) (v_t_deep : Int32) (v_t_few : Int32) (v_t_kind : Int32) (v_t_bytes : Int32) (v_t_matches : Int32) (v_t_storedBits : Int32) (v_t_fixedBits : Int32) (v_t_ownBits : Int32) (v_t_out : Int32) (v_t_pos : Int32) (v_t_total : Int32) (v_t_fault : Int32) (v_t_place : Int32) (v_t_made : Int32) (v_t_limit : Int32) (v_t_taken : Int32) (f_t_row : Nat → Int32) (C : CX p s m args c b_Mo_check 4 R_Mo A (dC, dI) [(cB, .byte), (cI, .int), (cJ, .long)]) :
    ∀ (n : Nat) (x1 : Int32) (x2 : Int32) (H : Heap) (locs : List Loc) (ls : Array Slot) (o : Int32), va_P (dC, dI) vwCl [(h_t, .inr (11, [.int v_t_code, .int v_t_length, .ref h_t_row, .int v_t_size, .ref h_t_product, .int v_t_tokens, .ref h_t_token, .ref h_t_heads, .ref h_t_before, .ref h_t_counts, .ref h_t_lengths, .ref h_t_fewCounts, .ref h_t_fewLengths, .ref h_t_weights, .ref h_t_parents, .ref h_t_symbols, .ref h_t_numbers, .ref h_t_fewNumbers, .ref h_t_firsts, .ref h_t_line, .int v_t_runs, .ref h_t_run, .ref h_t_rest, .int v_t_wide, .int v_t_deep, .int v_t_few, .ref h_t_ownLengths, .ref h_t_ownFew, .int v_t_kind, .int v_t_bytes, .int v_t_matches, .int v_t_storedBits, .int v_t_fixedBits, .int v_t_ownBits, .int v_t_out, .int v_t_pos, .int v_t_total, .int v_t_fault, .int v_t_place, .int v_t_made, .int v_t_limit, .int v_t_taken, .ref h_t_fresh, .ref h_t_many, .ref h_t_sorted])), (h_t_row, .inl (cB, 65536, .inl (bf f_t_row)))] H → va_D A [(h_t, .inr (11, [.int v_t_code, .int v_t_length, .ref h_t_row, .int v_t_size, .ref h_t_product, .int v_t_tokens, .ref h_t_token, .ref h_t_heads, .ref h_t_before, .ref h_t_counts, .ref h_t_lengths, .ref h_t_fewCounts, .ref h_t_fewLengths, .ref h_t_weights, .ref h_t_parents, .ref h_t_symbols, .ref h_t_numbers, .ref h_t_fewNumbers, .ref h_t_firsts, .ref h_t_line, .int v_t_runs, .ref h_t_run, .ref h_t_rest, .int v_t_wide, .int v_t_deep, .int v_t_few, .ref h_t_ownLengths, .ref h_t_ownFew, .int v_t_kind, .int v_t_bytes, .int v_t_matches, .int v_t_storedBits, .int v_t_fixedBits, .int v_t_ownBits, .int v_t_out, .int v_t_pos, .int v_t_total, .int v_t_fault, .int v_t_place, .int v_t_made, .int v_t_limit, .int v_t_taken, .ref h_t_fresh, .ref h_t_many, .ref h_t_sorted])), (h_t_row, .inl (cB, 65536, .inl (bf f_t_row)))] → va_S A s.heap H locs → lv_has ls 4 [(0, .ref h_t), (1, .int x1), (2, .int x2)] → fMo_check_9 N v_t_length f_t_row n x1 x2 = some o → (∀ (H : Heap) (locs : List Loc) (ls : Array Slot), va_P (dC, dI) vwCl [(h_t, .inr (11, [.int v_t_code, .int v_t_length, .ref h_t_row, .int v_t_size, .ref h_t_product, .int v_t_tokens, .ref h_t_token, .ref h_t_heads, .ref h_t_before, .ref h_t_counts, .ref h_t_lengths, .ref h_t_fewCounts, .ref h_t_fewLengths, .ref h_t_weights, .ref h_t_parents, .ref h_t_symbols, .ref h_t_numbers, .ref h_t_fewNumbers, .ref h_t_firsts, .ref h_t_line, .int v_t_runs, .ref h_t_run, .ref h_t_rest, .int v_t_wide, .int v_t_deep, .int v_t_few, .ref h_t_ownLengths, .ref h_t_ownFew, .int v_t_kind, .int v_t_bytes, .int v_t_matches, .int v_t_storedBits, .int v_t_fixedBits, .int v_t_ownBits, .int v_t_out, .int v_t_pos, .int v_t_total, .int v_t_fault, .int v_t_place, .int v_t_made, .int v_t_limit, .int v_t_taken, .ref h_t_fresh, .ref h_t_many, .ref h_t_sorted])), (h_t_row, .inl (cB, 65536, .inl (bf f_t_row)))] H → va_D A [(h_t, .inr (11, [.int v_t_code, .int v_t_length, .ref h_t_row, .int v_t_size, .ref h_t_product, .int v_t_tokens, .ref h_t_token, .ref h_t_heads, .ref h_t_before, .ref h_t_counts, .ref h_t_lengths, .ref h_t_fewCounts, .ref h_t_fewLengths, .ref h_t_weights, .ref h_t_parents, .ref h_t_symbols, .ref h_t_numbers, .ref h_t_fewNumbers, .ref h_t_firsts, .ref h_t_line, .int v_t_runs, .ref h_t_run, .ref h_t_rest, .int v_t_wide, .int v_t_deep, .int v_t_few, .ref h_t_ownLengths, .ref h_t_ownFew, .int v_t_kind, .int v_t_bytes, .int v_t_matches, .int v_t_storedBits, .int v_t_fixedBits, .int v_t_ownBits, .int v_t_out, .int v_t_pos, .int v_t_total, .int v_t_fault, .int v_t_place, .int v_t_made, .int v_t_limit, .int v_t_taken, .ref h_t_fresh, .ref h_t_many, .ref h_t_sorted])), (h_t_row, .inl (cB, 65536, .inl (bf f_t_row)))] → va_S A s.heap H locs → lv_has ls 4 [(1, .int o)] → W p l e ({ frames := 0, cells := 0, slots := 0, locals := 0 } : Room) s m args below meth c H locs 0 0 Q (F0 m 69 ls [])) → W p l e ({ frames := 0, cells := 0, slots := 0, locals := 0 } : Room) s m args below meth c H locs 0 0 Q (F0 m 9 ls []) := by
  obtain ⟨hx, hb, hml, hown, ht, hA, hK, hN⟩ := id C
  intro n
  induction n with
  | zero => intro x1 x2 H locs ls o _ _ _ _ h; exact nomatch h
  | succ k ih =>
    intro x1 x2 H locs ls o hP hD hS hl h kx
    refine lv_iload_n hx hb d_Mo_check_9 rfl (lv_at hl 2 rfl) ?_
    refine lv_aload_n hx hb d_Mo_check_10 rfl (lv_at hl 0 rfl) ?_
    refine va_get (D := (dC, dI)) (ci := 11) (v := .int v_t_length) (C := R_Mo) (T := F_Mo) (N := 45) hx hb ht in_Mo hown hK hP 0 rfl rfl 1 (by decide) (ht _ k_946) (fun _ h9 => h9) rfl d_Mo_check_11 ?_
    refine lv_icmp_ge (tgt := 69) hx hb d_Mo_check_14 (by decide) (fun c1 => ?_) (fun c1 => ?_)
    · replace h := ip_p c1 h
      obtain rfl := Option.some.inj h
      exact kx _ _ _ hP hD hS (lv_sub hl [1] rfl)
    · replace h := ip_n c1 h
      refine lv_iload_n hx hb d_Mo_check_17 rfl (lv_at hl 1 rfl) ?_
      refine lv_aload_n hx hb d_Mo_check_18 rfl (lv_at hl 0 rfl) ?_
      refine va_get (D := (dC, dI)) (ci := 11) (v := .ref h_t_row) (C := R_Mo) (T := F_Mo) (N := 45) hx hb ht in_Mo hown hK hP 0 rfl rfl 2 (by decide) (ht _ k_947) (fun _ h9 => h9) rfl d_Mo_check_19 ?_
      refine lv_iload_n hx hb d_Mo_check_22 rfl (lv_at hl 2 rfl) ?_
      obtain ⟨g2, h⟩ := gd h
      refine va_bald (f := bf f_t_row) hx hb hK hP 1 0 rfl rfl g2 d_Mo_check_23 ?_
      refine lv_sipush (v := (255 : Int32)) hx hb d_Mo_check_24 (by decide) ?_
      refine lv_iand hx hb d_Mo_check_27 ?_
      refine lv_ixor hx hb d_Mo_check_28 ?_
      refine lv_istore_n (lv' := [(1, .int (x1 ^^^ (((f_t_row x2.toNatClampNeg).toInt8.toInt32) &&& (255 : Int32)))), (0, .ref h_t), (2, .int x2)]) hx hb d_Mo_check_29 rfl hl (by decide) rfl (fun ls hl => ?_)
      refine lv_iconst (v := (0 : Int32)) hx hb d_Mo_check_30 (by decide) ?_
      refine lv_istore_n (lv' := [(3, .int (0 : Int32)), (1, .int (x1 ^^^ (((f_t_row x2.toNatClampNeg).toInt8.toInt32) &&& (255 : Int32)))), (0, .ref h_t), (2, .int x2)]) hx hb d_Mo_check_31 rfl hl (by decide) rfl (fun ls hl => ?_)
      obtain ⟨y10, hy10, h⟩ := bd h
      refine wMo_check_32 h_t h_t_row h_t_product h_t_token h_t_heads h_t_before h_t_counts h_t_lengths h_t_fewCounts h_t_fewLengths h_t_weights h_t_parents h_t_symbols h_t_numbers h_t_fewNumbers h_t_firsts h_t_line h_t_run h_t_rest h_t_ownLengths h_t_ownFew h_t_fresh h_t_many h_t_sorted cB cI cJ N v_t_code v_t_length v_t_size v_t_tokens v_t_runs v_t_wide v_t_deep v_t_few v_t_kind v_t_bytes v_t_matches v_t_storedBits v_t_fixedBits v_t_ownBits v_t_out v_t_pos v_t_total v_t_fault v_t_place v_t_made v_t_limit v_t_taken f_t_row x2 C N (x1 ^^^ (((f_t_row x2.toNatClampNeg).toInt8.toInt32) &&& (255 : Int32))) (0 : Int32) _ _ _ _ hP hD hS (lv_sub hl [2, 1, 3, 0] rfl) hy10 (fun H locs ls hP hD hS hl => ?_)
      refine lv_iinc (v := x2 + (1 : Int32)) (lv' := [(2, .int (x2 + (1 : Int32))), (0, .ref h_t), (1, .int y10)]) hx hb d_Mo_check_63 hl (k := 2) rfl rfl (by decide) rfl (fun ls hl => ?_)
      refine lv_goto (tgt := 9) hx hb d_Mo_check_66 (by decide) ?_
      exact ih y10 (x2 + (1 : Int32)) _ _ _ _ hP hD hS (lv_sub hl [1, 2, 0] rfl) h kx
set_option maxHeartbeats 4000000 in
set_option maxRecDepth 100000 in
theorem cMo_check (l : Launch) (dC : Nat → ClassId) (dI : Nat → Nat → Nat) (h_t h_t_row h_t_product h_t_token h_t_heads h_t_before h_t_counts h_t_lengths h_t_fewCounts h_t_fewLengths h_t_weights h_t_parents h_t_symbols h_t_numbers h_t_fewNumbers h_t_firsts h_t_line h_t_run h_t_rest h_t_ownLengths h_t_ownFew h_t_fresh h_t_many h_t_sorted : Nat) (cB cI cJ : ClassId) (sz : Nat) (N : Nat) (v_t_code : Int32) (v_t_length : Int32) (v_t_size : Int32) (v_t_tokens : Int32) (v_t_runs : Int32) (v_t_wide : Int32) (v_t_deep : Int32) (v_t_few : Int32) (v_t_kind : Int32) (v_t_bytes : Int32) (v_t_matches : Int32) (v_t_storedBits : Int32) (v_t_fixedBits : Int32) (v_t_ownBits : Int32) (v_t_out : Int32) (v_t_pos : Int32) (v_t_total : Int32) (v_t_fault : Int32) (v_t_place : Int32) (v_t_made : Int32) (v_t_limit : Int32) (v_t_taken : Int32) (f_t_row : Nat → Int32) (o : Int64 × Int32) (h : fMo_check N v_t_length f_t_row = some o) : Met l y_Mo_check w_Mo_check ({ frames := 0, cells := 0, slots := 0, locals := 0 } : Room) (va_Pc [.ref h_t] (fun U => U.heap.size = sz ∧ va_P (dC, dI) vwCl [(h_t, .inr (11, [.int v_t_code, .int v_t_length, .ref h_t_row, .int v_t_size, .ref h_t_product, .int v_t_tokens, .ref h_t_token, .ref h_t_heads, .ref h_t_before, .ref h_t_counts, .ref h_t_lengths, .ref h_t_fewCounts, .ref h_t_fewLengths, .ref h_t_weights, .ref h_t_parents, .ref h_t_symbols, .ref h_t_numbers, .ref h_t_fewNumbers, .ref h_t_firsts, .ref h_t_line, .int v_t_runs, .ref h_t_run, .ref h_t_rest, .int v_t_wide, .int v_t_deep, .int v_t_few, .ref h_t_ownLengths, .ref h_t_ownFew, .int v_t_kind, .int v_t_bytes, .int v_t_matches, .int v_t_storedBits, .int v_t_fixedBits, .int v_t_ownBits, .int v_t_out, .int v_t_pos, .int v_t_total, .int v_t_fault, .int v_t_place, .int v_t_made, .int v_t_limit, .int v_t_taken, .ref h_t_fresh, .ref h_t_many, .ref h_t_sorted])), (h_t_row, .inl (cB, 65536, .inl (bf f_t_row)))] U.heap ∧ va_K (dC, dI) vwCl [(cB, .byte), (cI, .int), (cJ, .long)] U ∧ va_D (fun _ => True) [(h_t, .inr (11, [.int v_t_code, .int v_t_length, .ref h_t_row, .int v_t_size, .ref h_t_product, .int v_t_tokens, .ref h_t_token, .ref h_t_heads, .ref h_t_before, .ref h_t_counts, .ref h_t_lengths, .ref h_t_fewCounts, .ref h_t_fewLengths, .ref h_t_weights, .ref h_t_parents, .ref h_t_symbols, .ref h_t_numbers, .ref h_t_fewNumbers, .ref h_t_firsts, .ref h_t_line, .int v_t_runs, .ref h_t_run, .ref h_t_rest, .int v_t_wide, .int v_t_deep, .int v_t_few, .ref h_t_ownLengths, .ref h_t_ownFew, .int v_t_kind, .int v_t_bytes, .int v_t_matches, .int v_t_storedBits, .int v_t_fixedBits, .int v_t_ownBits, .int v_t_out, .int v_t_pos, .int v_t_total, .int v_t_fault, .int v_t_place, .int v_t_made, .int v_t_limit, .int v_t_taken, .ref h_t_fresh, .ref h_t_many, .ref h_t_sorted])), (h_t_row, .inl (cB, 65536, .inl (bf f_t_row)))] ∧ NW U)) (va_Ql (fun r (_ : Unit) => r = o.1) (fun _ t => va_P (dC, dI) vwCl [(h_t, .inr (11, [.int o.2, .int v_t_length, .ref h_t_row, .int v_t_size, .ref h_t_product, .int v_t_tokens, .ref h_t_token, .ref h_t_heads, .ref h_t_before, .ref h_t_counts, .ref h_t_lengths, .ref h_t_fewCounts, .ref h_t_fewLengths, .ref h_t_weights, .ref h_t_parents, .ref h_t_symbols, .ref h_t_numbers, .ref h_t_fewNumbers, .ref h_t_firsts, .ref h_t_line, .int v_t_runs, .ref h_t_run, .ref h_t_rest, .int v_t_wide, .int v_t_deep, .int v_t_few, .ref h_t_ownLengths, .ref h_t_ownFew, .int v_t_kind, .int v_t_bytes, .int v_t_matches, .int v_t_storedBits, .int v_t_fixedBits, .int v_t_ownBits, .int v_t_out, .int v_t_pos, .int v_t_total, .int v_t_fault, .int v_t_place, .int v_t_made, .int v_t_limit, .int v_t_taken, .ref h_t_fresh, .ref h_t_many, .ref h_t_sorted])), (h_t_row, .inl (cB, 65536, .inl (bf f_t_row)))] t.heap ∧ va_K (dC, dI) vwCl [(cB, .byte), (cI, .int), (cJ, .long)] t ∧ va_D (va_A [(h_t, .inr (11, [.int v_t_code, .int v_t_length, .ref h_t_row, .int v_t_size, .ref h_t_product, .int v_t_tokens, .ref h_t_token, .ref h_t_heads, .ref h_t_before, .ref h_t_counts, .ref h_t_lengths, .ref h_t_fewCounts, .ref h_t_fewLengths, .ref h_t_weights, .ref h_t_parents, .ref h_t_symbols, .ref h_t_numbers, .ref h_t_fewNumbers, .ref h_t_firsts, .ref h_t_line, .int v_t_runs, .ref h_t_run, .ref h_t_rest, .int v_t_wide, .int v_t_deep, .int v_t_few, .ref h_t_ownLengths, .ref h_t_ownFew, .int v_t_kind, .int v_t_bytes, .int v_t_matches, .int v_t_storedBits, .int v_t_fixedBits, .int v_t_ownBits, .int v_t_out, .int v_t_pos, .int v_t_total, .int v_t_fault, .int v_t_place, .int v_t_made, .int v_t_limit, .int v_t_taken, .ref h_t_fresh, .ref h_t_many, .ref h_t_sorted])), (h_t_row, .inl (cB, 65536, .inl (bf f_t_row)))] sz) [(h_t, .inr (11, [.int o.2, .int v_t_length, .ref h_t_row, .int v_t_size, .ref h_t_product, .int v_t_tokens, .ref h_t_token, .ref h_t_heads, .ref h_t_before, .ref h_t_counts, .ref h_t_lengths, .ref h_t_fewCounts, .ref h_t_fewLengths, .ref h_t_weights, .ref h_t_parents, .ref h_t_symbols, .ref h_t_numbers, .ref h_t_fewNumbers, .ref h_t_firsts, .ref h_t_line, .int v_t_runs, .ref h_t_run, .ref h_t_rest, .int v_t_wide, .int v_t_deep, .int v_t_few, .ref h_t_ownLengths, .ref h_t_ownFew, .int v_t_kind, .int v_t_bytes, .int v_t_matches, .int v_t_storedBits, .int v_t_fixedBits, .int v_t_ownBits, .int v_t_out, .int v_t_pos, .int v_t_total, .int v_t_fault, .int v_t_place, .int v_t_made, .int v_t_limit, .int v_t_taken, .ref h_t_fresh, .ref h_t_many, .ref h_t_sorted])), (h_t_row, .inl (cB, 65536, .inl (bf f_t_row)))]) (va_A [(h_t, .inr (11, [.int v_t_code, .int v_t_length, .ref h_t_row, .int v_t_size, .ref h_t_product, .int v_t_tokens, .ref h_t_token, .ref h_t_heads, .ref h_t_before, .ref h_t_counts, .ref h_t_lengths, .ref h_t_fewCounts, .ref h_t_fewLengths, .ref h_t_weights, .ref h_t_parents, .ref h_t_symbols, .ref h_t_numbers, .ref h_t_fewNumbers, .ref h_t_firsts, .ref h_t_line, .int v_t_runs, .ref h_t_run, .ref h_t_rest, .int v_t_wide, .int v_t_deep, .int v_t_few, .ref h_t_ownLengths, .ref h_t_ownFew, .int v_t_kind, .int v_t_bytes, .int v_t_matches, .int v_t_storedBits, .int v_t_fixedBits, .int v_t_ownBits, .int v_t_out, .int v_t_pos, .int v_t_total, .int v_t_fault, .int v_t_place, .int v_t_made, .int v_t_limit, .int v_t_taken, .ref h_t_fresh, .ref h_t_many, .ref h_t_sorted])), (h_t_row, .inl (cB, 65536, .inl (bf f_t_row)))] sz)) 0 0 (va_A [(h_t, .inr (11, [.int v_t_code, .int v_t_length, .ref h_t_row, .int v_t_size, .ref h_t_product, .int v_t_tokens, .ref h_t_token, .ref h_t_heads, .ref h_t_before, .ref h_t_counts, .ref h_t_lengths, .ref h_t_fewCounts, .ref h_t_fewLengths, .ref h_t_weights, .ref h_t_parents, .ref h_t_symbols, .ref h_t_numbers, .ref h_t_fewNumbers, .ref h_t_firsts, .ref h_t_line, .int v_t_runs, .ref h_t_run, .ref h_t_rest, .int v_t_wide, .int v_t_deep, .int v_t_few, .ref h_t_ownLengths, .ref h_t_ownFew, .int v_t_kind, .int v_t_bytes, .int v_t_matches, .int v_t_storedBits, .int v_t_fixedBits, .int v_t_ownBits, .int v_t_out, .int v_t_pos, .int v_t_total, .int v_t_fault, .int v_t_place, .int v_t_made, .int v_t_limit, .int v_t_taken, .ref h_t_fresh, .ref h_t_many, .ref h_t_sorted])), (h_t_row, .inl (cB, 65536, .inl (bf f_t_row)))] sz) := by
  refine Met.ofW (cc := b_Mo_check) (maxL := 4) (ret := (some .long)) (by decide) rfl ?_
  intro p e s m args below meth c s₁ B hml hv
  obtain ⟨rfl, hsz, hP, hK, hD0, hN⟩ := hv
  have hx := B.exec
  have hb := B.bytes
  have hr := B.returns
  have hts := atoms_spec (ws := w_Mo_check) B.pre
  have ht : ∀ w ∈ TB, w.before ([.ref h_t]).toArray s = true := fun w h => hts w (List.mem_cons_of_mem _ h)
  have hown : s.vm.findClass R_Mo = some m.cls := findClass_of_methodNamed B.named
  have hlocks := B.notSynchronized
  subst hsz
  have hD := hD0.self (sz := s.heap.size)
  generalize hAe : va_A [(h_t, .inr (11, [.int v_t_code, .int v_t_length, .ref h_t_row, .int v_t_size, .ref h_t_product, .int v_t_tokens, .ref h_t_token, .ref h_t_heads, .ref h_t_before, .ref h_t_counts, .ref h_t_lengths, .ref h_t_fewCounts, .ref h_t_fewLengths, .ref h_t_weights, .ref h_t_parents, .ref h_t_symbols, .ref h_t_numbers, .ref h_t_fewNumbers, .ref h_t_firsts, .ref h_t_line, .int v_t_runs, .ref h_t_run, .ref h_t_rest, .int v_t_wide, .int v_t_deep, .int v_t_few, .ref h_t_ownLengths, .ref h_t_ownFew, .int v_t_kind, .int v_t_bytes, .int v_t_matches, .int v_t_storedBits, .int v_t_fixedBits, .int v_t_ownBits, .int v_t_out, .int v_t_pos, .int v_t_total, .int v_t_fault, .int v_t_place, .int v_t_made, .int v_t_limit, .int v_t_taken, .ref h_t_fresh, .ref h_t_many, .ref h_t_sorted])), (h_t_row, .inl (cB, 65536, .inl (bf f_t_row)))] s.heap.size = A at hD ⊢
  have hA : ∀ q : Nat, s.heap.size ≤ q → A q := fun q h => by rw [← hAe]; exact Or.inr h
  have hS : va_S A s.heap s.heap [] := va_S.rf
  have hP : va_P (dC, dI) vwCl [(h_t, .inr (11, [.int v_t_code, .int v_t_length, .ref h_t_row, .int v_t_size, .ref h_t_product, .int v_t_tokens, .ref h_t_token, .ref h_t_heads, .ref h_t_before, .ref h_t_counts, .ref h_t_lengths, .ref h_t_fewCounts, .ref h_t_fewLengths, .ref h_t_weights, .ref h_t_parents, .ref h_t_symbols, .ref h_t_numbers, .ref h_t_fewNumbers, .ref h_t_firsts, .ref h_t_line, .int v_t_runs, .ref h_t_run, .ref h_t_rest, .int v_t_wide, .int v_t_deep, .int v_t_few, .ref h_t_ownLengths, .ref h_t_ownFew, .int v_t_kind, .int v_t_bytes, .int v_t_matches, .int v_t_storedBits, .int v_t_fixedBits, .int v_t_ownBits, .int v_t_out, .int v_t_pos, .int v_t_total, .int v_t_fault, .int v_t_place, .int v_t_made, .int v_t_limit, .int v_t_taken, .ref h_t_fresh, .ref h_t_many, .ref h_t_sorted])), (h_t_row, .inl (cB, 65536, .inl (bf f_t_row)))] s.heap := hP
  have C : CX p s m ([.ref h_t]).toArray c b_Mo_check 4 R_Mo A (dC, dI) [(cB, .byte), (cI, .int), (cJ, .long)] := ⟨hx, hb, hml, hown, ht, hA, hK, hN⟩
  have hl := lv_entry ([.ref h_t]) (n := 4) (Nat.le_of_ble_eq_true rfl)
  rw [lg_entry_eq]
  generalize (lg_sl ([.ref h_t]) ++ List.replicate (4 - (lg_sl ([.ref h_t])).length) Slot.unset).toArray = ls at hl ⊢
  have hl : lv_has ls 4 [(0, .ref h_t)] := hl
  refine lv_aload_n hx hb d_Mo_check_0 rfl (lv_at hl 0 rfl) ?_
  refine lv_iconst (v := (0 : Int32)) hx hb d_Mo_check_1 (by decide) ?_
  refine va_put (D := (dC, dI)) (ci := 11) (v := .int (0 : Int32)) (ty := .int) (C := R_Mo) (T := F_Mo) (N := 45) hx hb ht in_Mo t_Mo t_Mo_ok n_Mo hown hK hP hD hS 0 rfl rfl 0 (by decide) (ht _ k_945) (fun _ h9 => h9) rfl (by decide +kernel) rfl rfl (Nat.le_of_ble_eq_true rfl) d_Mo_check_2 (fun H locs hP hD hS => ?_)
  have hP : va_P (dC, dI) vwCl [(h_t, .inr (11, [.int (0 : Int32), .int v_t_length, .ref h_t_row, .int v_t_size, .ref h_t_product, .int v_t_tokens, .ref h_t_token, .ref h_t_heads, .ref h_t_before, .ref h_t_counts, .ref h_t_lengths, .ref h_t_fewCounts, .ref h_t_fewLengths, .ref h_t_weights, .ref h_t_parents, .ref h_t_symbols, .ref h_t_numbers, .ref h_t_fewNumbers, .ref h_t_firsts, .ref h_t_line, .int v_t_runs, .ref h_t_run, .ref h_t_rest, .int v_t_wide, .int v_t_deep, .int v_t_few, .ref h_t_ownLengths, .ref h_t_ownFew, .int v_t_kind, .int v_t_bytes, .int v_t_matches, .int v_t_storedBits, .int v_t_fixedBits, .int v_t_ownBits, .int v_t_out, .int v_t_pos, .int v_t_total, .int v_t_fault, .int v_t_place, .int v_t_made, .int v_t_limit, .int v_t_taken, .ref h_t_fresh, .ref h_t_many, .ref h_t_sorted])), (h_t_row, .inl (cB, 65536, .inl (bf f_t_row)))] H := hP
  have hD : va_D A [(h_t, .inr (11, [.int (0 : Int32), .int v_t_length, .ref h_t_row, .int v_t_size, .ref h_t_product, .int v_t_tokens, .ref h_t_token, .ref h_t_heads, .ref h_t_before, .ref h_t_counts, .ref h_t_lengths, .ref h_t_fewCounts, .ref h_t_fewLengths, .ref h_t_weights, .ref h_t_parents, .ref h_t_symbols, .ref h_t_numbers, .ref h_t_fewNumbers, .ref h_t_firsts, .ref h_t_line, .int v_t_runs, .ref h_t_run, .ref h_t_rest, .int v_t_wide, .int v_t_deep, .int v_t_few, .ref h_t_ownLengths, .ref h_t_ownFew, .int v_t_kind, .int v_t_bytes, .int v_t_matches, .int v_t_storedBits, .int v_t_fixedBits, .int v_t_ownBits, .int v_t_out, .int v_t_pos, .int v_t_total, .int v_t_fault, .int v_t_place, .int v_t_made, .int v_t_limit, .int v_t_taken, .ref h_t_fresh, .ref h_t_many, .ref h_t_sorted])), (h_t_row, .inl (cB, 65536, .inl (bf f_t_row)))] := hD
  refine lv_iconst (v := (-1 : Int32)) hx hb d_Mo_check_5 (by decide) ?_
  refine lv_istore_n (lv' := [(1, .int (-1 : Int32)), (0, .ref h_t)]) hx hb d_Mo_check_6 rfl hl (by decide) rfl (fun ls hl => ?_)
  refine lv_iconst (v := (0 : Int32)) hx hb d_Mo_check_7 (by decide) ?_
  refine lv_istore_n (lv' := [(2, .int (0 : Int32)), (1, .int (-1 : Int32)), (0, .ref h_t)]) hx hb d_Mo_check_8 rfl hl (by decide) rfl (fun ls hl => ?_)
  obtain ⟨y11, hy11, h⟩ := bd h
  refine wMo_check_9 h_t h_t_row h_t_product h_t_token h_t_heads h_t_before h_t_counts h_t_lengths h_t_fewCounts h_t_fewLengths h_t_weights h_t_parents h_t_symbols h_t_numbers h_t_fewNumbers h_t_firsts h_t_line h_t_run h_t_rest h_t_ownLengths h_t_ownFew h_t_fresh h_t_many h_t_sorted cB cI cJ N (0 : Int32) v_t_length v_t_size v_t_tokens v_t_runs v_t_wide v_t_deep v_t_few v_t_kind v_t_bytes v_t_matches v_t_storedBits v_t_fixedBits v_t_ownBits v_t_out v_t_pos v_t_total v_t_fault v_t_place v_t_made v_t_limit v_t_taken f_t_row C N (-1 : Int32) (0 : Int32) _ _ _ _ hP hD hS (lv_sub hl [2, 1, 0] rfl) hy11 (fun H locs ls hP hD hS hl => ?_)
  refine lv_iload_n hx hb d_Mo_check_69 rfl (lv_at hl 0 rfl) ?_
  refine lv_iconst (v := (-1 : Int32)) hx hb d_Mo_check_70 (by decide) ?_
  refine lv_ixor hx hb d_Mo_check_71 ?_
  refine lv_i2l (v := (y11 ^^^ (-1 : Int32)).toInt64) hx hb d_Mo_check_72 rfl ?_
  refine lv_ldc2 (v := (4294967295 : Int64)) hx hb hown (ht _ k_1110) d_Mo_check_73 ?_
  refine lv_land hx hb d_Mo_check_76 ?_
  obtain rfl := Option.some.inj h
  exact W.lret (v := ((y11 ^^^ (-1 : Int32)).toInt64) &&& (4294967295 : Int64)) hx hb hr (fun t ht hW => ⟨⟨_, (), rfl, rfl, by rw [ht]; exact hP, va_K.moved hW.alike hK, hD⟩, hS.F ht⟩) hS.2.2 d_Mo_check_77
/-! PackedBytesModel.moreOf(I)I -/
def fMo_moreOf (N : Nat) (p1 : Int32) : Option (Int32) :=
    some (if p1 < (8 : Int32) then (0 : Int32) else (if p1 = (28 : Int32) then (0 : Int32) else ((p1 - (4 : Int32)) / (4 : Int32))))
set_option maxHeartbeats 4000000 in
set_option maxRecDepth 100000 in
theorem cMo_moreOf (l : Launch) (dC : Nat → ClassId) (dI : Nat → Nat → Nat) (cB cI cJ : ClassId) (sz : Nat) (N : Nat) (p1 : Int32) (o : Int32) (h : fMo_moreOf N p1 = some o) : Met l y_Mo_moreOf w_Mo_moreOf ({ frames := 0, cells := 0, slots := 0, locals := 0 } : Room) (va_Pc [.int p1] (fun U => U.heap.size = sz ∧ va_P (dC, dI) vwCl [] U.heap ∧ va_K (dC, dI) vwCl [(cB, .byte), (cI, .int), (cJ, .long)] U ∧ va_D (fun _ => True) [] ∧ NW U)) (va_Qi (fun r (_ : Unit) => r = o) (fun _ t => va_P (dC, dI) vwCl [] t.heap ∧ va_K (dC, dI) vwCl [(cB, .byte), (cI, .int), (cJ, .long)] t ∧ va_D (va_A [] sz) []) (va_A [] sz)) 0 0 (va_A [] sz) := by
  refine Met.ofW (cc := b_Mo_moreOf) (maxL := 1) (ret := (some .int)) (by decide) rfl ?_
  intro p e s m args below meth c s₁ B hml hv
  obtain ⟨rfl, hsz, hP, hK, hD0, hN⟩ := hv
  have hx := B.exec
  have hb := B.bytes
  have hr := B.returns
  have hts := atoms_spec (ws := w_Mo_moreOf) B.pre
  have ht : ∀ w ∈ TB, w.before ([.int p1]).toArray s = true := fun w h => hts w (List.mem_cons_of_mem _ h)
  have hown : s.vm.findClass R_Mo = some m.cls := findClass_of_methodNamed B.named
  have hlocks := B.notSynchronized
  subst hsz
  have hD := hD0.self (sz := s.heap.size)
  generalize hAe : va_A [] s.heap.size = A at hD ⊢
  have hA : ∀ q : Nat, s.heap.size ≤ q → A q := fun q h => by rw [← hAe]; exact Or.inr h
  have hS : va_S A s.heap s.heap [] := va_S.rf
  have hP : va_P (dC, dI) vwCl [] s.heap := hP
  skip
  have hl := lv_entry ([.int p1]) (n := 1) (Nat.le_of_ble_eq_true rfl)
  rw [lg_entry_eq]
  generalize (lg_sl ([.int p1]) ++ List.replicate (1 - (lg_sl ([.int p1])).length) Slot.unset).toArray = ls at hl ⊢
  have hl : lv_has ls 1 [(0, .int p1)] := hl
  refine lv_iload_n hx hb d_Mo_moreOf_0 rfl (lv_at hl 0 rfl) ?_
  refine lv_bipush (v := (8 : Int32)) hx hb d_Mo_moreOf_1 (by decide) ?_
  refine lv_tern (J := 21) (cd := p1 < (8 : Int32)) (a := (0 : Int32)) (b := (if p1 = (28 : Int32) then (0 : Int32) else ((p1 - (4 : Int32)) / (4 : Int32)))) (rest := []) (fun k5 k6 => ?_) ?_
  · refine lv_icmp_lt (tgt := 12) hx hb d_Mo_moreOf_3 (by decide) (fun c1 => ?_) (fun c1 => ?_)
    · refine lv_iconst (v := (0 : Int32)) hx hb d_Mo_moreOf_12 (by decide) ?_
      refine lv_goto (tgt := 21) hx hb d_Mo_moreOf_13 (by decide) ?_
      exact k5 c1
    · refine lv_iload_n hx hb d_Mo_moreOf_6 rfl (lv_at hl 0 rfl) ?_
      refine lv_bipush (v := (28 : Int32)) hx hb d_Mo_moreOf_7 (by decide) ?_
      refine lv_tern (J := 21) (cd := p1 = (28 : Int32)) (a := (0 : Int32)) (b := ((p1 - (4 : Int32)) / (4 : Int32))) (rest := []) (fun k3 k4 => ?_) ?_
      · refine lv_icmp_ne (tgt := 16) hx hb d_Mo_moreOf_9 (by decide) (fun c2 => ?_) (fun c2 => ?_)
        · refine lv_iload_n hx hb d_Mo_moreOf_16 rfl (lv_at hl 0 rfl) ?_
          refine lv_iconst (v := (4 : Int32)) hx hb d_Mo_moreOf_17 (by decide) ?_
          refine lv_isub hx hb d_Mo_moreOf_18 ?_
          refine lv_iconst (v := (4 : Int32)) hx hb d_Mo_moreOf_19 (by decide) ?_
          refine lv_idiv hx hb d_Mo_moreOf_20 (by decide) ?_
          exact k4 c2
        · refine lv_iconst (v := (0 : Int32)) hx hb d_Mo_moreOf_12 (by decide) ?_
          refine lv_goto (tgt := 21) hx hb d_Mo_moreOf_13 (by decide) ?_
          exact k3 c2
      exact k6 c1
  obtain rfl := Option.some.inj h
  exact W.iret (v := if p1 < (8 : Int32) then (0 : Int32) else (if p1 = (28 : Int32) then (0 : Int32) else ((p1 - (4 : Int32)) / (4 : Int32)))) hx hb hr (fun t ht hW => ⟨⟨_, (), rfl, rfl, by rw [ht]; exact hP, va_K.moved hW.alike hK, hD⟩, hS.F ht⟩) hS.2.2 d_Mo_moreOf_21
/-! PackedBytesModel.lengthOf(I)I -/
def fMo_lengthOf (N : Nat) (p1 : Int32) : Option (Int32) :=
    some (if p1 = (28 : Int32) then (258 : Int32) else (if (8 : Int32) ≤ p1 then ((3 : Int32) + (((4 : Int32) + (p1 - p1 / (4 : Int32) * (4 : Int32))) <<< (((p1 - (4 : Int32)) / (4 : Int32)) &&& 31))) else ((3 : Int32) + p1)))
set_option maxHeartbeats 4000000 in
set_option maxRecDepth 100000 in
theorem cMo_lengthOf (l : Launch) (dC : Nat → ClassId) (dI : Nat → Nat → Nat) (cB cI cJ : ClassId) (sz : Nat) (N : Nat) (p1 : Int32) (o : Int32) (h : fMo_lengthOf N p1 = some o) : Met l y_Mo_lengthOf w_Mo_lengthOf ({ frames := 0, cells := 0, slots := 0, locals := 0 } : Room) (va_Pc [.int p1] (fun U => U.heap.size = sz ∧ va_P (dC, dI) vwCl [] U.heap ∧ va_K (dC, dI) vwCl [(cB, .byte), (cI, .int), (cJ, .long)] U ∧ va_D (fun _ => True) [] ∧ NW U)) (va_Qi (fun r (_ : Unit) => r = o) (fun _ t => va_P (dC, dI) vwCl [] t.heap ∧ va_K (dC, dI) vwCl [(cB, .byte), (cI, .int), (cJ, .long)] t ∧ va_D (va_A [] sz) []) (va_A [] sz)) 0 0 (va_A [] sz) := by
  refine Met.ofW (cc := b_Mo_lengthOf) (maxL := 1) (ret := (some .int)) (by decide) rfl ?_
  intro p e s m args below meth c s₁ B hml hv
  obtain ⟨rfl, hsz, hP, hK, hD0, hN⟩ := hv
  have hx := B.exec
  have hb := B.bytes
  have hr := B.returns
  have hts := atoms_spec (ws := w_Mo_lengthOf) B.pre
  have ht : ∀ w ∈ TB, w.before ([.int p1]).toArray s = true := fun w h => hts w (List.mem_cons_of_mem _ h)
  have hown : s.vm.findClass R_Mo = some m.cls := findClass_of_methodNamed B.named
  have hlocks := B.notSynchronized
  subst hsz
  have hD := hD0.self (sz := s.heap.size)
  generalize hAe : va_A [] s.heap.size = A at hD ⊢
  have hA : ∀ q : Nat, s.heap.size ≤ q → A q := fun q h => by rw [← hAe]; exact Or.inr h
  have hS : va_S A s.heap s.heap [] := va_S.rf
  have hP : va_P (dC, dI) vwCl [] s.heap := hP
  skip
  have hl := lv_entry ([.int p1]) (n := 1) (Nat.le_of_ble_eq_true rfl)
  rw [lg_entry_eq]
  generalize (lg_sl ([.int p1]) ++ List.replicate (1 - (lg_sl ([.int p1])).length) Slot.unset).toArray = ls at hl ⊢
  have hl : lv_has ls 1 [(0, .int p1)] := hl
  refine lv_iload_n hx hb d_Mo_lengthOf_0 rfl (lv_at hl 0 rfl) ?_
  refine lv_bipush (v := (28 : Int32)) hx hb d_Mo_lengthOf_1 (by decide) ?_
  refine lv_tern (J := 37) (cd := p1 = (28 : Int32)) (a := (258 : Int32)) (b := (if (8 : Int32) ≤ p1 then ((3 : Int32) + (((4 : Int32) + (p1 - p1 / (4 : Int32) * (4 : Int32))) <<< (((p1 - (4 : Int32)) / (4 : Int32)) &&& 31))) else ((3 : Int32) + p1))) (rest := []) (fun k5 k6 => ?_) ?_
  · refine lv_icmp_ne (tgt := 12) hx hb d_Mo_lengthOf_3 (by decide) (fun c1 => ?_) (fun c1 => ?_)
    · refine lv_iload_n hx hb d_Mo_lengthOf_12 rfl (lv_at hl 0 rfl) ?_
      refine lv_bipush (v := (8 : Int32)) hx hb d_Mo_lengthOf_13 (by decide) ?_
      refine lv_tern (J := 37) (cd := (8 : Int32) ≤ p1) (a := ((3 : Int32) + (((4 : Int32) + (p1 - p1 / (4 : Int32) * (4 : Int32))) <<< (((p1 - (4 : Int32)) / (4 : Int32)) &&& 31)))) (b := ((3 : Int32) + p1)) (rest := []) (fun k3 k4 => ?_) ?_
      · refine lv_icmp_ge (tgt := 24) hx hb d_Mo_lengthOf_15 (by decide) (fun c2 => ?_) (fun c2 => ?_)
        · refine lv_iconst (v := (3 : Int32)) hx hb d_Mo_lengthOf_24 (by decide) ?_
          refine lv_iconst (v := (4 : Int32)) hx hb d_Mo_lengthOf_25 (by decide) ?_
          refine lv_iload_n hx hb d_Mo_lengthOf_26 rfl (lv_at hl 0 rfl) ?_
          refine lv_iconst (v := (4 : Int32)) hx hb d_Mo_lengthOf_27 (by decide) ?_
          refine lv_irem hx hb d_Mo_lengthOf_28 (by decide) ?_
          refine lv_iadd hx hb d_Mo_lengthOf_29 ?_
          refine lv_iload_n hx hb d_Mo_lengthOf_30 rfl (lv_at hl 0 rfl) ?_
          refine lv_iconst (v := (4 : Int32)) hx hb d_Mo_lengthOf_31 (by decide) ?_
          refine lv_isub hx hb d_Mo_lengthOf_32 ?_
          refine lv_iconst (v := (4 : Int32)) hx hb d_Mo_lengthOf_33 (by decide) ?_
          refine lv_idiv hx hb d_Mo_lengthOf_34 (by decide) ?_
          refine lv_ishl hx hb d_Mo_lengthOf_35 ?_
          refine lv_iadd hx hb d_Mo_lengthOf_36 ?_
          exact k3 c2
        · refine lv_iconst (v := (3 : Int32)) hx hb d_Mo_lengthOf_18 (by decide) ?_
          refine lv_iload_n hx hb d_Mo_lengthOf_19 rfl (lv_at hl 0 rfl) ?_
          refine lv_iadd hx hb d_Mo_lengthOf_20 ?_
          refine lv_goto (tgt := 37) hx hb d_Mo_lengthOf_21 (by decide) ?_
          exact k4 c2
      exact k6 c1
    · refine lv_sipush (v := (258 : Int32)) hx hb d_Mo_lengthOf_6 (by decide) ?_
      refine lv_goto (tgt := 37) hx hb d_Mo_lengthOf_9 (by decide) ?_
      exact k5 c1
  obtain rfl := Option.some.inj h
  exact W.iret (v := if p1 = (28 : Int32) then (258 : Int32) else (if (8 : Int32) ≤ p1 then ((3 : Int32) + (((4 : Int32) + (p1 - p1 / (4 : Int32) * (4 : Int32))) <<< (((p1 - (4 : Int32)) / (4 : Int32)) &&& 31))) else ((3 : Int32) + p1))) hx hb hr (fun t ht hW => ⟨⟨_, (), rfl, rfl, by rw [ht]; exact hP, va_K.moved hW.alike hK, hD⟩, hS.F ht⟩) hS.2.2 d_Mo_lengthOf_37
/-! PackedBytesModel.moreOfDistance(I)I -/
def fMo_moreOfDistance (N : Nat) (p1 : Int32) : Option (Int32) :=
    some (if (4 : Int32) ≤ p1 then ((p1 / (2 : Int32)) - (1 : Int32)) else (0 : Int32))
set_option maxHeartbeats 4000000 in
set_option maxRecDepth 100000 in
theorem cMo_moreOfDistance (l : Launch) (dC : Nat → ClassId) (dI : Nat → Nat → Nat) (cB cI cJ : ClassId) (sz : Nat) (N : Nat) (p1 : Int32) (o : Int32) (h : fMo_moreOfDistance N p1 = some o) : Met l y_Mo_moreOfDistance w_Mo_moreOfDistance ({ frames := 0, cells := 0, slots := 0, locals := 0 } : Room) (va_Pc [.int p1] (fun U => U.heap.size = sz ∧ va_P (dC, dI) vwCl [] U.heap ∧ va_K (dC, dI) vwCl [(cB, .byte), (cI, .int), (cJ, .long)] U ∧ va_D (fun _ => True) [] ∧ NW U)) (va_Qi (fun r (_ : Unit) => r = o) (fun _ t => va_P (dC, dI) vwCl [] t.heap ∧ va_K (dC, dI) vwCl [(cB, .byte), (cI, .int), (cJ, .long)] t ∧ va_D (va_A [] sz) []) (va_A [] sz)) 0 0 (va_A [] sz) := by
  refine Met.ofW (cc := b_Mo_moreOfDistance) (maxL := 1) (ret := (some .int)) (by decide) rfl ?_
  intro p e s m args below meth c s₁ B hml hv
  obtain ⟨rfl, hsz, hP, hK, hD0, hN⟩ := hv
  have hx := B.exec
  have hb := B.bytes
  have hr := B.returns
  have hts := atoms_spec (ws := w_Mo_moreOfDistance) B.pre
  have ht : ∀ w ∈ TB, w.before ([.int p1]).toArray s = true := fun w h => hts w (List.mem_cons_of_mem _ h)
  have hown : s.vm.findClass R_Mo = some m.cls := findClass_of_methodNamed B.named
  have hlocks := B.notSynchronized
  subst hsz
  have hD := hD0.self (sz := s.heap.size)
  generalize hAe : va_A [] s.heap.size = A at hD ⊢
  have hA : ∀ q : Nat, s.heap.size ≤ q → A q := fun q h => by rw [← hAe]; exact Or.inr h
  have hS : va_S A s.heap s.heap [] := va_S.rf
  have hP : va_P (dC, dI) vwCl [] s.heap := hP
  skip
  have hl := lv_entry ([.int p1]) (n := 1) (Nat.le_of_ble_eq_true rfl)
  rw [lg_entry_eq]
  generalize (lg_sl ([.int p1]) ++ List.replicate (1 - (lg_sl ([.int p1])).length) Slot.unset).toArray = ls at hl ⊢
  have hl : lv_has ls 1 [(0, .int p1)] := hl
  refine lv_iload_n hx hb d_Mo_moreOfDistance_0 rfl (lv_at hl 0 rfl) ?_
  refine lv_iconst (v := (4 : Int32)) hx hb d_Mo_moreOfDistance_1 (by decide) ?_
  refine lv_tern (J := 14) (cd := (4 : Int32) ≤ p1) (a := ((p1 / (2 : Int32)) - (1 : Int32))) (b := (0 : Int32)) (rest := []) (fun k2 k3 => ?_) ?_
  · refine lv_icmp_ge (tgt := 9) hx hb d_Mo_moreOfDistance_2 (by decide) (fun c1 => ?_) (fun c1 => ?_)
    · refine lv_iload_n hx hb d_Mo_moreOfDistance_9 rfl (lv_at hl 0 rfl) ?_
      refine lv_iconst (v := (2 : Int32)) hx hb d_Mo_moreOfDistance_10 (by decide) ?_
      refine lv_idiv hx hb d_Mo_moreOfDistance_11 (by decide) ?_
      refine lv_iconst (v := (1 : Int32)) hx hb d_Mo_moreOfDistance_12 (by decide) ?_
      refine lv_isub hx hb d_Mo_moreOfDistance_13 ?_
      exact k2 c1
    · refine lv_iconst (v := (0 : Int32)) hx hb d_Mo_moreOfDistance_5 (by decide) ?_
      refine lv_goto (tgt := 14) hx hb d_Mo_moreOfDistance_6 (by decide) ?_
      exact k3 c1
  obtain rfl := Option.some.inj h
  exact W.iret (v := if (4 : Int32) ≤ p1 then ((p1 / (2 : Int32)) - (1 : Int32)) else (0 : Int32)) hx hb hr (fun t ht hW => ⟨⟨_, (), rfl, rfl, by rw [ht]; exact hP, va_K.moved hW.alike hK, hD⟩, hS.F ht⟩) hS.2.2 d_Mo_moreOfDistance_14
/-! PackedBytesModel.distanceOf(I)I -/
def fMo_distanceOf (N : Nat) (p1 : Int32) : Option (Int32) :=
    some (if (4 : Int32) ≤ p1 then ((1 : Int32) + (((2 : Int32) + (p1 - p1 / (2 : Int32) * (2 : Int32))) <<< (((p1 / (2 : Int32)) - (1 : Int32)) &&& 31))) else ((1 : Int32) + p1))
set_option maxHeartbeats 4000000 in
set_option maxRecDepth 100000 in
theorem cMo_distanceOf (l : Launch) (dC : Nat → ClassId) (dI : Nat → Nat → Nat) (cB cI cJ : ClassId) (sz : Nat) (N : Nat) (p1 : Int32) (o : Int32) (h : fMo_distanceOf N p1 = some o) : Met l y_Mo_distanceOf w_Mo_distanceOf ({ frames := 0, cells := 0, slots := 0, locals := 0 } : Room) (va_Pc [.int p1] (fun U => U.heap.size = sz ∧ va_P (dC, dI) vwCl [] U.heap ∧ va_K (dC, dI) vwCl [(cB, .byte), (cI, .int), (cJ, .long)] U ∧ va_D (fun _ => True) [] ∧ NW U)) (va_Qi (fun r (_ : Unit) => r = o) (fun _ t => va_P (dC, dI) vwCl [] t.heap ∧ va_K (dC, dI) vwCl [(cB, .byte), (cI, .int), (cJ, .long)] t ∧ va_D (va_A [] sz) []) (va_A [] sz)) 0 0 (va_A [] sz) := by
  refine Met.ofW (cc := b_Mo_distanceOf) (maxL := 1) (ret := (some .int)) (by decide) rfl ?_
  intro p e s m args below meth c s₁ B hml hv
  obtain ⟨rfl, hsz, hP, hK, hD0, hN⟩ := hv
  have hx := B.exec
  have hb := B.bytes
  have hr := B.returns
  have hts := atoms_spec (ws := w_Mo_distanceOf) B.pre
  have ht : ∀ w ∈ TB, w.before ([.int p1]).toArray s = true := fun w h => hts w (List.mem_cons_of_mem _ h)
  have hown : s.vm.findClass R_Mo = some m.cls := findClass_of_methodNamed B.named
  have hlocks := B.notSynchronized
  subst hsz
  have hD := hD0.self (sz := s.heap.size)
  generalize hAe : va_A [] s.heap.size = A at hD ⊢
  have hA : ∀ q : Nat, s.heap.size ≤ q → A q := fun q h => by rw [← hAe]; exact Or.inr h
  have hS : va_S A s.heap s.heap [] := va_S.rf
  have hP : va_P (dC, dI) vwCl [] s.heap := hP
  skip
  have hl := lv_entry ([.int p1]) (n := 1) (Nat.le_of_ble_eq_true rfl)
  rw [lg_entry_eq]
  generalize (lg_sl ([.int p1]) ++ List.replicate (1 - (lg_sl ([.int p1])).length) Slot.unset).toArray = ls at hl ⊢
  have hl : lv_has ls 1 [(0, .int p1)] := hl
  refine lv_iload_n hx hb d_Mo_distanceOf_0 rfl (lv_at hl 0 rfl) ?_
  refine lv_iconst (v := (4 : Int32)) hx hb d_Mo_distanceOf_1 (by decide) ?_
  refine lv_tern (J := 24) (cd := (4 : Int32) ≤ p1) (a := ((1 : Int32) + (((2 : Int32) + (p1 - p1 / (2 : Int32) * (2 : Int32))) <<< (((p1 / (2 : Int32)) - (1 : Int32)) &&& 31)))) (b := ((1 : Int32) + p1)) (rest := []) (fun k2 k3 => ?_) ?_
  · refine lv_icmp_ge (tgt := 11) hx hb d_Mo_distanceOf_2 (by decide) (fun c1 => ?_) (fun c1 => ?_)
    · refine lv_iconst (v := (1 : Int32)) hx hb d_Mo_distanceOf_11 (by decide) ?_
      refine lv_iconst (v := (2 : Int32)) hx hb d_Mo_distanceOf_12 (by decide) ?_
      refine lv_iload_n hx hb d_Mo_distanceOf_13 rfl (lv_at hl 0 rfl) ?_
      refine lv_iconst (v := (2 : Int32)) hx hb d_Mo_distanceOf_14 (by decide) ?_
      refine lv_irem hx hb d_Mo_distanceOf_15 (by decide) ?_
      refine lv_iadd hx hb d_Mo_distanceOf_16 ?_
      refine lv_iload_n hx hb d_Mo_distanceOf_17 rfl (lv_at hl 0 rfl) ?_
      refine lv_iconst (v := (2 : Int32)) hx hb d_Mo_distanceOf_18 (by decide) ?_
      refine lv_idiv hx hb d_Mo_distanceOf_19 (by decide) ?_
      refine lv_iconst (v := (1 : Int32)) hx hb d_Mo_distanceOf_20 (by decide) ?_
      refine lv_isub hx hb d_Mo_distanceOf_21 ?_
      refine lv_ishl hx hb d_Mo_distanceOf_22 ?_
      refine lv_iadd hx hb d_Mo_distanceOf_23 ?_
      exact k2 c1
    · refine lv_iconst (v := (1 : Int32)) hx hb d_Mo_distanceOf_5 (by decide) ?_
      refine lv_iload_n hx hb d_Mo_distanceOf_6 rfl (lv_at hl 0 rfl) ?_
      refine lv_iadd hx hb d_Mo_distanceOf_7 ?_
      refine lv_goto (tgt := 24) hx hb d_Mo_distanceOf_8 (by decide) ?_
      exact k3 c1
  obtain rfl := Option.some.inj h
  exact W.iret (v := if (4 : Int32) ≤ p1 then ((1 : Int32) + (((2 : Int32) + (p1 - p1 / (2 : Int32) * (2 : Int32))) <<< (((p1 / (2 : Int32)) - (1 : Int32)) &&& 31))) else ((1 : Int32) + p1)) hx hb hr (fun t ht hW => ⟨⟨_, (), rfl, rfl, by rw [ht]; exact hP, va_K.moved hW.alike hK, hD⟩, hS.F ht⟩) hS.2.2 d_Mo_distanceOf_24
/-! PackedBytesModel.symbolOf(I)I -/
def fMo_symbolOf_3 (N : Nat) (x0 : Int32) : Nat → (Int32) → Option (Int32)
  | 0, _ => none
  | k + 1, x1 =>
    (fMo_lengthOf N x1).bind (fun y1 =>
      if x0 < y1 then
        fMo_symbolOf_3 N x0 k (x1 + (-1 : Int32))
      else
        if x1 = (28 : Int32) then
          if (258 : Int32) ≤ x0 then
            some x1
          else
            fMo_symbolOf_3 N x0 k (x1 + (-1 : Int32))
        else
          some x1)
def fMo_symbolOf (N : Nat) (p1 : Int32) : Option (Int32) :=
    (fMo_symbolOf_3 N p1 N (28 : Int32)).bind (fun y6 =>
      some y6)
set_option maxHeartbeats 4000000 in
set_option maxRecDepth 100000 in
theorem wMo_symbolOf_3 {p : Program} {l : Launch} {e : Env} {s : State} {m : MethodId} {args : Array Value} {below : List Frame} {meth : Method} {c : Code} {Q : State → Prop} {A : Nat → Prop} {dC : Nat → ClassId} {dI : Nat → Nat → Nat} (cB cI cJ : ClassId) (N : Nat) (x0 : Int32) (C : CX p s m args c b_Mo_symbolOf 2 R_Mo A (dC, dI) [(cB, .byte), (cI, .int), (cJ, .long)]) :
    ∀ (n : Nat) (x1 : Int32) (H : Heap) (locs : List Loc) (ls : Array Slot) (o : Int32), va_P (dC, dI) vwCl [] H → va_D A [] → va_S A s.heap H locs → lv_has ls 2 [(0, .int x0), (1, .int x1)] → fMo_symbolOf_3 N x0 n x1 = some o → (∀ (H : Heap) (locs : List Loc) (ls : Array Slot), va_P (dC, dI) vwCl [] H → va_D A [] → va_S A s.heap H locs → lv_has ls 2 [(1, .int o)] → W p l e ({ frames := 1, cells := 0, slots := 0, locals := 20 } : Room) s m args below meth c H locs 0 0 Q (F0 m 30 ls [])) → W p l e ({ frames := 1, cells := 0, slots := 0, locals := 20 } : Room) s m args below meth c H locs 0 0 Q (F0 m 3 ls []) := by
  obtain ⟨hx, hb, hml, hown, ht, hA, hK, hN⟩ := id C
  intro n
  induction n with
  | zero => intro x1 H locs ls o _ _ _ _ h; exact nomatch h
  | succ k ih =>
    intro x1 H locs ls o hP hD hS hl h kx
    refine lv_iload_n hx hb d_Mo_symbolOf_3 rfl (lv_at hl 1 rfl) ?_
    obtain ⟨y1, hy1, h⟩ := bd h
    have hPc := hP.sub (ws' := []) [] rfl
    have hDc := hD.sub (ws' := []) [] (by decide) rfl
    have hFc := va_free (wc := []) hD hS hA [] rfl
    refine va_calli (va_runS (As := [.int x1]) (rest := []) ⟨hx, hb, hml, hown, ht⟩ (cMo_lengthOf l dC dI cB cI cJ _ N x1 y1 hy1) (⟨callB_of 1 ht (gTB (k_1148)) rfl rfl rfl (ht _ k_77) (ht _ k_1146) (by decide +kernel) ⟨Nat.le_of_ble_eq_true rfl, Nat.le_of_ble_eq_true rfl⟩, ht _ k_1147⟩) ⟨fun a U g mk q => by obtain ⟨q0, q1, qP, qK, qD, qN⟩ := q; exact ⟨q0, q1, qP, va_K.moved (u := U) (U := U.calling g mk a) (Vm.Alike.refl U.vm) qK, qD, NW_same (u := U) rfl qN⟩, fun U hU hW => ⟨rfl, by rw [hU], by rw [hU]; exact hPc, va_K.moved hW.alike hK, hDc.weaken (fun _ _ _ _ => trivial), NW_warm hW hN⟩⟩ rfl rfl hl.1 rfl (lv_room (Nat.le_of_ble_eq_true rfl)) d_Mo_symbolOf_4 ⟨Nat.le_of_ble_eq_true rfl, Nat.le_of_ble_eq_true rfl⟩) hS (fun q _ h => hFc q h) hFc (fun ry1 u t H1 locs htH hvm hw hB hz1 hk1 hS => ?_)
    obtain ⟨hP1, hK1, hD1⟩ := hB
    rw [htH] at hP1
    obtain ⟨hP, hD⟩ := va_join (wr := []) (w1 := []) hP hD [] [] rfl rfl (by decide) (by decide) hk1 hFc hP1 hD1
    generalize H1 = H at hP hS ⊢
    have hP : va_P (dC, dI) vwCl [] H := hP.sub [] rfl
    have hD : va_D A [] := hD.sub [] (by decide) rfl
    replace hw := hw.symm
    subst hw
    refine lv_iload_n hx hb d_Mo_symbolOf_7 rfl (lv_at hl 0 rfl) ?_
    refine lv_icmp_gt (tgt := 24) hx hb d_Mo_symbolOf_8 (by decide) (fun c2 => ?_) (fun c2 => ?_)
    · replace h := ip_p c2 h
      refine lv_iinc (v := x1 + (-1 : Int32)) (lv' := [(1, .int (x1 + (-1 : Int32))), (0, .int x0)]) hx hb d_Mo_symbolOf_24 hl (k := 1) rfl rfl (by decide) rfl (fun ls hl => ?_)
      refine lv_goto (tgt := 3) hx hb d_Mo_symbolOf_27 (by decide) ?_
      exact ih (x1 + (-1 : Int32)) _ _ _ _ hP hD hS (lv_sub hl [1, 0] rfl) h kx
    · replace h := ip_n c2 h
      refine lv_iload_n hx hb d_Mo_symbolOf_11 rfl (lv_at hl 1 rfl) ?_
      refine lv_bipush (v := (28 : Int32)) hx hb d_Mo_symbolOf_12 (by decide) ?_
      refine lv_icmp_ne (tgt := 30) hx hb d_Mo_symbolOf_14 (by decide) (fun c3 => ?_) (fun c3 => ?_)
      · replace h := ip_n c3 h
        obtain rfl := Option.some.inj h
        exact kx _ _ _ hP hD hS (lv_sub hl [1] rfl)
      · replace h := ip_p c3 h
        refine lv_iload_n hx hb d_Mo_symbolOf_17 rfl (lv_at hl 0 rfl) ?_
        refine lv_sipush (v := (258 : Int32)) hx hb d_Mo_symbolOf_18 (by decide) ?_
        refine lv_icmp_ge (tgt := 30) hx hb d_Mo_symbolOf_21 (by decide) (fun c5 => ?_) (fun c5 => ?_)
        · replace h := ip_p c5 h
          obtain rfl := Option.some.inj h
          exact kx _ _ _ hP hD hS (lv_sub hl [1] rfl)
        · replace h := ip_n c5 h
          refine lv_iinc (v := x1 + (-1 : Int32)) (lv' := [(1, .int (x1 + (-1 : Int32))), (0, .int x0)]) hx hb d_Mo_symbolOf_24 hl (k := 1) rfl rfl (by decide) rfl (fun ls hl => ?_)
          refine lv_goto (tgt := 3) hx hb d_Mo_symbolOf_27 (by decide) ?_
          exact ih (x1 + (-1 : Int32)) _ _ _ _ hP hD hS (lv_sub hl [1, 0] rfl) h kx
set_option maxHeartbeats 4000000 in
set_option maxRecDepth 100000 in
theorem cMo_symbolOf (l : Launch) (dC : Nat → ClassId) (dI : Nat → Nat → Nat) (cB cI cJ : ClassId) (sz : Nat) (N : Nat) (p1 : Int32) (o : Int32) (h : fMo_symbolOf N p1 = some o) : Met l y_Mo_symbolOf w_Mo_symbolOf ({ frames := 1, cells := 0, slots := 0, locals := 20 } : Room) (va_Pc [.int p1] (fun U => U.heap.size = sz ∧ va_P (dC, dI) vwCl [] U.heap ∧ va_K (dC, dI) vwCl [(cB, .byte), (cI, .int), (cJ, .long)] U ∧ va_D (fun _ => True) [] ∧ NW U)) (va_Qi (fun r (_ : Unit) => r = o) (fun _ t => va_P (dC, dI) vwCl [] t.heap ∧ va_K (dC, dI) vwCl [(cB, .byte), (cI, .int), (cJ, .long)] t ∧ va_D (va_A [] sz) []) (va_A [] sz)) 0 0 (va_A [] sz) := by
  refine Met.ofW (cc := b_Mo_symbolOf) (maxL := 2) (ret := (some .int)) (by decide) rfl ?_
  intro p e s m args below meth c s₁ B hml hv
  obtain ⟨rfl, hsz, hP, hK, hD0, hN⟩ := hv
  have hx := B.exec
  have hb := B.bytes
  have hr := B.returns
  have hts := atoms_spec (ws := w_Mo_symbolOf) B.pre
  have ht : ∀ w ∈ TB, w.before ([.int p1]).toArray s = true := fun w h => hts w (List.mem_cons_of_mem _ h)
  have hown : s.vm.findClass R_Mo = some m.cls := findClass_of_methodNamed B.named
  have hlocks := B.notSynchronized
  subst hsz
  have hD := hD0.self (sz := s.heap.size)
  generalize hAe : va_A [] s.heap.size = A at hD ⊢
  have hA : ∀ q : Nat, s.heap.size ≤ q → A q := fun q h => by rw [← hAe]; exact Or.inr h
  have hS : va_S A s.heap s.heap [] := va_S.rf
  have hP : va_P (dC, dI) vwCl [] s.heap := hP
  have C : CX p s m ([.int p1]).toArray c b_Mo_symbolOf 2 R_Mo A (dC, dI) [(cB, .byte), (cI, .int), (cJ, .long)] := ⟨hx, hb, hml, hown, ht, hA, hK, hN⟩
  have hl := lv_entry ([.int p1]) (n := 2) (Nat.le_of_ble_eq_true rfl)
  rw [lg_entry_eq]
  generalize (lg_sl ([.int p1]) ++ List.replicate (2 - (lg_sl ([.int p1])).length) Slot.unset).toArray = ls at hl ⊢
  have hl : lv_has ls 2 [(0, .int p1)] := hl
  refine lv_bipush (v := (28 : Int32)) hx hb d_Mo_symbolOf_0 (by decide) ?_
  refine lv_istore_n (lv' := [(1, .int (28 : Int32)), (0, .int p1)]) hx hb d_Mo_symbolOf_2 rfl hl (by decide) rfl (fun ls hl => ?_)
  obtain ⟨y6, hy6, h⟩ := bd h
  refine wMo_symbolOf_3 cB cI cJ N p1 C N (28 : Int32) _ _ _ _ hP hD hS (lv_sub hl [1, 0] rfl) hy6 (fun H locs ls hP hD hS hl => ?_)
  refine lv_iload_n hx hb d_Mo_symbolOf_30 rfl (lv_at hl 0 rfl) ?_
  obtain rfl := Option.some.inj h
  exact W.iret (v := y6) hx hb hr (fun t ht hW => ⟨⟨_, (), rfl, rfl, by rw [ht]; exact hP, va_K.moved hW.alike hK, hD⟩, hS.F ht⟩) hS.2.2 d_Mo_symbolOf_31
/-! PackedBytesModel.symbolOfDistance(I)I -/
def fMo_symbolOfDistance_3 (N : Nat) (x0 : Int32) : Nat → (Int32) → Option (Int32)
  | 0, _ => none
  | k + 1, x1 =>
    (fMo_distanceOf N x1).bind (fun y1 =>
      if y1 ≤ x0 then
        some x1
      else
        fMo_symbolOfDistance_3 N x0 k (x1 + (-1 : Int32)))
def fMo_symbolOfDistance (N : Nat) (p1 : Int32) : Option (Int32) :=
    (fMo_symbolOfDistance_3 N p1 N (29 : Int32)).bind (fun y3 =>
      some y3)
set_option maxHeartbeats 4000000 in
set_option maxRecDepth 100000 in
theorem wMo_symbolOfDistance_3 {p : Program} {l : Launch} {e : Env} {s : State} {m : MethodId} {args : Array Value} {below : List Frame} {meth : Method} {c : Code} {Q : State → Prop} {A : Nat → Prop} {dC : Nat → ClassId} {dI : Nat → Nat → Nat} (cB cI cJ : ClassId) (N : Nat) (x0 : Int32) (C : CX p s m args c b_Mo_symbolOfDistance 2 R_Mo A (dC, dI) [(cB, .byte), (cI, .int), (cJ, .long)]) :
    ∀ (n : Nat) (x1 : Int32) (H : Heap) (locs : List Loc) (ls : Array Slot) (o : Int32), va_P (dC, dI) vwCl [] H → va_D A [] → va_S A s.heap H locs → lv_has ls 2 [(0, .int x0), (1, .int x1)] → fMo_symbolOfDistance_3 N x0 n x1 = some o → (∀ (H : Heap) (locs : List Loc) (ls : Array Slot), va_P (dC, dI) vwCl [] H → va_D A [] → va_S A s.heap H locs → lv_has ls 2 [(1, .int o)] → W p l e ({ frames := 1, cells := 0, slots := 0, locals := 20 } : Room) s m args below meth c H locs 0 0 Q (F0 m 17 ls [])) → W p l e ({ frames := 1, cells := 0, slots := 0, locals := 20 } : Room) s m args below meth c H locs 0 0 Q (F0 m 3 ls []) := by
  obtain ⟨hx, hb, hml, hown, ht, hA, hK, hN⟩ := id C
  intro n
  induction n with
  | zero => intro x1 H locs ls o _ _ _ _ h; exact nomatch h
  | succ k ih =>
    intro x1 H locs ls o hP hD hS hl h kx
    refine lv_iload_n hx hb d_Mo_symbolOfDistance_3 rfl (lv_at hl 1 rfl) ?_
    obtain ⟨y1, hy1, h⟩ := bd h
    have hPc := hP.sub (ws' := []) [] rfl
    have hDc := hD.sub (ws' := []) [] (by decide) rfl
    have hFc := va_free (wc := []) hD hS hA [] rfl
    refine va_calli (va_runS (As := [.int x1]) (rest := []) ⟨hx, hb, hml, hown, ht⟩ (cMo_distanceOf l dC dI cB cI cJ _ N x1 y1 hy1) (⟨callB_of 1 ht (gTB (k_1158)) rfl rfl rfl (ht _ k_77) (ht _ k_1156) (by decide +kernel) ⟨Nat.le_of_ble_eq_true rfl, Nat.le_of_ble_eq_true rfl⟩, ht _ k_1157⟩) ⟨fun a U g mk q => by obtain ⟨q0, q1, qP, qK, qD, qN⟩ := q; exact ⟨q0, q1, qP, va_K.moved (u := U) (U := U.calling g mk a) (Vm.Alike.refl U.vm) qK, qD, NW_same (u := U) rfl qN⟩, fun U hU hW => ⟨rfl, by rw [hU], by rw [hU]; exact hPc, va_K.moved hW.alike hK, hDc.weaken (fun _ _ _ _ => trivial), NW_warm hW hN⟩⟩ rfl rfl hl.1 rfl (lv_room (Nat.le_of_ble_eq_true rfl)) d_Mo_symbolOfDistance_4 ⟨Nat.le_of_ble_eq_true rfl, Nat.le_of_ble_eq_true rfl⟩) hS (fun q _ h => hFc q h) hFc (fun ry1 u t H1 locs htH hvm hw hB hz1 hk1 hS => ?_)
    obtain ⟨hP1, hK1, hD1⟩ := hB
    rw [htH] at hP1
    obtain ⟨hP, hD⟩ := va_join (wr := []) (w1 := []) hP hD [] [] rfl rfl (by decide) (by decide) hk1 hFc hP1 hD1
    generalize H1 = H at hP hS ⊢
    have hP : va_P (dC, dI) vwCl [] H := hP.sub [] rfl
    have hD : va_D A [] := hD.sub [] (by decide) rfl
    replace hw := hw.symm
    subst hw
    refine lv_iload_n hx hb d_Mo_symbolOfDistance_7 rfl (lv_at hl 0 rfl) ?_
    refine lv_icmp_le (tgt := 17) hx hb d_Mo_symbolOfDistance_8 (by decide) (fun c2 => ?_) (fun c2 => ?_)
    · replace h := ip_p c2 h
      obtain rfl := Option.some.inj h
      exact kx _ _ _ hP hD hS (lv_sub hl [1] rfl)
    · replace h := ip_n c2 h
      refine lv_iinc (v := x1 + (-1 : Int32)) (lv' := [(1, .int (x1 + (-1 : Int32))), (0, .int x0)]) hx hb d_Mo_symbolOfDistance_11 hl (k := 1) rfl rfl (by decide) rfl (fun ls hl => ?_)
      refine lv_goto (tgt := 3) hx hb d_Mo_symbolOfDistance_14 (by decide) ?_
      exact ih (x1 + (-1 : Int32)) _ _ _ _ hP hD hS (lv_sub hl [1, 0] rfl) h kx
set_option maxHeartbeats 4000000 in
set_option maxRecDepth 100000 in
theorem cMo_symbolOfDistance (l : Launch) (dC : Nat → ClassId) (dI : Nat → Nat → Nat) (cB cI cJ : ClassId) (sz : Nat) (N : Nat) (p1 : Int32) (o : Int32) (h : fMo_symbolOfDistance N p1 = some o) : Met l y_Mo_symbolOfDistance w_Mo_symbolOfDistance ({ frames := 1, cells := 0, slots := 0, locals := 20 } : Room) (va_Pc [.int p1] (fun U => U.heap.size = sz ∧ va_P (dC, dI) vwCl [] U.heap ∧ va_K (dC, dI) vwCl [(cB, .byte), (cI, .int), (cJ, .long)] U ∧ va_D (fun _ => True) [] ∧ NW U)) (va_Qi (fun r (_ : Unit) => r = o) (fun _ t => va_P (dC, dI) vwCl [] t.heap ∧ va_K (dC, dI) vwCl [(cB, .byte), (cI, .int), (cJ, .long)] t ∧ va_D (va_A [] sz) []) (va_A [] sz)) 0 0 (va_A [] sz) := by
  refine Met.ofW (cc := b_Mo_symbolOfDistance) (maxL := 2) (ret := (some .int)) (by decide) rfl ?_
  intro p e s m args below meth c s₁ B hml hv
  obtain ⟨rfl, hsz, hP, hK, hD0, hN⟩ := hv
  have hx := B.exec
  have hb := B.bytes
  have hr := B.returns
  have hts := atoms_spec (ws := w_Mo_symbolOfDistance) B.pre
  have ht : ∀ w ∈ TB, w.before ([.int p1]).toArray s = true := fun w h => hts w (List.mem_cons_of_mem _ h)
  have hown : s.vm.findClass R_Mo = some m.cls := findClass_of_methodNamed B.named
  have hlocks := B.notSynchronized
  subst hsz
  have hD := hD0.self (sz := s.heap.size)
  generalize hAe : va_A [] s.heap.size = A at hD ⊢
  have hA : ∀ q : Nat, s.heap.size ≤ q → A q := fun q h => by rw [← hAe]; exact Or.inr h
  have hS : va_S A s.heap s.heap [] := va_S.rf
  have hP : va_P (dC, dI) vwCl [] s.heap := hP
  have C : CX p s m ([.int p1]).toArray c b_Mo_symbolOfDistance 2 R_Mo A (dC, dI) [(cB, .byte), (cI, .int), (cJ, .long)] := ⟨hx, hb, hml, hown, ht, hA, hK, hN⟩
  have hl := lv_entry ([.int p1]) (n := 2) (Nat.le_of_ble_eq_true rfl)
  rw [lg_entry_eq]
  generalize (lg_sl ([.int p1]) ++ List.replicate (2 - (lg_sl ([.int p1])).length) Slot.unset).toArray = ls at hl ⊢
  have hl : lv_has ls 2 [(0, .int p1)] := hl
  refine lv_bipush (v := (29 : Int32)) hx hb d_Mo_symbolOfDistance_0 (by decide) ?_
  refine lv_istore_n (lv' := [(1, .int (29 : Int32)), (0, .int p1)]) hx hb d_Mo_symbolOfDistance_2 rfl hl (by decide) rfl (fun ls hl => ?_)
  obtain ⟨y3, hy3, h⟩ := bd h
  refine wMo_symbolOfDistance_3 cB cI cJ N p1 C N (29 : Int32) _ _ _ _ hP hD hS (lv_sub hl [1, 0] rfl) hy3 (fun H locs ls hP hD hS hl => ?_)
  refine lv_iload_n hx hb d_Mo_symbolOfDistance_17 rfl (lv_at hl 0 rfl) ?_
  obtain rfl := Option.some.inj h
  exact W.iret (v := y3) hx hb hr (fun t ht hW => ⟨⟨_, (), rfl, rfl, by rw [ht]; exact hP, va_K.moved hW.alike hK, hD⟩, hS.F ht⟩) hS.2.2 d_Mo_symbolOfDistance_18
/-! PackedBytesModel.told(I)I -/
def fMo_told (N : Nat) (p1 : Int32) (v_t_kind : Int32) (v_t_bytes : Int32) (v_t_matches : Int32) (v_t_storedBits : Int32) (v_t_fixedBits : Int32) (v_t_ownBits : Int32) : Option (Int32 × Int32) :=
    if (if p1 < 0 then (1 : Int32) else (if p1 ≤ (5 : Int32) then (0 : Int32) else (1 : Int32))) ≤ 0 then
      some (if p1 = 0 then v_t_kind else (if p1 = (1 : Int32) then v_t_bytes else (if p1 = (2 : Int32) then v_t_matches else (if p1 = (3 : Int32) then v_t_storedBits else (if p1 = (4 : Int32) then v_t_fixedBits else v_t_ownBits)))), if p1 < 0 then (1 : Int32) else (if p1 ≤ (5 : Int32) then (0 : Int32) else (1 : Int32)))
    else
      some ((0 : Int32), if p1 < 0 then (1 : Int32) else (if p1 ≤ (5 : Int32) then (0 : Int32) else (1 : Int32)))
set_option maxHeartbeats 4000000 in
set_option maxRecDepth 100000 in
theorem cMo_told (l : Launch) (dC : Nat → ClassId) (dI : Nat → Nat → Nat) (h_t h_t_row h_t_product h_t_token h_t_heads h_t_before h_t_counts h_t_lengths h_t_fewCounts h_t_fewLengths h_t_weights h_t_parents h_t_symbols h_t_numbers h_t_fewNumbers h_t_firsts h_t_line h_t_run h_t_rest h_t_ownLengths h_t_ownFew h_t_fresh h_t_many h_t_sorted : Nat) (cB cI cJ : ClassId) (sz : Nat) (N : Nat) (p1 : Int32) (v_t_code : Int32) (v_t_length : Int32) (v_t_size : Int32) (v_t_tokens : Int32) (v_t_runs : Int32) (v_t_wide : Int32) (v_t_deep : Int32) (v_t_few : Int32) (v_t_kind : Int32) (v_t_bytes : Int32) (v_t_matches : Int32) (v_t_storedBits : Int32) (v_t_fixedBits : Int32) (v_t_ownBits : Int32) (v_t_out : Int32) (v_t_pos : Int32) (v_t_total : Int32) (v_t_fault : Int32) (v_t_place : Int32) (v_t_made : Int32) (v_t_limit : Int32) (v_t_taken : Int32) (o : Int32 × Int32) (h : fMo_told N p1 v_t_kind v_t_bytes v_t_matches v_t_storedBits v_t_fixedBits v_t_ownBits = some o) : Met l y_Mo_told w_Mo_told ({ frames := 0, cells := 0, slots := 0, locals := 0 } : Room) (va_Pc [.ref h_t, .int p1] (fun U => U.heap.size = sz ∧ va_P (dC, dI) vwCl [(h_t, .inr (11, [.int v_t_code, .int v_t_length, .ref h_t_row, .int v_t_size, .ref h_t_product, .int v_t_tokens, .ref h_t_token, .ref h_t_heads, .ref h_t_before, .ref h_t_counts, .ref h_t_lengths, .ref h_t_fewCounts, .ref h_t_fewLengths, .ref h_t_weights, .ref h_t_parents, .ref h_t_symbols, .ref h_t_numbers, .ref h_t_fewNumbers, .ref h_t_firsts, .ref h_t_line, .int v_t_runs, .ref h_t_run, .ref h_t_rest, .int v_t_wide, .int v_t_deep, .int v_t_few, .ref h_t_ownLengths, .ref h_t_ownFew, .int v_t_kind, .int v_t_bytes, .int v_t_matches, .int v_t_storedBits, .int v_t_fixedBits, .int v_t_ownBits, .int v_t_out, .int v_t_pos, .int v_t_total, .int v_t_fault, .int v_t_place, .int v_t_made, .int v_t_limit, .int v_t_taken, .ref h_t_fresh, .ref h_t_many, .ref h_t_sorted]))] U.heap ∧ va_K (dC, dI) vwCl [(cB, .byte), (cI, .int), (cJ, .long)] U ∧ va_D (fun _ => True) [(h_t, .inr (11, [.int v_t_code, .int v_t_length, .ref h_t_row, .int v_t_size, .ref h_t_product, .int v_t_tokens, .ref h_t_token, .ref h_t_heads, .ref h_t_before, .ref h_t_counts, .ref h_t_lengths, .ref h_t_fewCounts, .ref h_t_fewLengths, .ref h_t_weights, .ref h_t_parents, .ref h_t_symbols, .ref h_t_numbers, .ref h_t_fewNumbers, .ref h_t_firsts, .ref h_t_line, .int v_t_runs, .ref h_t_run, .ref h_t_rest, .int v_t_wide, .int v_t_deep, .int v_t_few, .ref h_t_ownLengths, .ref h_t_ownFew, .int v_t_kind, .int v_t_bytes, .int v_t_matches, .int v_t_storedBits, .int v_t_fixedBits, .int v_t_ownBits, .int v_t_out, .int v_t_pos, .int v_t_total, .int v_t_fault, .int v_t_place, .int v_t_made, .int v_t_limit, .int v_t_taken, .ref h_t_fresh, .ref h_t_many, .ref h_t_sorted]))] ∧ NW U)) (va_Qi (fun r (_ : Unit) => r = o.1) (fun _ t => va_P (dC, dI) vwCl [(h_t, .inr (11, [.int o.2, .int v_t_length, .ref h_t_row, .int v_t_size, .ref h_t_product, .int v_t_tokens, .ref h_t_token, .ref h_t_heads, .ref h_t_before, .ref h_t_counts, .ref h_t_lengths, .ref h_t_fewCounts, .ref h_t_fewLengths, .ref h_t_weights, .ref h_t_parents, .ref h_t_symbols, .ref h_t_numbers, .ref h_t_fewNumbers, .ref h_t_firsts, .ref h_t_line, .int v_t_runs, .ref h_t_run, .ref h_t_rest, .int v_t_wide, .int v_t_deep, .int v_t_few, .ref h_t_ownLengths, .ref h_t_ownFew, .int v_t_kind, .int v_t_bytes, .int v_t_matches, .int v_t_storedBits, .int v_t_fixedBits, .int v_t_ownBits, .int v_t_out, .int v_t_pos, .int v_t_total, .int v_t_fault, .int v_t_place, .int v_t_made, .int v_t_limit, .int v_t_taken, .ref h_t_fresh, .ref h_t_many, .ref h_t_sorted]))] t.heap ∧ va_K (dC, dI) vwCl [(cB, .byte), (cI, .int), (cJ, .long)] t ∧ va_D (va_A [(h_t, .inr (11, [.int v_t_code, .int v_t_length, .ref h_t_row, .int v_t_size, .ref h_t_product, .int v_t_tokens, .ref h_t_token, .ref h_t_heads, .ref h_t_before, .ref h_t_counts, .ref h_t_lengths, .ref h_t_fewCounts, .ref h_t_fewLengths, .ref h_t_weights, .ref h_t_parents, .ref h_t_symbols, .ref h_t_numbers, .ref h_t_fewNumbers, .ref h_t_firsts, .ref h_t_line, .int v_t_runs, .ref h_t_run, .ref h_t_rest, .int v_t_wide, .int v_t_deep, .int v_t_few, .ref h_t_ownLengths, .ref h_t_ownFew, .int v_t_kind, .int v_t_bytes, .int v_t_matches, .int v_t_storedBits, .int v_t_fixedBits, .int v_t_ownBits, .int v_t_out, .int v_t_pos, .int v_t_total, .int v_t_fault, .int v_t_place, .int v_t_made, .int v_t_limit, .int v_t_taken, .ref h_t_fresh, .ref h_t_many, .ref h_t_sorted]))] sz) [(h_t, .inr (11, [.int o.2, .int v_t_length, .ref h_t_row, .int v_t_size, .ref h_t_product, .int v_t_tokens, .ref h_t_token, .ref h_t_heads, .ref h_t_before, .ref h_t_counts, .ref h_t_lengths, .ref h_t_fewCounts, .ref h_t_fewLengths, .ref h_t_weights, .ref h_t_parents, .ref h_t_symbols, .ref h_t_numbers, .ref h_t_fewNumbers, .ref h_t_firsts, .ref h_t_line, .int v_t_runs, .ref h_t_run, .ref h_t_rest, .int v_t_wide, .int v_t_deep, .int v_t_few, .ref h_t_ownLengths, .ref h_t_ownFew, .int v_t_kind, .int v_t_bytes, .int v_t_matches, .int v_t_storedBits, .int v_t_fixedBits, .int v_t_ownBits, .int v_t_out, .int v_t_pos, .int v_t_total, .int v_t_fault, .int v_t_place, .int v_t_made, .int v_t_limit, .int v_t_taken, .ref h_t_fresh, .ref h_t_many, .ref h_t_sorted]))]) (va_A [(h_t, .inr (11, [.int v_t_code, .int v_t_length, .ref h_t_row, .int v_t_size, .ref h_t_product, .int v_t_tokens, .ref h_t_token, .ref h_t_heads, .ref h_t_before, .ref h_t_counts, .ref h_t_lengths, .ref h_t_fewCounts, .ref h_t_fewLengths, .ref h_t_weights, .ref h_t_parents, .ref h_t_symbols, .ref h_t_numbers, .ref h_t_fewNumbers, .ref h_t_firsts, .ref h_t_line, .int v_t_runs, .ref h_t_run, .ref h_t_rest, .int v_t_wide, .int v_t_deep, .int v_t_few, .ref h_t_ownLengths, .ref h_t_ownFew, .int v_t_kind, .int v_t_bytes, .int v_t_matches, .int v_t_storedBits, .int v_t_fixedBits, .int v_t_ownBits, .int v_t_out, .int v_t_pos, .int v_t_total, .int v_t_fault, .int v_t_place, .int v_t_made, .int v_t_limit, .int v_t_taken, .ref h_t_fresh, .ref h_t_many, .ref h_t_sorted]))] sz)) 0 0 (va_A [(h_t, .inr (11, [.int v_t_code, .int v_t_length, .ref h_t_row, .int v_t_size, .ref h_t_product, .int v_t_tokens, .ref h_t_token, .ref h_t_heads, .ref h_t_before, .ref h_t_counts, .ref h_t_lengths, .ref h_t_fewCounts, .ref h_t_fewLengths, .ref h_t_weights, .ref h_t_parents, .ref h_t_symbols, .ref h_t_numbers, .ref h_t_fewNumbers, .ref h_t_firsts, .ref h_t_line, .int v_t_runs, .ref h_t_run, .ref h_t_rest, .int v_t_wide, .int v_t_deep, .int v_t_few, .ref h_t_ownLengths, .ref h_t_ownFew, .int v_t_kind, .int v_t_bytes, .int v_t_matches, .int v_t_storedBits, .int v_t_fixedBits, .int v_t_ownBits, .int v_t_out, .int v_t_pos, .int v_t_total, .int v_t_fault, .int v_t_place, .int v_t_made, .int v_t_limit, .int v_t_taken, .ref h_t_fresh, .ref h_t_many, .ref h_t_sorted]))] sz) := by
  refine Met.ofW (cc := b_Mo_told) (maxL := 2) (ret := (some .int)) (by decide) rfl ?_
  intro p e s m args below meth c s₁ B hml hv
  obtain ⟨rfl, hsz, hP, hK, hD0, hN⟩ := hv
  have hx := B.exec
  have hb := B.bytes
  have hr := B.returns
  have hts := atoms_spec (ws := w_Mo_told) B.pre
  have ht : ∀ w ∈ TB, w.before ([.ref h_t, .int p1]).toArray s = true := fun w h => hts w (List.mem_cons_of_mem _ h)
  have hown : s.vm.findClass R_Mo = some m.cls := findClass_of_methodNamed B.named
  have hlocks := B.notSynchronized
  subst hsz
  have hD := hD0.self (sz := s.heap.size)
  generalize hAe : va_A [(h_t, .inr (11, [.int v_t_code, .int v_t_length, .ref h_t_row, .int v_t_size, .ref h_t_product, .int v_t_tokens, .ref h_t_token, .ref h_t_heads, .ref h_t_before, .ref h_t_counts, .ref h_t_lengths, .ref h_t_fewCounts, .ref h_t_fewLengths, .ref h_t_weights, .ref h_t_parents, .ref h_t_symbols, .ref h_t_numbers, .ref h_t_fewNumbers, .ref h_t_firsts, .ref h_t_line, .int v_t_runs, .ref h_t_run, .ref h_t_rest, .int v_t_wide, .int v_t_deep, .int v_t_few, .ref h_t_ownLengths, .ref h_t_ownFew, .int v_t_kind, .int v_t_bytes, .int v_t_matches, .int v_t_storedBits, .int v_t_fixedBits, .int v_t_ownBits, .int v_t_out, .int v_t_pos, .int v_t_total, .int v_t_fault, .int v_t_place, .int v_t_made, .int v_t_limit, .int v_t_taken, .ref h_t_fresh, .ref h_t_many, .ref h_t_sorted]))] s.heap.size = A at hD ⊢
  have hA : ∀ q : Nat, s.heap.size ≤ q → A q := fun q h => by rw [← hAe]; exact Or.inr h
  have hS : va_S A s.heap s.heap [] := va_S.rf
  have hP : va_P (dC, dI) vwCl [(h_t, .inr (11, [.int v_t_code, .int v_t_length, .ref h_t_row, .int v_t_size, .ref h_t_product, .int v_t_tokens, .ref h_t_token, .ref h_t_heads, .ref h_t_before, .ref h_t_counts, .ref h_t_lengths, .ref h_t_fewCounts, .ref h_t_fewLengths, .ref h_t_weights, .ref h_t_parents, .ref h_t_symbols, .ref h_t_numbers, .ref h_t_fewNumbers, .ref h_t_firsts, .ref h_t_line, .int v_t_runs, .ref h_t_run, .ref h_t_rest, .int v_t_wide, .int v_t_deep, .int v_t_few, .ref h_t_ownLengths, .ref h_t_ownFew, .int v_t_kind, .int v_t_bytes, .int v_t_matches, .int v_t_storedBits, .int v_t_fixedBits, .int v_t_ownBits, .int v_t_out, .int v_t_pos, .int v_t_total, .int v_t_fault, .int v_t_place, .int v_t_made, .int v_t_limit, .int v_t_taken, .ref h_t_fresh, .ref h_t_many, .ref h_t_sorted]))] s.heap := hP
  skip
  have hl := lv_entry ([.ref h_t, .int p1]) (n := 2) (Nat.le_of_ble_eq_true rfl)
  rw [lg_entry_eq]
  generalize (lg_sl ([.ref h_t, .int p1]) ++ List.replicate (2 - (lg_sl ([.ref h_t, .int p1])).length) Slot.unset).toArray = ls at hl ⊢
  have hl : lv_has ls 2 [(0, .ref h_t), (1, .int p1)] := hl
  refine lv_aload_n hx hb d_Mo_told_0 rfl (lv_at hl 0 rfl) ?_
  refine lv_iload_n hx hb d_Mo_told_1 rfl (lv_at hl 1 rfl) ?_
  refine lv_tern (J := 15) (cd := p1 < 0) (a := (1 : Int32)) (b := (if p1 ≤ (5 : Int32) then (0 : Int32) else (1 : Int32))) (rest := [.ref h_t]) (fun k5 k6 => ?_) ?_
  · refine lv_if_lt (tgt := 10) hx hb d_Mo_told_2 (by decide) (fun c1 => ?_) (fun c1 => ?_)
    · refine lv_iconst (v := (1 : Int32)) hx hb d_Mo_told_10 (by decide) ?_
      refine lv_goto (tgt := 15) hx hb d_Mo_told_11 (by decide) ?_
      exact k5 c1
    · refine lv_iload_n hx hb d_Mo_told_5 rfl (lv_at hl 1 rfl) ?_
      refine lv_iconst (v := (5 : Int32)) hx hb d_Mo_told_6 (by decide) ?_
      refine lv_tern (J := 15) (cd := p1 ≤ (5 : Int32)) (a := (0 : Int32)) (b := (1 : Int32)) (rest := [.ref h_t]) (fun k3 k4 => ?_) ?_
      · refine lv_icmp_le (tgt := 14) hx hb d_Mo_told_7 (by decide) (fun c2 => ?_) (fun c2 => ?_)
        · refine lv_iconst (v := (0 : Int32)) hx hb d_Mo_told_14 (by decide) ?_
          exact k3 c2
        · refine lv_iconst (v := (1 : Int32)) hx hb d_Mo_told_10 (by decide) ?_
          refine lv_goto (tgt := 15) hx hb d_Mo_told_11 (by decide) ?_
          exact k4 c2
      exact k6 c1
  refine va_put (D := (dC, dI)) (ci := 11) (v := .int (if p1 < 0 then (1 : Int32) else (if p1 ≤ (5 : Int32) then (0 : Int32) else (1 : Int32)))) (ty := .int) (C := R_Mo) (T := F_Mo) (N := 45) hx hb ht in_Mo t_Mo t_Mo_ok n_Mo hown hK hP hD hS 0 rfl rfl 0 (by decide) (ht _ k_945) (fun _ h9 => h9) rfl (by decide +kernel) rfl rfl (Nat.le_of_ble_eq_true rfl) d_Mo_told_15 (fun H locs hP hD hS => ?_)
  have hP : va_P (dC, dI) vwCl [(h_t, .inr (11, [.int (if p1 < 0 then (1 : Int32) else (if p1 ≤ (5 : Int32) then (0 : Int32) else (1 : Int32))), .int v_t_length, .ref h_t_row, .int v_t_size, .ref h_t_product, .int v_t_tokens, .ref h_t_token, .ref h_t_heads, .ref h_t_before, .ref h_t_counts, .ref h_t_lengths, .ref h_t_fewCounts, .ref h_t_fewLengths, .ref h_t_weights, .ref h_t_parents, .ref h_t_symbols, .ref h_t_numbers, .ref h_t_fewNumbers, .ref h_t_firsts, .ref h_t_line, .int v_t_runs, .ref h_t_run, .ref h_t_rest, .int v_t_wide, .int v_t_deep, .int v_t_few, .ref h_t_ownLengths, .ref h_t_ownFew, .int v_t_kind, .int v_t_bytes, .int v_t_matches, .int v_t_storedBits, .int v_t_fixedBits, .int v_t_ownBits, .int v_t_out, .int v_t_pos, .int v_t_total, .int v_t_fault, .int v_t_place, .int v_t_made, .int v_t_limit, .int v_t_taken, .ref h_t_fresh, .ref h_t_many, .ref h_t_sorted]))] H := hP
  have hD : va_D A [(h_t, .inr (11, [.int (if p1 < 0 then (1 : Int32) else (if p1 ≤ (5 : Int32) then (0 : Int32) else (1 : Int32))), .int v_t_length, .ref h_t_row, .int v_t_size, .ref h_t_product, .int v_t_tokens, .ref h_t_token, .ref h_t_heads, .ref h_t_before, .ref h_t_counts, .ref h_t_lengths, .ref h_t_fewCounts, .ref h_t_fewLengths, .ref h_t_weights, .ref h_t_parents, .ref h_t_symbols, .ref h_t_numbers, .ref h_t_fewNumbers, .ref h_t_firsts, .ref h_t_line, .int v_t_runs, .ref h_t_run, .ref h_t_rest, .int v_t_wide, .int v_t_deep, .int v_t_few, .ref h_t_ownLengths, .ref h_t_ownFew, .int v_t_kind, .int v_t_bytes, .int v_t_matches, .int v_t_storedBits, .int v_t_fixedBits, .int v_t_ownBits, .int v_t_out, .int v_t_pos, .int v_t_total, .int v_t_fault, .int v_t_place, .int v_t_made, .int v_t_limit, .int v_t_taken, .ref h_t_fresh, .ref h_t_many, .ref h_t_sorted]))] := hD
  refine lv_aload_n hx hb d_Mo_told_18 rfl (lv_at hl 0 rfl) ?_
  refine va_get (D := (dC, dI)) (ci := 11) (v := .int (if p1 < 0 then (1 : Int32) else (if p1 ≤ (5 : Int32) then (0 : Int32) else (1 : Int32)))) (C := R_Mo) (T := F_Mo) (N := 45) hx hb ht in_Mo hown hK hP 0 rfl rfl 0 (by decide) (ht _ k_945) (fun _ h9 => h9) rfl d_Mo_told_19 ?_
  refine lv_if_le (tgt := 27) hx hb d_Mo_told_22 (by decide) (fun c7 => ?_) (fun c7 => ?_)
  · replace h := ip_p c7 h
    refine lv_iload_n hx hb d_Mo_told_27 rfl (lv_at hl 1 rfl) ?_
    refine lv_tern (J := 90) (cd := p1 = 0) (a := v_t_kind) (b := (if p1 = (1 : Int32) then v_t_bytes else (if p1 = (2 : Int32) then v_t_matches else (if p1 = (3 : Int32) then v_t_storedBits else (if p1 = (4 : Int32) then v_t_fixedBits else v_t_ownBits))))) (rest := []) (fun k21 k22 => ?_) ?_
    · refine lv_if_ne (tgt := 38) hx hb d_Mo_told_28 (by decide) (fun c8 => ?_) (fun c8 => ?_)
      · refine lv_iload_n hx hb d_Mo_told_38 rfl (lv_at hl 1 rfl) ?_
        refine lv_iconst (v := (1 : Int32)) hx hb d_Mo_told_39 (by decide) ?_
        refine lv_tern (J := 90) (cd := p1 = (1 : Int32)) (a := v_t_bytes) (b := (if p1 = (2 : Int32) then v_t_matches else (if p1 = (3 : Int32) then v_t_storedBits else (if p1 = (4 : Int32) then v_t_fixedBits else v_t_ownBits)))) (rest := []) (fun k19 k20 => ?_) ?_
        · refine lv_icmp_ne (tgt := 50) hx hb d_Mo_told_40 (by decide) (fun c9 => ?_) (fun c9 => ?_)
          · refine lv_iload_n hx hb d_Mo_told_50 rfl (lv_at hl 1 rfl) ?_
            refine lv_iconst (v := (2 : Int32)) hx hb d_Mo_told_51 (by decide) ?_
            refine lv_tern (J := 90) (cd := p1 = (2 : Int32)) (a := v_t_matches) (b := (if p1 = (3 : Int32) then v_t_storedBits else (if p1 = (4 : Int32) then v_t_fixedBits else v_t_ownBits))) (rest := []) (fun k17 k18 => ?_) ?_
            · refine lv_icmp_ne (tgt := 62) hx hb d_Mo_told_52 (by decide) (fun c10 => ?_) (fun c10 => ?_)
              · refine lv_iload_n hx hb d_Mo_told_62 rfl (lv_at hl 1 rfl) ?_
                refine lv_iconst (v := (3 : Int32)) hx hb d_Mo_told_63 (by decide) ?_
                refine lv_tern (J := 90) (cd := p1 = (3 : Int32)) (a := v_t_storedBits) (b := (if p1 = (4 : Int32) then v_t_fixedBits else v_t_ownBits)) (rest := []) (fun k15 k16 => ?_) ?_
                · refine lv_icmp_ne (tgt := 74) hx hb d_Mo_told_64 (by decide) (fun c11 => ?_) (fun c11 => ?_)
                  · refine lv_iload_n hx hb d_Mo_told_74 rfl (lv_at hl 1 rfl) ?_
                    refine lv_iconst (v := (4 : Int32)) hx hb d_Mo_told_75 (by decide) ?_
                    refine lv_tern (J := 90) (cd := p1 = (4 : Int32)) (a := v_t_fixedBits) (b := v_t_ownBits) (rest := []) (fun k13 k14 => ?_) ?_
                    · refine lv_icmp_ne (tgt := 86) hx hb d_Mo_told_76 (by decide) (fun c12 => ?_) (fun c12 => ?_)
                      · refine lv_aload_n hx hb d_Mo_told_86 rfl (lv_at hl 0 rfl) ?_
                        refine va_get (D := (dC, dI)) (ci := 11) (v := .int v_t_ownBits) (C := R_Mo) (T := F_Mo) (N := 45) hx hb ht in_Mo hown hK hP 0 rfl rfl 33 (by decide) (ht _ k_978) (fun _ h9 => h9) rfl d_Mo_told_87 ?_
                        exact k14 c12
                      · refine lv_aload_n hx hb d_Mo_told_79 rfl (lv_at hl 0 rfl) ?_
                        refine va_get (D := (dC, dI)) (ci := 11) (v := .int v_t_fixedBits) (C := R_Mo) (T := F_Mo) (N := 45) hx hb ht in_Mo hown hK hP 0 rfl rfl 32 (by decide) (ht _ k_977) (fun _ h9 => h9) rfl d_Mo_told_80 ?_
                        refine lv_goto (tgt := 90) hx hb d_Mo_told_83 (by decide) ?_
                        exact k13 c12
                    exact k16 c11
                  · refine lv_aload_n hx hb d_Mo_told_67 rfl (lv_at hl 0 rfl) ?_
                    refine va_get (D := (dC, dI)) (ci := 11) (v := .int v_t_storedBits) (C := R_Mo) (T := F_Mo) (N := 45) hx hb ht in_Mo hown hK hP 0 rfl rfl 31 (by decide) (ht _ k_976) (fun _ h9 => h9) rfl d_Mo_told_68 ?_
                    refine lv_goto (tgt := 90) hx hb d_Mo_told_71 (by decide) ?_
                    exact k15 c11
                exact k18 c10
              · refine lv_aload_n hx hb d_Mo_told_55 rfl (lv_at hl 0 rfl) ?_
                refine va_get (D := (dC, dI)) (ci := 11) (v := .int v_t_matches) (C := R_Mo) (T := F_Mo) (N := 45) hx hb ht in_Mo hown hK hP 0 rfl rfl 30 (by decide) (ht _ k_975) (fun _ h9 => h9) rfl d_Mo_told_56 ?_
                refine lv_goto (tgt := 90) hx hb d_Mo_told_59 (by decide) ?_
                exact k17 c10
            exact k20 c9
          · refine lv_aload_n hx hb d_Mo_told_43 rfl (lv_at hl 0 rfl) ?_
            refine va_get (D := (dC, dI)) (ci := 11) (v := .int v_t_bytes) (C := R_Mo) (T := F_Mo) (N := 45) hx hb ht in_Mo hown hK hP 0 rfl rfl 29 (by decide) (ht _ k_974) (fun _ h9 => h9) rfl d_Mo_told_44 ?_
            refine lv_goto (tgt := 90) hx hb d_Mo_told_47 (by decide) ?_
            exact k19 c9
        exact k22 c8
      · refine lv_aload_n hx hb d_Mo_told_31 rfl (lv_at hl 0 rfl) ?_
        refine va_get (D := (dC, dI)) (ci := 11) (v := .int v_t_kind) (C := R_Mo) (T := F_Mo) (N := 45) hx hb ht in_Mo hown hK hP 0 rfl rfl 28 (by decide) (ht _ k_973) (fun _ h9 => h9) rfl d_Mo_told_32 ?_
        refine lv_goto (tgt := 90) hx hb d_Mo_told_35 (by decide) ?_
        exact k21 c8
    obtain rfl := Option.some.inj h
    exact W.iret (v := if p1 = 0 then v_t_kind else (if p1 = (1 : Int32) then v_t_bytes else (if p1 = (2 : Int32) then v_t_matches else (if p1 = (3 : Int32) then v_t_storedBits else (if p1 = (4 : Int32) then v_t_fixedBits else v_t_ownBits))))) hx hb hr (fun t ht hW => ⟨⟨_, (), rfl, rfl, by rw [ht]; exact hP, va_K.moved hW.alike hK, hD⟩, hS.F ht⟩) hS.2.2 d_Mo_told_90
  · replace h := ip_n c7 h
    refine lv_iconst (v := (0 : Int32)) hx hb d_Mo_told_25 (by decide) ?_
    obtain rfl := Option.some.inj h
    exact W.iret (v := (0 : Int32)) hx hb hr (fun t ht hW => ⟨⟨_, (), rfl, rfl, by rw [ht]; exact hP, va_K.moved hW.alike hK, hD⟩, hS.F ht⟩) hS.2.2 d_Mo_told_26
/-! PackedBytesModel.blame(I)I -/
def fMo_blame (N : Nat) (p1 : Int32) (v_t_fault : Int32) (v_t_place : Int32) (v_t_taken : Int32) : Option (Int32 × Int32) :=
    if (if p1 < 0 then (1 : Int32) else (if p1 ≤ (2 : Int32) then (0 : Int32) else (1 : Int32))) ≤ 0 then
      some (if p1 = 0 then v_t_fault else (if p1 = (1 : Int32) then v_t_place else v_t_taken), if p1 < 0 then (1 : Int32) else (if p1 ≤ (2 : Int32) then (0 : Int32) else (1 : Int32)))
    else
      some ((0 : Int32), if p1 < 0 then (1 : Int32) else (if p1 ≤ (2 : Int32) then (0 : Int32) else (1 : Int32)))
set_option maxHeartbeats 4000000 in
set_option maxRecDepth 100000 in
theorem cMo_blame (l : Launch) (dC : Nat → ClassId) (dI : Nat → Nat → Nat) (h_t h_t_row h_t_product h_t_token h_t_heads h_t_before h_t_counts h_t_lengths h_t_fewCounts h_t_fewLengths h_t_weights h_t_parents h_t_symbols h_t_numbers h_t_fewNumbers h_t_firsts h_t_line h_t_run h_t_rest h_t_ownLengths h_t_ownFew h_t_fresh h_t_many h_t_sorted : Nat) (cB cI cJ : ClassId) (sz : Nat) (N : Nat) (p1 : Int32) (v_t_code : Int32) (v_t_length : Int32) (v_t_size : Int32) (v_t_tokens : Int32) (v_t_runs : Int32) (v_t_wide : Int32) (v_t_deep : Int32) (v_t_few : Int32) (v_t_kind : Int32) (v_t_bytes : Int32) (v_t_matches : Int32) (v_t_storedBits : Int32) (v_t_fixedBits : Int32) (v_t_ownBits : Int32) (v_t_out : Int32) (v_t_pos : Int32) (v_t_total : Int32) (v_t_fault : Int32) (v_t_place : Int32) (v_t_made : Int32) (v_t_limit : Int32) (v_t_taken : Int32) (o : Int32 × Int32) (h : fMo_blame N p1 v_t_fault v_t_place v_t_taken = some o) : Met l y_Mo_blame w_Mo_blame ({ frames := 0, cells := 0, slots := 0, locals := 0 } : Room) (va_Pc [.ref h_t, .int p1] (fun U => U.heap.size = sz ∧ va_P (dC, dI) vwCl [(h_t, .inr (11, [.int v_t_code, .int v_t_length, .ref h_t_row, .int v_t_size, .ref h_t_product, .int v_t_tokens, .ref h_t_token, .ref h_t_heads, .ref h_t_before, .ref h_t_counts, .ref h_t_lengths, .ref h_t_fewCounts, .ref h_t_fewLengths, .ref h_t_weights, .ref h_t_parents, .ref h_t_symbols, .ref h_t_numbers, .ref h_t_fewNumbers, .ref h_t_firsts, .ref h_t_line, .int v_t_runs, .ref h_t_run, .ref h_t_rest, .int v_t_wide, .int v_t_deep, .int v_t_few, .ref h_t_ownLengths, .ref h_t_ownFew, .int v_t_kind, .int v_t_bytes, .int v_t_matches, .int v_t_storedBits, .int v_t_fixedBits, .int v_t_ownBits, .int v_t_out, .int v_t_pos, .int v_t_total, .int v_t_fault, .int v_t_place, .int v_t_made, .int v_t_limit, .int v_t_taken, .ref h_t_fresh, .ref h_t_many, .ref h_t_sorted]))] U.heap ∧ va_K (dC, dI) vwCl [(cB, .byte), (cI, .int), (cJ, .long)] U ∧ va_D (fun _ => True) [(h_t, .inr (11, [.int v_t_code, .int v_t_length, .ref h_t_row, .int v_t_size, .ref h_t_product, .int v_t_tokens, .ref h_t_token, .ref h_t_heads, .ref h_t_before, .ref h_t_counts, .ref h_t_lengths, .ref h_t_fewCounts, .ref h_t_fewLengths, .ref h_t_weights, .ref h_t_parents, .ref h_t_symbols, .ref h_t_numbers, .ref h_t_fewNumbers, .ref h_t_firsts, .ref h_t_line, .int v_t_runs, .ref h_t_run, .ref h_t_rest, .int v_t_wide, .int v_t_deep, .int v_t_few, .ref h_t_ownLengths, .ref h_t_ownFew, .int v_t_kind, .int v_t_bytes, .int v_t_matches, .int v_t_storedBits, .int v_t_fixedBits, .int v_t_ownBits, .int v_t_out, .int v_t_pos, .int v_t_total, .int v_t_fault, .int v_t_place, .int v_t_made, .int v_t_limit, .int v_t_taken, .ref h_t_fresh, .ref h_t_many, .ref h_t_sorted]))] ∧ NW U)) (va_Qi (fun r (_ : Unit) => r = o.1) (fun _ t => va_P (dC, dI) vwCl [(h_t, .inr (11, [.int o.2, .int v_t_length, .ref h_t_row, .int v_t_size, .ref h_t_product, .int v_t_tokens, .ref h_t_token, .ref h_t_heads, .ref h_t_before, .ref h_t_counts, .ref h_t_lengths, .ref h_t_fewCounts, .ref h_t_fewLengths, .ref h_t_weights, .ref h_t_parents, .ref h_t_symbols, .ref h_t_numbers, .ref h_t_fewNumbers, .ref h_t_firsts, .ref h_t_line, .int v_t_runs, .ref h_t_run, .ref h_t_rest, .int v_t_wide, .int v_t_deep, .int v_t_few, .ref h_t_ownLengths, .ref h_t_ownFew, .int v_t_kind, .int v_t_bytes, .int v_t_matches, .int v_t_storedBits, .int v_t_fixedBits, .int v_t_ownBits, .int v_t_out, .int v_t_pos, .int v_t_total, .int v_t_fault, .int v_t_place, .int v_t_made, .int v_t_limit, .int v_t_taken, .ref h_t_fresh, .ref h_t_many, .ref h_t_sorted]))] t.heap ∧ va_K (dC, dI) vwCl [(cB, .byte), (cI, .int), (cJ, .long)] t ∧ va_D (va_A [(h_t, .inr (11, [.int v_t_code, .int v_t_length, .ref h_t_row, .int v_t_size, .ref h_t_product, .int v_t_tokens, .ref h_t_token, .ref h_t_heads, .ref h_t_before, .ref h_t_counts, .ref h_t_lengths, .ref h_t_fewCounts, .ref h_t_fewLengths, .ref h_t_weights, .ref h_t_parents, .ref h_t_symbols, .ref h_t_numbers, .ref h_t_fewNumbers, .ref h_t_firsts, .ref h_t_line, .int v_t_runs, .ref h_t_run, .ref h_t_rest, .int v_t_wide, .int v_t_deep, .int v_t_few, .ref h_t_ownLengths, .ref h_t_ownFew, .int v_t_kind, .int v_t_bytes, .int v_t_matches, .int v_t_storedBits, .int v_t_fixedBits, .int v_t_ownBits, .int v_t_out, .int v_t_pos, .int v_t_total, .int v_t_fault, .int v_t_place, .int v_t_made, .int v_t_limit, .int v_t_taken, .ref h_t_fresh, .ref h_t_many, .ref h_t_sorted]))] sz) [(h_t, .inr (11, [.int o.2, .int v_t_length, .ref h_t_row, .int v_t_size, .ref h_t_product, .int v_t_tokens, .ref h_t_token, .ref h_t_heads, .ref h_t_before, .ref h_t_counts, .ref h_t_lengths, .ref h_t_fewCounts, .ref h_t_fewLengths, .ref h_t_weights, .ref h_t_parents, .ref h_t_symbols, .ref h_t_numbers, .ref h_t_fewNumbers, .ref h_t_firsts, .ref h_t_line, .int v_t_runs, .ref h_t_run, .ref h_t_rest, .int v_t_wide, .int v_t_deep, .int v_t_few, .ref h_t_ownLengths, .ref h_t_ownFew, .int v_t_kind, .int v_t_bytes, .int v_t_matches, .int v_t_storedBits, .int v_t_fixedBits, .int v_t_ownBits, .int v_t_out, .int v_t_pos, .int v_t_total, .int v_t_fault, .int v_t_place, .int v_t_made, .int v_t_limit, .int v_t_taken, .ref h_t_fresh, .ref h_t_many, .ref h_t_sorted]))]) (va_A [(h_t, .inr (11, [.int v_t_code, .int v_t_length, .ref h_t_row, .int v_t_size, .ref h_t_product, .int v_t_tokens, .ref h_t_token, .ref h_t_heads, .ref h_t_before, .ref h_t_counts, .ref h_t_lengths, .ref h_t_fewCounts, .ref h_t_fewLengths, .ref h_t_weights, .ref h_t_parents, .ref h_t_symbols, .ref h_t_numbers, .ref h_t_fewNumbers, .ref h_t_firsts, .ref h_t_line, .int v_t_runs, .ref h_t_run, .ref h_t_rest, .int v_t_wide, .int v_t_deep, .int v_t_few, .ref h_t_ownLengths, .ref h_t_ownFew, .int v_t_kind, .int v_t_bytes, .int v_t_matches, .int v_t_storedBits, .int v_t_fixedBits, .int v_t_ownBits, .int v_t_out, .int v_t_pos, .int v_t_total, .int v_t_fault, .int v_t_place, .int v_t_made, .int v_t_limit, .int v_t_taken, .ref h_t_fresh, .ref h_t_many, .ref h_t_sorted]))] sz)) 0 0 (va_A [(h_t, .inr (11, [.int v_t_code, .int v_t_length, .ref h_t_row, .int v_t_size, .ref h_t_product, .int v_t_tokens, .ref h_t_token, .ref h_t_heads, .ref h_t_before, .ref h_t_counts, .ref h_t_lengths, .ref h_t_fewCounts, .ref h_t_fewLengths, .ref h_t_weights, .ref h_t_parents, .ref h_t_symbols, .ref h_t_numbers, .ref h_t_fewNumbers, .ref h_t_firsts, .ref h_t_line, .int v_t_runs, .ref h_t_run, .ref h_t_rest, .int v_t_wide, .int v_t_deep, .int v_t_few, .ref h_t_ownLengths, .ref h_t_ownFew, .int v_t_kind, .int v_t_bytes, .int v_t_matches, .int v_t_storedBits, .int v_t_fixedBits, .int v_t_ownBits, .int v_t_out, .int v_t_pos, .int v_t_total, .int v_t_fault, .int v_t_place, .int v_t_made, .int v_t_limit, .int v_t_taken, .ref h_t_fresh, .ref h_t_many, .ref h_t_sorted]))] sz) := by
  refine Met.ofW (cc := b_Mo_blame) (maxL := 2) (ret := (some .int)) (by decide) rfl ?_
  intro p e s m args below meth c s₁ B hml hv
  obtain ⟨rfl, hsz, hP, hK, hD0, hN⟩ := hv
  have hx := B.exec
  have hb := B.bytes
  have hr := B.returns
  have hts := atoms_spec (ws := w_Mo_blame) B.pre
  have ht : ∀ w ∈ TB, w.before ([.ref h_t, .int p1]).toArray s = true := fun w h => hts w (List.mem_cons_of_mem _ h)
  have hown : s.vm.findClass R_Mo = some m.cls := findClass_of_methodNamed B.named
  have hlocks := B.notSynchronized
  subst hsz
  have hD := hD0.self (sz := s.heap.size)
  generalize hAe : va_A [(h_t, .inr (11, [.int v_t_code, .int v_t_length, .ref h_t_row, .int v_t_size, .ref h_t_product, .int v_t_tokens, .ref h_t_token, .ref h_t_heads, .ref h_t_before, .ref h_t_counts, .ref h_t_lengths, .ref h_t_fewCounts, .ref h_t_fewLengths, .ref h_t_weights, .ref h_t_parents, .ref h_t_symbols, .ref h_t_numbers, .ref h_t_fewNumbers, .ref h_t_firsts, .ref h_t_line, .int v_t_runs, .ref h_t_run, .ref h_t_rest, .int v_t_wide, .int v_t_deep, .int v_t_few, .ref h_t_ownLengths, .ref h_t_ownFew, .int v_t_kind, .int v_t_bytes, .int v_t_matches, .int v_t_storedBits, .int v_t_fixedBits, .int v_t_ownBits, .int v_t_out, .int v_t_pos, .int v_t_total, .int v_t_fault, .int v_t_place, .int v_t_made, .int v_t_limit, .int v_t_taken, .ref h_t_fresh, .ref h_t_many, .ref h_t_sorted]))] s.heap.size = A at hD ⊢
  have hA : ∀ q : Nat, s.heap.size ≤ q → A q := fun q h => by rw [← hAe]; exact Or.inr h
  have hS : va_S A s.heap s.heap [] := va_S.rf
  have hP : va_P (dC, dI) vwCl [(h_t, .inr (11, [.int v_t_code, .int v_t_length, .ref h_t_row, .int v_t_size, .ref h_t_product, .int v_t_tokens, .ref h_t_token, .ref h_t_heads, .ref h_t_before, .ref h_t_counts, .ref h_t_lengths, .ref h_t_fewCounts, .ref h_t_fewLengths, .ref h_t_weights, .ref h_t_parents, .ref h_t_symbols, .ref h_t_numbers, .ref h_t_fewNumbers, .ref h_t_firsts, .ref h_t_line, .int v_t_runs, .ref h_t_run, .ref h_t_rest, .int v_t_wide, .int v_t_deep, .int v_t_few, .ref h_t_ownLengths, .ref h_t_ownFew, .int v_t_kind, .int v_t_bytes, .int v_t_matches, .int v_t_storedBits, .int v_t_fixedBits, .int v_t_ownBits, .int v_t_out, .int v_t_pos, .int v_t_total, .int v_t_fault, .int v_t_place, .int v_t_made, .int v_t_limit, .int v_t_taken, .ref h_t_fresh, .ref h_t_many, .ref h_t_sorted]))] s.heap := hP
  skip
  have hl := lv_entry ([.ref h_t, .int p1]) (n := 2) (Nat.le_of_ble_eq_true rfl)
  rw [lg_entry_eq]
  generalize (lg_sl ([.ref h_t, .int p1]) ++ List.replicate (2 - (lg_sl ([.ref h_t, .int p1])).length) Slot.unset).toArray = ls at hl ⊢
  have hl : lv_has ls 2 [(0, .ref h_t), (1, .int p1)] := hl
  refine lv_aload_n hx hb d_Mo_blame_0 rfl (lv_at hl 0 rfl) ?_
  refine lv_iload_n hx hb d_Mo_blame_1 rfl (lv_at hl 1 rfl) ?_
  refine lv_tern (J := 15) (cd := p1 < 0) (a := (1 : Int32)) (b := (if p1 ≤ (2 : Int32) then (0 : Int32) else (1 : Int32))) (rest := [.ref h_t]) (fun k5 k6 => ?_) ?_
  · refine lv_if_lt (tgt := 10) hx hb d_Mo_blame_2 (by decide) (fun c1 => ?_) (fun c1 => ?_)
    · refine lv_iconst (v := (1 : Int32)) hx hb d_Mo_blame_10 (by decide) ?_
      refine lv_goto (tgt := 15) hx hb d_Mo_blame_11 (by decide) ?_
      exact k5 c1
    · refine lv_iload_n hx hb d_Mo_blame_5 rfl (lv_at hl 1 rfl) ?_
      refine lv_iconst (v := (2 : Int32)) hx hb d_Mo_blame_6 (by decide) ?_
      refine lv_tern (J := 15) (cd := p1 ≤ (2 : Int32)) (a := (0 : Int32)) (b := (1 : Int32)) (rest := [.ref h_t]) (fun k3 k4 => ?_) ?_
      · refine lv_icmp_le (tgt := 14) hx hb d_Mo_blame_7 (by decide) (fun c2 => ?_) (fun c2 => ?_)
        · refine lv_iconst (v := (0 : Int32)) hx hb d_Mo_blame_14 (by decide) ?_
          exact k3 c2
        · refine lv_iconst (v := (1 : Int32)) hx hb d_Mo_blame_10 (by decide) ?_
          refine lv_goto (tgt := 15) hx hb d_Mo_blame_11 (by decide) ?_
          exact k4 c2
      exact k6 c1
  refine va_put (D := (dC, dI)) (ci := 11) (v := .int (if p1 < 0 then (1 : Int32) else (if p1 ≤ (2 : Int32) then (0 : Int32) else (1 : Int32)))) (ty := .int) (C := R_Mo) (T := F_Mo) (N := 45) hx hb ht in_Mo t_Mo t_Mo_ok n_Mo hown hK hP hD hS 0 rfl rfl 0 (by decide) (ht _ k_945) (fun _ h9 => h9) rfl (by decide +kernel) rfl rfl (Nat.le_of_ble_eq_true rfl) d_Mo_blame_15 (fun H locs hP hD hS => ?_)
  have hP : va_P (dC, dI) vwCl [(h_t, .inr (11, [.int (if p1 < 0 then (1 : Int32) else (if p1 ≤ (2 : Int32) then (0 : Int32) else (1 : Int32))), .int v_t_length, .ref h_t_row, .int v_t_size, .ref h_t_product, .int v_t_tokens, .ref h_t_token, .ref h_t_heads, .ref h_t_before, .ref h_t_counts, .ref h_t_lengths, .ref h_t_fewCounts, .ref h_t_fewLengths, .ref h_t_weights, .ref h_t_parents, .ref h_t_symbols, .ref h_t_numbers, .ref h_t_fewNumbers, .ref h_t_firsts, .ref h_t_line, .int v_t_runs, .ref h_t_run, .ref h_t_rest, .int v_t_wide, .int v_t_deep, .int v_t_few, .ref h_t_ownLengths, .ref h_t_ownFew, .int v_t_kind, .int v_t_bytes, .int v_t_matches, .int v_t_storedBits, .int v_t_fixedBits, .int v_t_ownBits, .int v_t_out, .int v_t_pos, .int v_t_total, .int v_t_fault, .int v_t_place, .int v_t_made, .int v_t_limit, .int v_t_taken, .ref h_t_fresh, .ref h_t_many, .ref h_t_sorted]))] H := hP
  have hD : va_D A [(h_t, .inr (11, [.int (if p1 < 0 then (1 : Int32) else (if p1 ≤ (2 : Int32) then (0 : Int32) else (1 : Int32))), .int v_t_length, .ref h_t_row, .int v_t_size, .ref h_t_product, .int v_t_tokens, .ref h_t_token, .ref h_t_heads, .ref h_t_before, .ref h_t_counts, .ref h_t_lengths, .ref h_t_fewCounts, .ref h_t_fewLengths, .ref h_t_weights, .ref h_t_parents, .ref h_t_symbols, .ref h_t_numbers, .ref h_t_fewNumbers, .ref h_t_firsts, .ref h_t_line, .int v_t_runs, .ref h_t_run, .ref h_t_rest, .int v_t_wide, .int v_t_deep, .int v_t_few, .ref h_t_ownLengths, .ref h_t_ownFew, .int v_t_kind, .int v_t_bytes, .int v_t_matches, .int v_t_storedBits, .int v_t_fixedBits, .int v_t_ownBits, .int v_t_out, .int v_t_pos, .int v_t_total, .int v_t_fault, .int v_t_place, .int v_t_made, .int v_t_limit, .int v_t_taken, .ref h_t_fresh, .ref h_t_many, .ref h_t_sorted]))] := hD
  refine lv_aload_n hx hb d_Mo_blame_18 rfl (lv_at hl 0 rfl) ?_
  refine va_get (D := (dC, dI)) (ci := 11) (v := .int (if p1 < 0 then (1 : Int32) else (if p1 ≤ (2 : Int32) then (0 : Int32) else (1 : Int32)))) (C := R_Mo) (T := F_Mo) (N := 45) hx hb ht in_Mo hown hK hP 0 rfl rfl 0 (by decide) (ht _ k_945) (fun _ h9 => h9) rfl d_Mo_blame_19 ?_
  refine lv_if_le (tgt := 27) hx hb d_Mo_blame_22 (by decide) (fun c7 => ?_) (fun c7 => ?_)
  · replace h := ip_p c7 h
    refine lv_iload_n hx hb d_Mo_blame_27 rfl (lv_at hl 1 rfl) ?_
    refine lv_tern (J := 54) (cd := p1 = 0) (a := v_t_fault) (b := (if p1 = (1 : Int32) then v_t_place else v_t_taken)) (rest := []) (fun k12 k13 => ?_) ?_
    · refine lv_if_ne (tgt := 38) hx hb d_Mo_blame_28 (by decide) (fun c8 => ?_) (fun c8 => ?_)
      · refine lv_iload_n hx hb d_Mo_blame_38 rfl (lv_at hl 1 rfl) ?_
        refine lv_iconst (v := (1 : Int32)) hx hb d_Mo_blame_39 (by decide) ?_
        refine lv_tern (J := 54) (cd := p1 = (1 : Int32)) (a := v_t_place) (b := v_t_taken) (rest := []) (fun k10 k11 => ?_) ?_
        · refine lv_icmp_ne (tgt := 50) hx hb d_Mo_blame_40 (by decide) (fun c9 => ?_) (fun c9 => ?_)
          · refine lv_aload_n hx hb d_Mo_blame_50 rfl (lv_at hl 0 rfl) ?_
            refine va_get (D := (dC, dI)) (ci := 11) (v := .int v_t_taken) (C := R_Mo) (T := F_Mo) (N := 45) hx hb ht in_Mo hown hK hP 0 rfl rfl 41 (by decide) (ht _ k_986) (fun _ h9 => h9) rfl d_Mo_blame_51 ?_
            exact k11 c9
          · refine lv_aload_n hx hb d_Mo_blame_43 rfl (lv_at hl 0 rfl) ?_
            refine va_get (D := (dC, dI)) (ci := 11) (v := .int v_t_place) (C := R_Mo) (T := F_Mo) (N := 45) hx hb ht in_Mo hown hK hP 0 rfl rfl 38 (by decide) (ht _ k_983) (fun _ h9 => h9) rfl d_Mo_blame_44 ?_
            refine lv_goto (tgt := 54) hx hb d_Mo_blame_47 (by decide) ?_
            exact k10 c9
        exact k13 c8
      · refine lv_aload_n hx hb d_Mo_blame_31 rfl (lv_at hl 0 rfl) ?_
        refine va_get (D := (dC, dI)) (ci := 11) (v := .int v_t_fault) (C := R_Mo) (T := F_Mo) (N := 45) hx hb ht in_Mo hown hK hP 0 rfl rfl 37 (by decide) (ht _ k_982) (fun _ h9 => h9) rfl d_Mo_blame_32 ?_
        refine lv_goto (tgt := 54) hx hb d_Mo_blame_35 (by decide) ?_
        exact k12 c8
    obtain rfl := Option.some.inj h
    exact W.iret (v := if p1 = 0 then v_t_fault else (if p1 = (1 : Int32) then v_t_place else v_t_taken)) hx hb hr (fun t ht hW => ⟨⟨_, (), rfl, rfl, by rw [ht]; exact hP, va_K.moved hW.alike hK, hD⟩, hS.F ht⟩) hS.2.2 d_Mo_blame_54
  · replace h := ip_n c7 h
    refine lv_iconst (v := (0 : Int32)) hx hb d_Mo_blame_25 (by decide) ?_
    obtain rfl := Option.some.inj h
    exact W.iret (v := (0 : Int32)) hx hb hr (fun t ht hW => ⟨⟨_, (), rfl, rfl, by rw [ht]; exact hP, va_K.moved hW.alike hK, hD⟩, hS.F ht⟩) hS.2.2 d_Mo_blame_26
/-! PackedBytesModel.back()V -/
def fMo_back_36 (N : Nat) (v_t_size : Int32) (f_t_product : Nat → Int32) : Nat → (Int32) → (Nat → Int32) → Option ((Nat → Int32))
  | 0, _, _ => none
  | k + 1, x1, f_t_row =>
    if v_t_size ≤ x1 then
      some f_t_row
    else
      if ¬ (x1 < 0 ∨ 66000 ≤ x1.toNatClampNeg) then
        if ¬ (x1 < 0 ∨ 65536 ≤ x1.toNatClampNeg) then
          fMo_back_36 N v_t_size f_t_product k (x1 + (1 : Int32)) (upd f_t_row x1.toNatClampNeg ((f_t_product x1.toNatClampNeg).toInt8.toInt32))
        else none
      else none
def fMo_back (N : Nat) (v_t_length : Int32) (v_t_size : Int32) (f_t_product : Nat → Int32) (f_t_row : Nat → Int32) : Option (Int32 × Int32 × (Nat → Int32)) :=
    if (if v_t_size ≤ (65536 : Int32) then (0 : Int32) else (1 : Int32)) ≤ 0 then
      (fMo_back_36 N v_t_size f_t_product N (0 : Int32) f_t_row).bind (fun y8 =>
        some (if v_t_size ≤ (65536 : Int32) then (0 : Int32) else (1 : Int32), v_t_size, y8))
    else
      some (if v_t_size ≤ (65536 : Int32) then (0 : Int32) else (1 : Int32), v_t_length, f_t_row)
set_option maxHeartbeats 4000000 in
set_option maxRecDepth 100000 in
theorem wMo_back_36 {p : Program} {l : Launch} {e : Env} {s : State} {m : MethodId} {args : Array Value} {below : List Frame} {meth : Method} {c : Code} {Q : State → Prop} {A : Nat → Prop} {dC : Nat → ClassId} {dI : Nat → Nat → Nat} (h_t h_t_row h_t_product h_t_token h_t_heads h_t_before h_t_counts h_t_lengths h_t_fewCounts h_t_fewLengths h_t_weights h_t_parents h_t_symbols h_t_numbers h_t_fewNumbers h_t_firsts h_t_line h_t_run h_t_rest h_t_ownLengths h_t_ownFew h_t_fresh h_t_many h_t_sorted : Nat) (cB cI cJ : ClassId) (N : Nat) (v_t_code : Int32) (v_t_length : Int32) (v_t_size : Int32) (v_t_tokens : Int32) (v_t_runs : Int32) (v_t_wide : Int32) (v_t_deep : Int32) (v_t_few : Int32) (v_t_kind : Int32) (v_t_bytes : Int32) (v_t_matches : Int32) (v_t_storedBits : Int32) (v_t_fixedBits : Int32) (v_t_ownBits : Int32) (v_t_out : Int32) (v_t_pos : Int32) (v_t_total : Int32) (v_t_fault : Int32) (v_t_place : Int32) (v_t_made : Int32) (v_t_limit : Int32) (v_t_taken : Int32) (f_t_product : Nat → Int32) (C : CX p s m args c b_Mo_back 2 R_Mo A (dC, dI) [(cB, .byte), (cI, .int), (cJ, .long)]) :
    ∀ (n : Nat) (x1 : Int32) (f_t_row : Nat → Int32) (H : Heap) (locs : List Loc) (ls : Array Slot) (o : (Nat → Int32)), va_P (dC, dI) vwCl [(h_t, .inr (11, [.int v_t_code, .int v_t_length, .ref h_t_row, .int v_t_size, .ref h_t_product, .int v_t_tokens, .ref h_t_token, .ref h_t_heads, .ref h_t_before, .ref h_t_counts, .ref h_t_lengths, .ref h_t_fewCounts, .ref h_t_fewLengths, .ref h_t_weights, .ref h_t_parents, .ref h_t_symbols, .ref h_t_numbers, .ref h_t_fewNumbers, .ref h_t_firsts, .ref h_t_line, .int v_t_runs, .ref h_t_run, .ref h_t_rest, .int v_t_wide, .int v_t_deep, .int v_t_few, .ref h_t_ownLengths, .ref h_t_ownFew, .int v_t_kind, .int v_t_bytes, .int v_t_matches, .int v_t_storedBits, .int v_t_fixedBits, .int v_t_ownBits, .int v_t_out, .int v_t_pos, .int v_t_total, .int v_t_fault, .int v_t_place, .int v_t_made, .int v_t_limit, .int v_t_taken, .ref h_t_fresh, .ref h_t_many, .ref h_t_sorted])), (h_t_product, .inl (cB, 66000, .inl (bf f_t_product))), (h_t_row, .inl (cB, 65536, .inl (bf f_t_row)))] H → va_D A [(h_t, .inr (11, [.int v_t_code, .int v_t_length, .ref h_t_row, .int v_t_size, .ref h_t_product, .int v_t_tokens, .ref h_t_token, .ref h_t_heads, .ref h_t_before, .ref h_t_counts, .ref h_t_lengths, .ref h_t_fewCounts, .ref h_t_fewLengths, .ref h_t_weights, .ref h_t_parents, .ref h_t_symbols, .ref h_t_numbers, .ref h_t_fewNumbers, .ref h_t_firsts, .ref h_t_line, .int v_t_runs, .ref h_t_run, .ref h_t_rest, .int v_t_wide, .int v_t_deep, .int v_t_few, .ref h_t_ownLengths, .ref h_t_ownFew, .int v_t_kind, .int v_t_bytes, .int v_t_matches, .int v_t_storedBits, .int v_t_fixedBits, .int v_t_ownBits, .int v_t_out, .int v_t_pos, .int v_t_total, .int v_t_fault, .int v_t_place, .int v_t_made, .int v_t_limit, .int v_t_taken, .ref h_t_fresh, .ref h_t_many, .ref h_t_sorted])), (h_t_product, .inl (cB, 66000, .inl (bf f_t_product))), (h_t_row, .inl (cB, 65536, .inl (bf f_t_row)))] → va_S A s.heap H locs → lv_has ls 2 [(0, .ref h_t), (1, .int x1)] → fMo_back_36 N v_t_size f_t_product n x1 f_t_row = some o → (∀ (H : Heap) (locs : List Loc) (ls : Array Slot), va_P (dC, dI) vwCl [(h_t, .inr (11, [.int v_t_code, .int v_t_length, .ref h_t_row, .int v_t_size, .ref h_t_product, .int v_t_tokens, .ref h_t_token, .ref h_t_heads, .ref h_t_before, .ref h_t_counts, .ref h_t_lengths, .ref h_t_fewCounts, .ref h_t_fewLengths, .ref h_t_weights, .ref h_t_parents, .ref h_t_symbols, .ref h_t_numbers, .ref h_t_fewNumbers, .ref h_t_firsts, .ref h_t_line, .int v_t_runs, .ref h_t_run, .ref h_t_rest, .int v_t_wide, .int v_t_deep, .int v_t_few, .ref h_t_ownLengths, .ref h_t_ownFew, .int v_t_kind, .int v_t_bytes, .int v_t_matches, .int v_t_storedBits, .int v_t_fixedBits, .int v_t_ownBits, .int v_t_out, .int v_t_pos, .int v_t_total, .int v_t_fault, .int v_t_place, .int v_t_made, .int v_t_limit, .int v_t_taken, .ref h_t_fresh, .ref h_t_many, .ref h_t_sorted])), (h_t_product, .inl (cB, 66000, .inl (bf f_t_product))), (h_t_row, .inl (cB, 65536, .inl (bf o)))] H → va_D A [(h_t, .inr (11, [.int v_t_code, .int v_t_length, .ref h_t_row, .int v_t_size, .ref h_t_product, .int v_t_tokens, .ref h_t_token, .ref h_t_heads, .ref h_t_before, .ref h_t_counts, .ref h_t_lengths, .ref h_t_fewCounts, .ref h_t_fewLengths, .ref h_t_weights, .ref h_t_parents, .ref h_t_symbols, .ref h_t_numbers, .ref h_t_fewNumbers, .ref h_t_firsts, .ref h_t_line, .int v_t_runs, .ref h_t_run, .ref h_t_rest, .int v_t_wide, .int v_t_deep, .int v_t_few, .ref h_t_ownLengths, .ref h_t_ownFew, .int v_t_kind, .int v_t_bytes, .int v_t_matches, .int v_t_storedBits, .int v_t_fixedBits, .int v_t_ownBits, .int v_t_out, .int v_t_pos, .int v_t_total, .int v_t_fault, .int v_t_place, .int v_t_made, .int v_t_limit, .int v_t_taken, .ref h_t_fresh, .ref h_t_many, .ref h_t_sorted])), (h_t_product, .inl (cB, 66000, .inl (bf f_t_product))), (h_t_row, .inl (cB, 65536, .inl (bf o)))] → va_S A s.heap H locs → lv_has ls 2 [] → W p l e ({ frames := 0, cells := 0, slots := 0, locals := 0 } : Room) s m args below meth c H locs 0 0 Q (F0 m 62 ls [])) → W p l e ({ frames := 0, cells := 0, slots := 0, locals := 0 } : Room) s m args below meth c H locs 0 0 Q (F0 m 36 ls []) := by
  obtain ⟨hx, hb, hml, hown, ht, hA, hK, hN⟩ := id C
  intro n
  induction n with
  | zero => intro x1 f_t_row H locs ls o _ _ _ _ h; exact nomatch h
  | succ k ih =>
    intro x1 f_t_row H locs ls o hP hD hS hl h kx
    refine lv_iload_n hx hb d_Mo_back_36 rfl (lv_at hl 1 rfl) ?_
    refine lv_aload_n hx hb d_Mo_back_37 rfl (lv_at hl 0 rfl) ?_
    refine va_get (D := (dC, dI)) (ci := 11) (v := .int v_t_size) (C := R_Mo) (T := F_Mo) (N := 45) hx hb ht in_Mo hown hK hP 0 rfl rfl 3 (by decide) (ht _ k_948) (fun _ h9 => h9) rfl d_Mo_back_38 ?_
    refine lv_icmp_ge (tgt := 62) hx hb d_Mo_back_41 (by decide) (fun c5 => ?_) (fun c5 => ?_)
    · replace h := ip_p c5 h
      obtain rfl := Option.some.inj h
      exact kx _ _ _ hP hD hS (lv_sub hl [] rfl)
    · replace h := ip_n c5 h
      refine lv_aload_n hx hb d_Mo_back_44 rfl (lv_at hl 0 rfl) ?_
      refine va_get (D := (dC, dI)) (ci := 11) (v := .ref h_t_row) (C := R_Mo) (T := F_Mo) (N := 45) hx hb ht in_Mo hown hK hP 0 rfl rfl 2 (by decide) (ht _ k_947) (fun _ h9 => h9) rfl d_Mo_back_45 ?_
      refine lv_iload_n hx hb d_Mo_back_48 rfl (lv_at hl 1 rfl) ?_
      refine lv_aload_n hx hb d_Mo_back_49 rfl (lv_at hl 0 rfl) ?_
      refine va_get (D := (dC, dI)) (ci := 11) (v := .ref h_t_product) (C := R_Mo) (T := F_Mo) (N := 45) hx hb ht in_Mo hown hK hP 0 rfl rfl 4 (by decide) (ht _ k_949) (fun _ h9 => h9) rfl d_Mo_back_50 ?_
      refine lv_iload_n hx hb d_Mo_back_53 rfl (lv_at hl 1 rfl) ?_
      obtain ⟨g6, h⟩ := gd h
      refine va_bald (f := bf f_t_product) hx hb hK hP 1 0 rfl rfl g6 d_Mo_back_54 ?_
      obtain ⟨g7, h⟩ := gd h
      refine va_bast (f := bf f_t_row) hx hb hK hP hD hS 2 0 rfl rfl g7 d_Mo_back_55 (fun H locs hP hD hS => ?_)
      rw [bf_upd] at hP hD
      have hP : va_P (dC, dI) vwCl [(h_t, .inr (11, [.int v_t_code, .int v_t_length, .ref h_t_row, .int v_t_size, .ref h_t_product, .int v_t_tokens, .ref h_t_token, .ref h_t_heads, .ref h_t_before, .ref h_t_counts, .ref h_t_lengths, .ref h_t_fewCounts, .ref h_t_fewLengths, .ref h_t_weights, .ref h_t_parents, .ref h_t_symbols, .ref h_t_numbers, .ref h_t_fewNumbers, .ref h_t_firsts, .ref h_t_line, .int v_t_runs, .ref h_t_run, .ref h_t_rest, .int v_t_wide, .int v_t_deep, .int v_t_few, .ref h_t_ownLengths, .ref h_t_ownFew, .int v_t_kind, .int v_t_bytes, .int v_t_matches, .int v_t_storedBits, .int v_t_fixedBits, .int v_t_ownBits, .int v_t_out, .int v_t_pos, .int v_t_total, .int v_t_fault, .int v_t_place, .int v_t_made, .int v_t_limit, .int v_t_taken, .ref h_t_fresh, .ref h_t_many, .ref h_t_sorted])), (h_t_product, .inl (cB, 66000, .inl (bf f_t_product))), (h_t_row, .inl (cB, 65536, .inl (bf (upd f_t_row x1.toNatClampNeg ((f_t_product x1.toNatClampNeg).toInt8.toInt32)))))] H := hP
      have hD : va_D A [(h_t, .inr (11, [.int v_t_code, .int v_t_length, .ref h_t_row, .int v_t_size, .ref h_t_product, .int v_t_tokens, .ref h_t_token, .ref h_t_heads, .ref h_t_before, .ref h_t_counts, .ref h_t_lengths, .ref h_t_fewCounts, .ref h_t_fewLengths, .ref h_t_weights, .ref h_t_parents, .ref h_t_symbols, .ref h_t_numbers, .ref h_t_fewNumbers, .ref h_t_firsts, .ref h_t_line, .int v_t_runs, .ref h_t_run, .ref h_t_rest, .int v_t_wide, .int v_t_deep, .int v_t_few, .ref h_t_ownLengths, .ref h_t_ownFew, .int v_t_kind, .int v_t_bytes, .int v_t_matches, .int v_t_storedBits, .int v_t_fixedBits, .int v_t_ownBits, .int v_t_out, .int v_t_pos, .int v_t_total, .int v_t_fault, .int v_t_place, .int v_t_made, .int v_t_limit, .int v_t_taken, .ref h_t_fresh, .ref h_t_many, .ref h_t_sorted])), (h_t_product, .inl (cB, 66000, .inl (bf f_t_product))), (h_t_row, .inl (cB, 65536, .inl (bf (upd f_t_row x1.toNatClampNeg ((f_t_product x1.toNatClampNeg).toInt8.toInt32)))))] := hD
      refine lv_iinc (v := x1 + (1 : Int32)) (lv' := [(1, .int (x1 + (1 : Int32))), (0, .ref h_t)]) hx hb d_Mo_back_56 hl (k := 1) rfl rfl (by decide) rfl (fun ls hl => ?_)
      refine lv_goto (tgt := 36) hx hb d_Mo_back_59 (by decide) ?_
      exact ih (x1 + (1 : Int32)) (upd f_t_row x1.toNatClampNeg ((f_t_product x1.toNatClampNeg).toInt8.toInt32)) _ _ _ _ hP hD hS (lv_sub hl [1, 0] rfl) h kx
set_option maxHeartbeats 4000000 in
set_option maxRecDepth 100000 in
theorem cMo_back (l : Launch) (dC : Nat → ClassId) (dI : Nat → Nat → Nat) (h_t h_t_row h_t_product h_t_token h_t_heads h_t_before h_t_counts h_t_lengths h_t_fewCounts h_t_fewLengths h_t_weights h_t_parents h_t_symbols h_t_numbers h_t_fewNumbers h_t_firsts h_t_line h_t_run h_t_rest h_t_ownLengths h_t_ownFew h_t_fresh h_t_many h_t_sorted : Nat) (cB cI cJ : ClassId) (sz : Nat) (N : Nat) (v_t_code : Int32) (v_t_length : Int32) (v_t_size : Int32) (v_t_tokens : Int32) (v_t_runs : Int32) (v_t_wide : Int32) (v_t_deep : Int32) (v_t_few : Int32) (v_t_kind : Int32) (v_t_bytes : Int32) (v_t_matches : Int32) (v_t_storedBits : Int32) (v_t_fixedBits : Int32) (v_t_ownBits : Int32) (v_t_out : Int32) (v_t_pos : Int32) (v_t_total : Int32) (v_t_fault : Int32) (v_t_place : Int32) (v_t_made : Int32) (v_t_limit : Int32) (v_t_taken : Int32) (f_t_product : Nat → Int32) (f_t_row : Nat → Int32) (o : Int32 × Int32 × (Nat → Int32)) (h : fMo_back N v_t_length v_t_size f_t_product f_t_row = some o) : Met l y_Mo_back w_Mo_back ({ frames := 0, cells := 0, slots := 0, locals := 0 } : Room) (va_Pc [.ref h_t] (fun U => U.heap.size = sz ∧ va_P (dC, dI) vwCl [(h_t, .inr (11, [.int v_t_code, .int v_t_length, .ref h_t_row, .int v_t_size, .ref h_t_product, .int v_t_tokens, .ref h_t_token, .ref h_t_heads, .ref h_t_before, .ref h_t_counts, .ref h_t_lengths, .ref h_t_fewCounts, .ref h_t_fewLengths, .ref h_t_weights, .ref h_t_parents, .ref h_t_symbols, .ref h_t_numbers, .ref h_t_fewNumbers, .ref h_t_firsts, .ref h_t_line, .int v_t_runs, .ref h_t_run, .ref h_t_rest, .int v_t_wide, .int v_t_deep, .int v_t_few, .ref h_t_ownLengths, .ref h_t_ownFew, .int v_t_kind, .int v_t_bytes, .int v_t_matches, .int v_t_storedBits, .int v_t_fixedBits, .int v_t_ownBits, .int v_t_out, .int v_t_pos, .int v_t_total, .int v_t_fault, .int v_t_place, .int v_t_made, .int v_t_limit, .int v_t_taken, .ref h_t_fresh, .ref h_t_many, .ref h_t_sorted])), (h_t_product, .inl (cB, 66000, .inl (bf f_t_product))), (h_t_row, .inl (cB, 65536, .inl (bf f_t_row)))] U.heap ∧ va_K (dC, dI) vwCl [(cB, .byte), (cI, .int), (cJ, .long)] U ∧ va_D (fun _ => True) [(h_t, .inr (11, [.int v_t_code, .int v_t_length, .ref h_t_row, .int v_t_size, .ref h_t_product, .int v_t_tokens, .ref h_t_token, .ref h_t_heads, .ref h_t_before, .ref h_t_counts, .ref h_t_lengths, .ref h_t_fewCounts, .ref h_t_fewLengths, .ref h_t_weights, .ref h_t_parents, .ref h_t_symbols, .ref h_t_numbers, .ref h_t_fewNumbers, .ref h_t_firsts, .ref h_t_line, .int v_t_runs, .ref h_t_run, .ref h_t_rest, .int v_t_wide, .int v_t_deep, .int v_t_few, .ref h_t_ownLengths, .ref h_t_ownFew, .int v_t_kind, .int v_t_bytes, .int v_t_matches, .int v_t_storedBits, .int v_t_fixedBits, .int v_t_ownBits, .int v_t_out, .int v_t_pos, .int v_t_total, .int v_t_fault, .int v_t_place, .int v_t_made, .int v_t_limit, .int v_t_taken, .ref h_t_fresh, .ref h_t_many, .ref h_t_sorted])), (h_t_product, .inl (cB, 66000, .inl (bf f_t_product))), (h_t_row, .inl (cB, 65536, .inl (bf f_t_row)))] ∧ NW U)) (va_Qv (fun _ : Unit => True) (fun _ t => va_P (dC, dI) vwCl [(h_t, .inr (11, [.int o.1, .int o.2.1, .ref h_t_row, .int v_t_size, .ref h_t_product, .int v_t_tokens, .ref h_t_token, .ref h_t_heads, .ref h_t_before, .ref h_t_counts, .ref h_t_lengths, .ref h_t_fewCounts, .ref h_t_fewLengths, .ref h_t_weights, .ref h_t_parents, .ref h_t_symbols, .ref h_t_numbers, .ref h_t_fewNumbers, .ref h_t_firsts, .ref h_t_line, .int v_t_runs, .ref h_t_run, .ref h_t_rest, .int v_t_wide, .int v_t_deep, .int v_t_few, .ref h_t_ownLengths, .ref h_t_ownFew, .int v_t_kind, .int v_t_bytes, .int v_t_matches, .int v_t_storedBits, .int v_t_fixedBits, .int v_t_ownBits, .int v_t_out, .int v_t_pos, .int v_t_total, .int v_t_fault, .int v_t_place, .int v_t_made, .int v_t_limit, .int v_t_taken, .ref h_t_fresh, .ref h_t_many, .ref h_t_sorted])), (h_t_product, .inl (cB, 66000, .inl (bf f_t_product))), (h_t_row, .inl (cB, 65536, .inl (bf o.2.2)))] t.heap ∧ va_K (dC, dI) vwCl [(cB, .byte), (cI, .int), (cJ, .long)] t ∧ va_D (va_A [(h_t, .inr (11, [.int v_t_code, .int v_t_length, .ref h_t_row, .int v_t_size, .ref h_t_product, .int v_t_tokens, .ref h_t_token, .ref h_t_heads, .ref h_t_before, .ref h_t_counts, .ref h_t_lengths, .ref h_t_fewCounts, .ref h_t_fewLengths, .ref h_t_weights, .ref h_t_parents, .ref h_t_symbols, .ref h_t_numbers, .ref h_t_fewNumbers, .ref h_t_firsts, .ref h_t_line, .int v_t_runs, .ref h_t_run, .ref h_t_rest, .int v_t_wide, .int v_t_deep, .int v_t_few, .ref h_t_ownLengths, .ref h_t_ownFew, .int v_t_kind, .int v_t_bytes, .int v_t_matches, .int v_t_storedBits, .int v_t_fixedBits, .int v_t_ownBits, .int v_t_out, .int v_t_pos, .int v_t_total, .int v_t_fault, .int v_t_place, .int v_t_made, .int v_t_limit, .int v_t_taken, .ref h_t_fresh, .ref h_t_many, .ref h_t_sorted])), (h_t_product, .inl (cB, 66000, .inl (bf f_t_product))), (h_t_row, .inl (cB, 65536, .inl (bf f_t_row)))] sz) [(h_t, .inr (11, [.int o.1, .int o.2.1, .ref h_t_row, .int v_t_size, .ref h_t_product, .int v_t_tokens, .ref h_t_token, .ref h_t_heads, .ref h_t_before, .ref h_t_counts, .ref h_t_lengths, .ref h_t_fewCounts, .ref h_t_fewLengths, .ref h_t_weights, .ref h_t_parents, .ref h_t_symbols, .ref h_t_numbers, .ref h_t_fewNumbers, .ref h_t_firsts, .ref h_t_line, .int v_t_runs, .ref h_t_run, .ref h_t_rest, .int v_t_wide, .int v_t_deep, .int v_t_few, .ref h_t_ownLengths, .ref h_t_ownFew, .int v_t_kind, .int v_t_bytes, .int v_t_matches, .int v_t_storedBits, .int v_t_fixedBits, .int v_t_ownBits, .int v_t_out, .int v_t_pos, .int v_t_total, .int v_t_fault, .int v_t_place, .int v_t_made, .int v_t_limit, .int v_t_taken, .ref h_t_fresh, .ref h_t_many, .ref h_t_sorted])), (h_t_product, .inl (cB, 66000, .inl (bf f_t_product))), (h_t_row, .inl (cB, 65536, .inl (bf o.2.2)))]) (va_A [(h_t, .inr (11, [.int v_t_code, .int v_t_length, .ref h_t_row, .int v_t_size, .ref h_t_product, .int v_t_tokens, .ref h_t_token, .ref h_t_heads, .ref h_t_before, .ref h_t_counts, .ref h_t_lengths, .ref h_t_fewCounts, .ref h_t_fewLengths, .ref h_t_weights, .ref h_t_parents, .ref h_t_symbols, .ref h_t_numbers, .ref h_t_fewNumbers, .ref h_t_firsts, .ref h_t_line, .int v_t_runs, .ref h_t_run, .ref h_t_rest, .int v_t_wide, .int v_t_deep, .int v_t_few, .ref h_t_ownLengths, .ref h_t_ownFew, .int v_t_kind, .int v_t_bytes, .int v_t_matches, .int v_t_storedBits, .int v_t_fixedBits, .int v_t_ownBits, .int v_t_out, .int v_t_pos, .int v_t_total, .int v_t_fault, .int v_t_place, .int v_t_made, .int v_t_limit, .int v_t_taken, .ref h_t_fresh, .ref h_t_many, .ref h_t_sorted])), (h_t_product, .inl (cB, 66000, .inl (bf f_t_product))), (h_t_row, .inl (cB, 65536, .inl (bf f_t_row)))] sz)) 0 0 (va_A [(h_t, .inr (11, [.int v_t_code, .int v_t_length, .ref h_t_row, .int v_t_size, .ref h_t_product, .int v_t_tokens, .ref h_t_token, .ref h_t_heads, .ref h_t_before, .ref h_t_counts, .ref h_t_lengths, .ref h_t_fewCounts, .ref h_t_fewLengths, .ref h_t_weights, .ref h_t_parents, .ref h_t_symbols, .ref h_t_numbers, .ref h_t_fewNumbers, .ref h_t_firsts, .ref h_t_line, .int v_t_runs, .ref h_t_run, .ref h_t_rest, .int v_t_wide, .int v_t_deep, .int v_t_few, .ref h_t_ownLengths, .ref h_t_ownFew, .int v_t_kind, .int v_t_bytes, .int v_t_matches, .int v_t_storedBits, .int v_t_fixedBits, .int v_t_ownBits, .int v_t_out, .int v_t_pos, .int v_t_total, .int v_t_fault, .int v_t_place, .int v_t_made, .int v_t_limit, .int v_t_taken, .ref h_t_fresh, .ref h_t_many, .ref h_t_sorted])), (h_t_product, .inl (cB, 66000, .inl (bf f_t_product))), (h_t_row, .inl (cB, 65536, .inl (bf f_t_row)))] sz) := by
  refine Met.ofW (cc := b_Mo_back) (maxL := 2) (ret := none) (by decide) rfl ?_
  intro p e s m args below meth c s₁ B hml hv
  obtain ⟨rfl, hsz, hP, hK, hD0, hN⟩ := hv
  have hx := B.exec
  have hb := B.bytes
  have hr := B.returns
  have hts := atoms_spec (ws := w_Mo_back) B.pre
  have ht : ∀ w ∈ TB, w.before ([.ref h_t]).toArray s = true := fun w h => hts w (List.mem_cons_of_mem _ h)
  have hown : s.vm.findClass R_Mo = some m.cls := findClass_of_methodNamed B.named
  have hlocks := B.notSynchronized
  subst hsz
  have hD := hD0.self (sz := s.heap.size)
  generalize hAe : va_A [(h_t, .inr (11, [.int v_t_code, .int v_t_length, .ref h_t_row, .int v_t_size, .ref h_t_product, .int v_t_tokens, .ref h_t_token, .ref h_t_heads, .ref h_t_before, .ref h_t_counts, .ref h_t_lengths, .ref h_t_fewCounts, .ref h_t_fewLengths, .ref h_t_weights, .ref h_t_parents, .ref h_t_symbols, .ref h_t_numbers, .ref h_t_fewNumbers, .ref h_t_firsts, .ref h_t_line, .int v_t_runs, .ref h_t_run, .ref h_t_rest, .int v_t_wide, .int v_t_deep, .int v_t_few, .ref h_t_ownLengths, .ref h_t_ownFew, .int v_t_kind, .int v_t_bytes, .int v_t_matches, .int v_t_storedBits, .int v_t_fixedBits, .int v_t_ownBits, .int v_t_out, .int v_t_pos, .int v_t_total, .int v_t_fault, .int v_t_place, .int v_t_made, .int v_t_limit, .int v_t_taken, .ref h_t_fresh, .ref h_t_many, .ref h_t_sorted])), (h_t_product, .inl (cB, 66000, .inl (bf f_t_product))), (h_t_row, .inl (cB, 65536, .inl (bf f_t_row)))] s.heap.size = A at hD ⊢
  have hA : ∀ q : Nat, s.heap.size ≤ q → A q := fun q h => by rw [← hAe]; exact Or.inr h
  have hS : va_S A s.heap s.heap [] := va_S.rf
  have hP : va_P (dC, dI) vwCl [(h_t, .inr (11, [.int v_t_code, .int v_t_length, .ref h_t_row, .int v_t_size, .ref h_t_product, .int v_t_tokens, .ref h_t_token, .ref h_t_heads, .ref h_t_before, .ref h_t_counts, .ref h_t_lengths, .ref h_t_fewCounts, .ref h_t_fewLengths, .ref h_t_weights, .ref h_t_parents, .ref h_t_symbols, .ref h_t_numbers, .ref h_t_fewNumbers, .ref h_t_firsts, .ref h_t_line, .int v_t_runs, .ref h_t_run, .ref h_t_rest, .int v_t_wide, .int v_t_deep, .int v_t_few, .ref h_t_ownLengths, .ref h_t_ownFew, .int v_t_kind, .int v_t_bytes, .int v_t_matches, .int v_t_storedBits, .int v_t_fixedBits, .int v_t_ownBits, .int v_t_out, .int v_t_pos, .int v_t_total, .int v_t_fault, .int v_t_place, .int v_t_made, .int v_t_limit, .int v_t_taken, .ref h_t_fresh, .ref h_t_many, .ref h_t_sorted])), (h_t_product, .inl (cB, 66000, .inl (bf f_t_product))), (h_t_row, .inl (cB, 65536, .inl (bf f_t_row)))] s.heap := hP
  have C : CX p s m ([.ref h_t]).toArray c b_Mo_back 2 R_Mo A (dC, dI) [(cB, .byte), (cI, .int), (cJ, .long)] := ⟨hx, hb, hml, hown, ht, hA, hK, hN⟩
  have hl := lv_entry ([.ref h_t]) (n := 2) (Nat.le_of_ble_eq_true rfl)
  rw [lg_entry_eq]
  generalize (lg_sl ([.ref h_t]) ++ List.replicate (2 - (lg_sl ([.ref h_t])).length) Slot.unset).toArray = ls at hl ⊢
  have hl : lv_has ls 2 [(0, .ref h_t)] := hl
  refine lv_aload_n hx hb d_Mo_back_0 rfl (lv_at hl 0 rfl) ?_
  refine lv_aload_n hx hb d_Mo_back_1 rfl (lv_at hl 0 rfl) ?_
  refine va_get (D := (dC, dI)) (ci := 11) (v := .int v_t_size) (C := R_Mo) (T := F_Mo) (N := 45) hx hb ht in_Mo hown hK hP 0 rfl rfl 3 (by decide) (ht _ k_948) (fun _ h9 => h9) rfl d_Mo_back_2 ?_
  refine lv_ldc (v := (65536 : Int32)) hx hb hown (ht _ k_942) d_Mo_back_5 ?_
  refine lv_tern (J := 15) (cd := v_t_size ≤ (65536 : Int32)) (a := (0 : Int32)) (b := (1 : Int32)) (rest := [.ref h_t]) (fun k2 k3 => ?_) ?_
  · refine lv_icmp_le (tgt := 14) hx hb d_Mo_back_7 (by decide) (fun c1 => ?_) (fun c1 => ?_)
    · refine lv_iconst (v := (0 : Int32)) hx hb d_Mo_back_14 (by decide) ?_
      exact k2 c1
    · refine lv_iconst (v := (1 : Int32)) hx hb d_Mo_back_10 (by decide) ?_
      refine lv_goto (tgt := 15) hx hb d_Mo_back_11 (by decide) ?_
      exact k3 c1
  refine va_put (D := (dC, dI)) (ci := 11) (v := .int (if v_t_size ≤ (65536 : Int32) then (0 : Int32) else (1 : Int32))) (ty := .int) (C := R_Mo) (T := F_Mo) (N := 45) hx hb ht in_Mo t_Mo t_Mo_ok n_Mo hown hK hP hD hS 0 rfl rfl 0 (by decide) (ht _ k_945) (fun _ h9 => h9) rfl (by decide +kernel) rfl rfl (Nat.le_of_ble_eq_true rfl) d_Mo_back_15 (fun H locs hP hD hS => ?_)
  have hP : va_P (dC, dI) vwCl [(h_t, .inr (11, [.int (if v_t_size ≤ (65536 : Int32) then (0 : Int32) else (1 : Int32)), .int v_t_length, .ref h_t_row, .int v_t_size, .ref h_t_product, .int v_t_tokens, .ref h_t_token, .ref h_t_heads, .ref h_t_before, .ref h_t_counts, .ref h_t_lengths, .ref h_t_fewCounts, .ref h_t_fewLengths, .ref h_t_weights, .ref h_t_parents, .ref h_t_symbols, .ref h_t_numbers, .ref h_t_fewNumbers, .ref h_t_firsts, .ref h_t_line, .int v_t_runs, .ref h_t_run, .ref h_t_rest, .int v_t_wide, .int v_t_deep, .int v_t_few, .ref h_t_ownLengths, .ref h_t_ownFew, .int v_t_kind, .int v_t_bytes, .int v_t_matches, .int v_t_storedBits, .int v_t_fixedBits, .int v_t_ownBits, .int v_t_out, .int v_t_pos, .int v_t_total, .int v_t_fault, .int v_t_place, .int v_t_made, .int v_t_limit, .int v_t_taken, .ref h_t_fresh, .ref h_t_many, .ref h_t_sorted])), (h_t_product, .inl (cB, 66000, .inl (bf f_t_product))), (h_t_row, .inl (cB, 65536, .inl (bf f_t_row)))] H := hP
  have hD : va_D A [(h_t, .inr (11, [.int (if v_t_size ≤ (65536 : Int32) then (0 : Int32) else (1 : Int32)), .int v_t_length, .ref h_t_row, .int v_t_size, .ref h_t_product, .int v_t_tokens, .ref h_t_token, .ref h_t_heads, .ref h_t_before, .ref h_t_counts, .ref h_t_lengths, .ref h_t_fewCounts, .ref h_t_fewLengths, .ref h_t_weights, .ref h_t_parents, .ref h_t_symbols, .ref h_t_numbers, .ref h_t_fewNumbers, .ref h_t_firsts, .ref h_t_line, .int v_t_runs, .ref h_t_run, .ref h_t_rest, .int v_t_wide, .int v_t_deep, .int v_t_few, .ref h_t_ownLengths, .ref h_t_ownFew, .int v_t_kind, .int v_t_bytes, .int v_t_matches, .int v_t_storedBits, .int v_t_fixedBits, .int v_t_ownBits, .int v_t_out, .int v_t_pos, .int v_t_total, .int v_t_fault, .int v_t_place, .int v_t_made, .int v_t_limit, .int v_t_taken, .ref h_t_fresh, .ref h_t_many, .ref h_t_sorted])), (h_t_product, .inl (cB, 66000, .inl (bf f_t_product))), (h_t_row, .inl (cB, 65536, .inl (bf f_t_row)))] := hD
  refine lv_aload_n hx hb d_Mo_back_18 rfl (lv_at hl 0 rfl) ?_
  refine va_get (D := (dC, dI)) (ci := 11) (v := .int (if v_t_size ≤ (65536 : Int32) then (0 : Int32) else (1 : Int32))) (C := R_Mo) (T := F_Mo) (N := 45) hx hb ht in_Mo hown hK hP 0 rfl rfl 0 (by decide) (ht _ k_945) (fun _ h9 => h9) rfl d_Mo_back_19 ?_
  refine lv_if_le (tgt := 26) hx hb d_Mo_back_22 (by decide) (fun c4 => ?_) (fun c4 => ?_)
  · replace h := ip_p c4 h
    refine lv_aload_n hx hb d_Mo_back_26 rfl (lv_at hl 0 rfl) ?_
    refine lv_aload_n hx hb d_Mo_back_27 rfl (lv_at hl 0 rfl) ?_
    refine va_get (D := (dC, dI)) (ci := 11) (v := .int v_t_size) (C := R_Mo) (T := F_Mo) (N := 45) hx hb ht in_Mo hown hK hP 0 rfl rfl 3 (by decide) (ht _ k_948) (fun _ h9 => h9) rfl d_Mo_back_28 ?_
    refine va_put (D := (dC, dI)) (ci := 11) (v := .int v_t_size) (ty := .int) (C := R_Mo) (T := F_Mo) (N := 45) hx hb ht in_Mo t_Mo t_Mo_ok n_Mo hown hK hP hD hS 0 rfl rfl 1 (by decide) (ht _ k_946) (fun _ h9 => h9) rfl (by decide +kernel) rfl rfl (Nat.le_of_ble_eq_true rfl) d_Mo_back_31 (fun H locs hP hD hS => ?_)
    have hP : va_P (dC, dI) vwCl [(h_t, .inr (11, [.int (if v_t_size ≤ (65536 : Int32) then (0 : Int32) else (1 : Int32)), .int v_t_size, .ref h_t_row, .int v_t_size, .ref h_t_product, .int v_t_tokens, .ref h_t_token, .ref h_t_heads, .ref h_t_before, .ref h_t_counts, .ref h_t_lengths, .ref h_t_fewCounts, .ref h_t_fewLengths, .ref h_t_weights, .ref h_t_parents, .ref h_t_symbols, .ref h_t_numbers, .ref h_t_fewNumbers, .ref h_t_firsts, .ref h_t_line, .int v_t_runs, .ref h_t_run, .ref h_t_rest, .int v_t_wide, .int v_t_deep, .int v_t_few, .ref h_t_ownLengths, .ref h_t_ownFew, .int v_t_kind, .int v_t_bytes, .int v_t_matches, .int v_t_storedBits, .int v_t_fixedBits, .int v_t_ownBits, .int v_t_out, .int v_t_pos, .int v_t_total, .int v_t_fault, .int v_t_place, .int v_t_made, .int v_t_limit, .int v_t_taken, .ref h_t_fresh, .ref h_t_many, .ref h_t_sorted])), (h_t_product, .inl (cB, 66000, .inl (bf f_t_product))), (h_t_row, .inl (cB, 65536, .inl (bf f_t_row)))] H := hP
    have hD : va_D A [(h_t, .inr (11, [.int (if v_t_size ≤ (65536 : Int32) then (0 : Int32) else (1 : Int32)), .int v_t_size, .ref h_t_row, .int v_t_size, .ref h_t_product, .int v_t_tokens, .ref h_t_token, .ref h_t_heads, .ref h_t_before, .ref h_t_counts, .ref h_t_lengths, .ref h_t_fewCounts, .ref h_t_fewLengths, .ref h_t_weights, .ref h_t_parents, .ref h_t_symbols, .ref h_t_numbers, .ref h_t_fewNumbers, .ref h_t_firsts, .ref h_t_line, .int v_t_runs, .ref h_t_run, .ref h_t_rest, .int v_t_wide, .int v_t_deep, .int v_t_few, .ref h_t_ownLengths, .ref h_t_ownFew, .int v_t_kind, .int v_t_bytes, .int v_t_matches, .int v_t_storedBits, .int v_t_fixedBits, .int v_t_ownBits, .int v_t_out, .int v_t_pos, .int v_t_total, .int v_t_fault, .int v_t_place, .int v_t_made, .int v_t_limit, .int v_t_taken, .ref h_t_fresh, .ref h_t_many, .ref h_t_sorted])), (h_t_product, .inl (cB, 66000, .inl (bf f_t_product))), (h_t_row, .inl (cB, 65536, .inl (bf f_t_row)))] := hD
    refine lv_iconst (v := (0 : Int32)) hx hb d_Mo_back_34 (by decide) ?_
    refine lv_istore_n (lv' := [(1, .int (0 : Int32)), (0, .ref h_t)]) hx hb d_Mo_back_35 rfl hl (by decide) rfl (fun ls hl => ?_)
    obtain ⟨y8, hy8, h⟩ := bd h
    refine wMo_back_36 h_t h_t_row h_t_product h_t_token h_t_heads h_t_before h_t_counts h_t_lengths h_t_fewCounts h_t_fewLengths h_t_weights h_t_parents h_t_symbols h_t_numbers h_t_fewNumbers h_t_firsts h_t_line h_t_run h_t_rest h_t_ownLengths h_t_ownFew h_t_fresh h_t_many h_t_sorted cB cI cJ N (if v_t_size ≤ (65536 : Int32) then (0 : Int32) else (1 : Int32)) v_t_size v_t_size v_t_tokens v_t_runs v_t_wide v_t_deep v_t_few v_t_kind v_t_bytes v_t_matches v_t_storedBits v_t_fixedBits v_t_ownBits v_t_out v_t_pos v_t_total v_t_fault v_t_place v_t_made v_t_limit v_t_taken f_t_product C N (0 : Int32) f_t_row _ _ _ _ hP hD hS (lv_sub hl [1, 0] rfl) hy8 (fun H locs ls hP hD hS hl => ?_)
    obtain rfl := Option.some.inj h
    exact W.vret hx hb hr (fun t ht hW => ⟨⟨(), rfl, trivial, by rw [ht]; exact hP, va_K.moved hW.alike hK, hD⟩, hS.F ht⟩) hS.2.2 d_Mo_back_62
  · replace h := ip_n c4 h
    obtain rfl := Option.some.inj h
    exact W.vret hx hb hr (fun t ht hW => ⟨⟨(), rfl, trivial, by rw [ht]; exact hP, va_K.moved hW.alike hK, hD⟩, hS.F ht⟩) hS.2.2 d_Mo_back_25
/-! PackedBytesModel.size()I -/
def fMo_size (N : Nat) (v_t_size : Int32) : Option (Int32 × Int32) :=
    some (v_t_size, (0 : Int32))
set_option maxHeartbeats 4000000 in
set_option maxRecDepth 100000 in
theorem cMo_size (l : Launch) (dC : Nat → ClassId) (dI : Nat → Nat → Nat) (h_t h_t_row h_t_product h_t_token h_t_heads h_t_before h_t_counts h_t_lengths h_t_fewCounts h_t_fewLengths h_t_weights h_t_parents h_t_symbols h_t_numbers h_t_fewNumbers h_t_firsts h_t_line h_t_run h_t_rest h_t_ownLengths h_t_ownFew h_t_fresh h_t_many h_t_sorted : Nat) (cB cI cJ : ClassId) (sz : Nat) (N : Nat) (v_t_code : Int32) (v_t_length : Int32) (v_t_size : Int32) (v_t_tokens : Int32) (v_t_runs : Int32) (v_t_wide : Int32) (v_t_deep : Int32) (v_t_few : Int32) (v_t_kind : Int32) (v_t_bytes : Int32) (v_t_matches : Int32) (v_t_storedBits : Int32) (v_t_fixedBits : Int32) (v_t_ownBits : Int32) (v_t_out : Int32) (v_t_pos : Int32) (v_t_total : Int32) (v_t_fault : Int32) (v_t_place : Int32) (v_t_made : Int32) (v_t_limit : Int32) (v_t_taken : Int32) (o : Int32 × Int32) (h : fMo_size N v_t_size = some o) : Met l y_Mo_size w_Mo_size ({ frames := 0, cells := 0, slots := 0, locals := 0 } : Room) (va_Pc [.ref h_t] (fun U => U.heap.size = sz ∧ va_P (dC, dI) vwCl [(h_t, .inr (11, [.int v_t_code, .int v_t_length, .ref h_t_row, .int v_t_size, .ref h_t_product, .int v_t_tokens, .ref h_t_token, .ref h_t_heads, .ref h_t_before, .ref h_t_counts, .ref h_t_lengths, .ref h_t_fewCounts, .ref h_t_fewLengths, .ref h_t_weights, .ref h_t_parents, .ref h_t_symbols, .ref h_t_numbers, .ref h_t_fewNumbers, .ref h_t_firsts, .ref h_t_line, .int v_t_runs, .ref h_t_run, .ref h_t_rest, .int v_t_wide, .int v_t_deep, .int v_t_few, .ref h_t_ownLengths, .ref h_t_ownFew, .int v_t_kind, .int v_t_bytes, .int v_t_matches, .int v_t_storedBits, .int v_t_fixedBits, .int v_t_ownBits, .int v_t_out, .int v_t_pos, .int v_t_total, .int v_t_fault, .int v_t_place, .int v_t_made, .int v_t_limit, .int v_t_taken, .ref h_t_fresh, .ref h_t_many, .ref h_t_sorted]))] U.heap ∧ va_K (dC, dI) vwCl [(cB, .byte), (cI, .int), (cJ, .long)] U ∧ va_D (fun _ => True) [(h_t, .inr (11, [.int v_t_code, .int v_t_length, .ref h_t_row, .int v_t_size, .ref h_t_product, .int v_t_tokens, .ref h_t_token, .ref h_t_heads, .ref h_t_before, .ref h_t_counts, .ref h_t_lengths, .ref h_t_fewCounts, .ref h_t_fewLengths, .ref h_t_weights, .ref h_t_parents, .ref h_t_symbols, .ref h_t_numbers, .ref h_t_fewNumbers, .ref h_t_firsts, .ref h_t_line, .int v_t_runs, .ref h_t_run, .ref h_t_rest, .int v_t_wide, .int v_t_deep, .int v_t_few, .ref h_t_ownLengths, .ref h_t_ownFew, .int v_t_kind, .int v_t_bytes, .int v_t_matches, .int v_t_storedBits, .int v_t_fixedBits, .int v_t_ownBits, .int v_t_out, .int v_t_pos, .int v_t_total, .int v_t_fault, .int v_t_place, .int v_t_made, .int v_t_limit, .int v_t_taken, .ref h_t_fresh, .ref h_t_many, .ref h_t_sorted]))] ∧ NW U)) (va_Qi (fun r (_ : Unit) => r = o.1) (fun _ t => va_P (dC, dI) vwCl [(h_t, .inr (11, [.int o.2, .int v_t_length, .ref h_t_row, .int v_t_size, .ref h_t_product, .int v_t_tokens, .ref h_t_token, .ref h_t_heads, .ref h_t_before, .ref h_t_counts, .ref h_t_lengths, .ref h_t_fewCounts, .ref h_t_fewLengths, .ref h_t_weights, .ref h_t_parents, .ref h_t_symbols, .ref h_t_numbers, .ref h_t_fewNumbers, .ref h_t_firsts, .ref h_t_line, .int v_t_runs, .ref h_t_run, .ref h_t_rest, .int v_t_wide, .int v_t_deep, .int v_t_few, .ref h_t_ownLengths, .ref h_t_ownFew, .int v_t_kind, .int v_t_bytes, .int v_t_matches, .int v_t_storedBits, .int v_t_fixedBits, .int v_t_ownBits, .int v_t_out, .int v_t_pos, .int v_t_total, .int v_t_fault, .int v_t_place, .int v_t_made, .int v_t_limit, .int v_t_taken, .ref h_t_fresh, .ref h_t_many, .ref h_t_sorted]))] t.heap ∧ va_K (dC, dI) vwCl [(cB, .byte), (cI, .int), (cJ, .long)] t ∧ va_D (va_A [(h_t, .inr (11, [.int v_t_code, .int v_t_length, .ref h_t_row, .int v_t_size, .ref h_t_product, .int v_t_tokens, .ref h_t_token, .ref h_t_heads, .ref h_t_before, .ref h_t_counts, .ref h_t_lengths, .ref h_t_fewCounts, .ref h_t_fewLengths, .ref h_t_weights, .ref h_t_parents, .ref h_t_symbols, .ref h_t_numbers, .ref h_t_fewNumbers, .ref h_t_firsts, .ref h_t_line, .int v_t_runs, .ref h_t_run, .ref h_t_rest, .int v_t_wide, .int v_t_deep, .int v_t_few, .ref h_t_ownLengths, .ref h_t_ownFew, .int v_t_kind, .int v_t_bytes, .int v_t_matches, .int v_t_storedBits, .int v_t_fixedBits, .int v_t_ownBits, .int v_t_out, .int v_t_pos, .int v_t_total, .int v_t_fault, .int v_t_place, .int v_t_made, .int v_t_limit, .int v_t_taken, .ref h_t_fresh, .ref h_t_many, .ref h_t_sorted]))] sz) [(h_t, .inr (11, [.int o.2, .int v_t_length, .ref h_t_row, .int v_t_size, .ref h_t_product, .int v_t_tokens, .ref h_t_token, .ref h_t_heads, .ref h_t_before, .ref h_t_counts, .ref h_t_lengths, .ref h_t_fewCounts, .ref h_t_fewLengths, .ref h_t_weights, .ref h_t_parents, .ref h_t_symbols, .ref h_t_numbers, .ref h_t_fewNumbers, .ref h_t_firsts, .ref h_t_line, .int v_t_runs, .ref h_t_run, .ref h_t_rest, .int v_t_wide, .int v_t_deep, .int v_t_few, .ref h_t_ownLengths, .ref h_t_ownFew, .int v_t_kind, .int v_t_bytes, .int v_t_matches, .int v_t_storedBits, .int v_t_fixedBits, .int v_t_ownBits, .int v_t_out, .int v_t_pos, .int v_t_total, .int v_t_fault, .int v_t_place, .int v_t_made, .int v_t_limit, .int v_t_taken, .ref h_t_fresh, .ref h_t_many, .ref h_t_sorted]))]) (va_A [(h_t, .inr (11, [.int v_t_code, .int v_t_length, .ref h_t_row, .int v_t_size, .ref h_t_product, .int v_t_tokens, .ref h_t_token, .ref h_t_heads, .ref h_t_before, .ref h_t_counts, .ref h_t_lengths, .ref h_t_fewCounts, .ref h_t_fewLengths, .ref h_t_weights, .ref h_t_parents, .ref h_t_symbols, .ref h_t_numbers, .ref h_t_fewNumbers, .ref h_t_firsts, .ref h_t_line, .int v_t_runs, .ref h_t_run, .ref h_t_rest, .int v_t_wide, .int v_t_deep, .int v_t_few, .ref h_t_ownLengths, .ref h_t_ownFew, .int v_t_kind, .int v_t_bytes, .int v_t_matches, .int v_t_storedBits, .int v_t_fixedBits, .int v_t_ownBits, .int v_t_out, .int v_t_pos, .int v_t_total, .int v_t_fault, .int v_t_place, .int v_t_made, .int v_t_limit, .int v_t_taken, .ref h_t_fresh, .ref h_t_many, .ref h_t_sorted]))] sz)) 0 0 (va_A [(h_t, .inr (11, [.int v_t_code, .int v_t_length, .ref h_t_row, .int v_t_size, .ref h_t_product, .int v_t_tokens, .ref h_t_token, .ref h_t_heads, .ref h_t_before, .ref h_t_counts, .ref h_t_lengths, .ref h_t_fewCounts, .ref h_t_fewLengths, .ref h_t_weights, .ref h_t_parents, .ref h_t_symbols, .ref h_t_numbers, .ref h_t_fewNumbers, .ref h_t_firsts, .ref h_t_line, .int v_t_runs, .ref h_t_run, .ref h_t_rest, .int v_t_wide, .int v_t_deep, .int v_t_few, .ref h_t_ownLengths, .ref h_t_ownFew, .int v_t_kind, .int v_t_bytes, .int v_t_matches, .int v_t_storedBits, .int v_t_fixedBits, .int v_t_ownBits, .int v_t_out, .int v_t_pos, .int v_t_total, .int v_t_fault, .int v_t_place, .int v_t_made, .int v_t_limit, .int v_t_taken, .ref h_t_fresh, .ref h_t_many, .ref h_t_sorted]))] sz) := by
  refine Met.ofW (cc := b_Mo_size) (maxL := 1) (ret := (some .int)) (by decide) rfl ?_
  intro p e s m args below meth c s₁ B hml hv
  obtain ⟨rfl, hsz, hP, hK, hD0, hN⟩ := hv
  have hx := B.exec
  have hb := B.bytes
  have hr := B.returns
  have hts := atoms_spec (ws := w_Mo_size) B.pre
  have ht : ∀ w ∈ TB, w.before ([.ref h_t]).toArray s = true := fun w h => hts w (List.mem_cons_of_mem _ h)
  have hown : s.vm.findClass R_Mo = some m.cls := findClass_of_methodNamed B.named
  have hlocks := B.notSynchronized
  subst hsz
  have hD := hD0.self (sz := s.heap.size)
  generalize hAe : va_A [(h_t, .inr (11, [.int v_t_code, .int v_t_length, .ref h_t_row, .int v_t_size, .ref h_t_product, .int v_t_tokens, .ref h_t_token, .ref h_t_heads, .ref h_t_before, .ref h_t_counts, .ref h_t_lengths, .ref h_t_fewCounts, .ref h_t_fewLengths, .ref h_t_weights, .ref h_t_parents, .ref h_t_symbols, .ref h_t_numbers, .ref h_t_fewNumbers, .ref h_t_firsts, .ref h_t_line, .int v_t_runs, .ref h_t_run, .ref h_t_rest, .int v_t_wide, .int v_t_deep, .int v_t_few, .ref h_t_ownLengths, .ref h_t_ownFew, .int v_t_kind, .int v_t_bytes, .int v_t_matches, .int v_t_storedBits, .int v_t_fixedBits, .int v_t_ownBits, .int v_t_out, .int v_t_pos, .int v_t_total, .int v_t_fault, .int v_t_place, .int v_t_made, .int v_t_limit, .int v_t_taken, .ref h_t_fresh, .ref h_t_many, .ref h_t_sorted]))] s.heap.size = A at hD ⊢
  have hA : ∀ q : Nat, s.heap.size ≤ q → A q := fun q h => by rw [← hAe]; exact Or.inr h
  have hS : va_S A s.heap s.heap [] := va_S.rf
  have hP : va_P (dC, dI) vwCl [(h_t, .inr (11, [.int v_t_code, .int v_t_length, .ref h_t_row, .int v_t_size, .ref h_t_product, .int v_t_tokens, .ref h_t_token, .ref h_t_heads, .ref h_t_before, .ref h_t_counts, .ref h_t_lengths, .ref h_t_fewCounts, .ref h_t_fewLengths, .ref h_t_weights, .ref h_t_parents, .ref h_t_symbols, .ref h_t_numbers, .ref h_t_fewNumbers, .ref h_t_firsts, .ref h_t_line, .int v_t_runs, .ref h_t_run, .ref h_t_rest, .int v_t_wide, .int v_t_deep, .int v_t_few, .ref h_t_ownLengths, .ref h_t_ownFew, .int v_t_kind, .int v_t_bytes, .int v_t_matches, .int v_t_storedBits, .int v_t_fixedBits, .int v_t_ownBits, .int v_t_out, .int v_t_pos, .int v_t_total, .int v_t_fault, .int v_t_place, .int v_t_made, .int v_t_limit, .int v_t_taken, .ref h_t_fresh, .ref h_t_many, .ref h_t_sorted]))] s.heap := hP
  skip
  have hl := lv_entry ([.ref h_t]) (n := 1) (Nat.le_of_ble_eq_true rfl)
  rw [lg_entry_eq]
  generalize (lg_sl ([.ref h_t]) ++ List.replicate (1 - (lg_sl ([.ref h_t])).length) Slot.unset).toArray = ls at hl ⊢
  have hl : lv_has ls 1 [(0, .ref h_t)] := hl
  refine lv_aload_n hx hb d_Mo_size_0 rfl (lv_at hl 0 rfl) ?_
  refine lv_iconst (v := (0 : Int32)) hx hb d_Mo_size_1 (by decide) ?_
  refine va_put (D := (dC, dI)) (ci := 11) (v := .int (0 : Int32)) (ty := .int) (C := R_Mo) (T := F_Mo) (N := 45) hx hb ht in_Mo t_Mo t_Mo_ok n_Mo hown hK hP hD hS 0 rfl rfl 0 (by decide) (ht _ k_945) (fun _ h9 => h9) rfl (by decide +kernel) rfl rfl (Nat.le_of_ble_eq_true rfl) d_Mo_size_2 (fun H locs hP hD hS => ?_)
  have hP : va_P (dC, dI) vwCl [(h_t, .inr (11, [.int (0 : Int32), .int v_t_length, .ref h_t_row, .int v_t_size, .ref h_t_product, .int v_t_tokens, .ref h_t_token, .ref h_t_heads, .ref h_t_before, .ref h_t_counts, .ref h_t_lengths, .ref h_t_fewCounts, .ref h_t_fewLengths, .ref h_t_weights, .ref h_t_parents, .ref h_t_symbols, .ref h_t_numbers, .ref h_t_fewNumbers, .ref h_t_firsts, .ref h_t_line, .int v_t_runs, .ref h_t_run, .ref h_t_rest, .int v_t_wide, .int v_t_deep, .int v_t_few, .ref h_t_ownLengths, .ref h_t_ownFew, .int v_t_kind, .int v_t_bytes, .int v_t_matches, .int v_t_storedBits, .int v_t_fixedBits, .int v_t_ownBits, .int v_t_out, .int v_t_pos, .int v_t_total, .int v_t_fault, .int v_t_place, .int v_t_made, .int v_t_limit, .int v_t_taken, .ref h_t_fresh, .ref h_t_many, .ref h_t_sorted]))] H := hP
  have hD : va_D A [(h_t, .inr (11, [.int (0 : Int32), .int v_t_length, .ref h_t_row, .int v_t_size, .ref h_t_product, .int v_t_tokens, .ref h_t_token, .ref h_t_heads, .ref h_t_before, .ref h_t_counts, .ref h_t_lengths, .ref h_t_fewCounts, .ref h_t_fewLengths, .ref h_t_weights, .ref h_t_parents, .ref h_t_symbols, .ref h_t_numbers, .ref h_t_fewNumbers, .ref h_t_firsts, .ref h_t_line, .int v_t_runs, .ref h_t_run, .ref h_t_rest, .int v_t_wide, .int v_t_deep, .int v_t_few, .ref h_t_ownLengths, .ref h_t_ownFew, .int v_t_kind, .int v_t_bytes, .int v_t_matches, .int v_t_storedBits, .int v_t_fixedBits, .int v_t_ownBits, .int v_t_out, .int v_t_pos, .int v_t_total, .int v_t_fault, .int v_t_place, .int v_t_made, .int v_t_limit, .int v_t_taken, .ref h_t_fresh, .ref h_t_many, .ref h_t_sorted]))] := hD
  refine lv_aload_n hx hb d_Mo_size_5 rfl (lv_at hl 0 rfl) ?_
  refine va_get (D := (dC, dI)) (ci := 11) (v := .int v_t_size) (C := R_Mo) (T := F_Mo) (N := 45) hx hb ht in_Mo hown hK hP 0 rfl rfl 3 (by decide) (ht _ k_948) (fun _ h9 => h9) rfl d_Mo_size_6 ?_
  obtain rfl := Option.some.inj h
  exact W.iret (v := v_t_size) hx hb hr (fun t ht hW => ⟨⟨_, (), rfl, rfl, by rw [ht]; exact hP, va_K.moved hW.alike hK, hD⟩, hS.F ht⟩) hS.2.2 d_Mo_size_9
/-! PackedBytesModel.byteAt(I)I -/
def fMo_byteAt (N : Nat) (p1 : Int32) (v_t_size : Int32) (f_t_product : Nat → Int32) : Option (Int32 × Int32) :=
    if (if p1 < 0 then (1 : Int32) else (if p1 < v_t_size then (0 : Int32) else (1 : Int32))) ≤ 0 then
      if ¬ (p1 < 0 ∨ 66000 ≤ p1.toNatClampNeg) then
        some (((f_t_product p1.toNatClampNeg).toInt8.toInt32) &&& (255 : Int32), if p1 < 0 then (1 : Int32) else (if p1 < v_t_size then (0 : Int32) else (1 : Int32)))
      else none
    else
      some ((0 : Int32), if p1 < 0 then (1 : Int32) else (if p1 < v_t_size then (0 : Int32) else (1 : Int32)))
set_option maxHeartbeats 4000000 in
set_option maxRecDepth 100000 in
theorem cMo_byteAt (l : Launch) (dC : Nat → ClassId) (dI : Nat → Nat → Nat) (h_t h_t_row h_t_product h_t_token h_t_heads h_t_before h_t_counts h_t_lengths h_t_fewCounts h_t_fewLengths h_t_weights h_t_parents h_t_symbols h_t_numbers h_t_fewNumbers h_t_firsts h_t_line h_t_run h_t_rest h_t_ownLengths h_t_ownFew h_t_fresh h_t_many h_t_sorted : Nat) (cB cI cJ : ClassId) (sz : Nat) (N : Nat) (p1 : Int32) (v_t_code : Int32) (v_t_length : Int32) (v_t_size : Int32) (v_t_tokens : Int32) (v_t_runs : Int32) (v_t_wide : Int32) (v_t_deep : Int32) (v_t_few : Int32) (v_t_kind : Int32) (v_t_bytes : Int32) (v_t_matches : Int32) (v_t_storedBits : Int32) (v_t_fixedBits : Int32) (v_t_ownBits : Int32) (v_t_out : Int32) (v_t_pos : Int32) (v_t_total : Int32) (v_t_fault : Int32) (v_t_place : Int32) (v_t_made : Int32) (v_t_limit : Int32) (v_t_taken : Int32) (f_t_product : Nat → Int32) (o : Int32 × Int32) (h : fMo_byteAt N p1 v_t_size f_t_product = some o) : Met l y_Mo_byteAt w_Mo_byteAt ({ frames := 0, cells := 0, slots := 0, locals := 0 } : Room) (va_Pc [.ref h_t, .int p1] (fun U => U.heap.size = sz ∧ va_P (dC, dI) vwCl [(h_t, .inr (11, [.int v_t_code, .int v_t_length, .ref h_t_row, .int v_t_size, .ref h_t_product, .int v_t_tokens, .ref h_t_token, .ref h_t_heads, .ref h_t_before, .ref h_t_counts, .ref h_t_lengths, .ref h_t_fewCounts, .ref h_t_fewLengths, .ref h_t_weights, .ref h_t_parents, .ref h_t_symbols, .ref h_t_numbers, .ref h_t_fewNumbers, .ref h_t_firsts, .ref h_t_line, .int v_t_runs, .ref h_t_run, .ref h_t_rest, .int v_t_wide, .int v_t_deep, .int v_t_few, .ref h_t_ownLengths, .ref h_t_ownFew, .int v_t_kind, .int v_t_bytes, .int v_t_matches, .int v_t_storedBits, .int v_t_fixedBits, .int v_t_ownBits, .int v_t_out, .int v_t_pos, .int v_t_total, .int v_t_fault, .int v_t_place, .int v_t_made, .int v_t_limit, .int v_t_taken, .ref h_t_fresh, .ref h_t_many, .ref h_t_sorted])), (h_t_product, .inl (cB, 66000, .inl (bf f_t_product)))] U.heap ∧ va_K (dC, dI) vwCl [(cB, .byte), (cI, .int), (cJ, .long)] U ∧ va_D (fun _ => True) [(h_t, .inr (11, [.int v_t_code, .int v_t_length, .ref h_t_row, .int v_t_size, .ref h_t_product, .int v_t_tokens, .ref h_t_token, .ref h_t_heads, .ref h_t_before, .ref h_t_counts, .ref h_t_lengths, .ref h_t_fewCounts, .ref h_t_fewLengths, .ref h_t_weights, .ref h_t_parents, .ref h_t_symbols, .ref h_t_numbers, .ref h_t_fewNumbers, .ref h_t_firsts, .ref h_t_line, .int v_t_runs, .ref h_t_run, .ref h_t_rest, .int v_t_wide, .int v_t_deep, .int v_t_few, .ref h_t_ownLengths, .ref h_t_ownFew, .int v_t_kind, .int v_t_bytes, .int v_t_matches, .int v_t_storedBits, .int v_t_fixedBits, .int v_t_ownBits, .int v_t_out, .int v_t_pos, .int v_t_total, .int v_t_fault, .int v_t_place, .int v_t_made, .int v_t_limit, .int v_t_taken, .ref h_t_fresh, .ref h_t_many, .ref h_t_sorted])), (h_t_product, .inl (cB, 66000, .inl (bf f_t_product)))] ∧ NW U)) (va_Qi (fun r (_ : Unit) => r = o.1) (fun _ t => va_P (dC, dI) vwCl [(h_t, .inr (11, [.int o.2, .int v_t_length, .ref h_t_row, .int v_t_size, .ref h_t_product, .int v_t_tokens, .ref h_t_token, .ref h_t_heads, .ref h_t_before, .ref h_t_counts, .ref h_t_lengths, .ref h_t_fewCounts, .ref h_t_fewLengths, .ref h_t_weights, .ref h_t_parents, .ref h_t_symbols, .ref h_t_numbers, .ref h_t_fewNumbers, .ref h_t_firsts, .ref h_t_line, .int v_t_runs, .ref h_t_run, .ref h_t_rest, .int v_t_wide, .int v_t_deep, .int v_t_few, .ref h_t_ownLengths, .ref h_t_ownFew, .int v_t_kind, .int v_t_bytes, .int v_t_matches, .int v_t_storedBits, .int v_t_fixedBits, .int v_t_ownBits, .int v_t_out, .int v_t_pos, .int v_t_total, .int v_t_fault, .int v_t_place, .int v_t_made, .int v_t_limit, .int v_t_taken, .ref h_t_fresh, .ref h_t_many, .ref h_t_sorted])), (h_t_product, .inl (cB, 66000, .inl (bf f_t_product)))] t.heap ∧ va_K (dC, dI) vwCl [(cB, .byte), (cI, .int), (cJ, .long)] t ∧ va_D (va_A [(h_t, .inr (11, [.int v_t_code, .int v_t_length, .ref h_t_row, .int v_t_size, .ref h_t_product, .int v_t_tokens, .ref h_t_token, .ref h_t_heads, .ref h_t_before, .ref h_t_counts, .ref h_t_lengths, .ref h_t_fewCounts, .ref h_t_fewLengths, .ref h_t_weights, .ref h_t_parents, .ref h_t_symbols, .ref h_t_numbers, .ref h_t_fewNumbers, .ref h_t_firsts, .ref h_t_line, .int v_t_runs, .ref h_t_run, .ref h_t_rest, .int v_t_wide, .int v_t_deep, .int v_t_few, .ref h_t_ownLengths, .ref h_t_ownFew, .int v_t_kind, .int v_t_bytes, .int v_t_matches, .int v_t_storedBits, .int v_t_fixedBits, .int v_t_ownBits, .int v_t_out, .int v_t_pos, .int v_t_total, .int v_t_fault, .int v_t_place, .int v_t_made, .int v_t_limit, .int v_t_taken, .ref h_t_fresh, .ref h_t_many, .ref h_t_sorted])), (h_t_product, .inl (cB, 66000, .inl (bf f_t_product)))] sz) [(h_t, .inr (11, [.int o.2, .int v_t_length, .ref h_t_row, .int v_t_size, .ref h_t_product, .int v_t_tokens, .ref h_t_token, .ref h_t_heads, .ref h_t_before, .ref h_t_counts, .ref h_t_lengths, .ref h_t_fewCounts, .ref h_t_fewLengths, .ref h_t_weights, .ref h_t_parents, .ref h_t_symbols, .ref h_t_numbers, .ref h_t_fewNumbers, .ref h_t_firsts, .ref h_t_line, .int v_t_runs, .ref h_t_run, .ref h_t_rest, .int v_t_wide, .int v_t_deep, .int v_t_few, .ref h_t_ownLengths, .ref h_t_ownFew, .int v_t_kind, .int v_t_bytes, .int v_t_matches, .int v_t_storedBits, .int v_t_fixedBits, .int v_t_ownBits, .int v_t_out, .int v_t_pos, .int v_t_total, .int v_t_fault, .int v_t_place, .int v_t_made, .int v_t_limit, .int v_t_taken, .ref h_t_fresh, .ref h_t_many, .ref h_t_sorted])), (h_t_product, .inl (cB, 66000, .inl (bf f_t_product)))]) (va_A [(h_t, .inr (11, [.int v_t_code, .int v_t_length, .ref h_t_row, .int v_t_size, .ref h_t_product, .int v_t_tokens, .ref h_t_token, .ref h_t_heads, .ref h_t_before, .ref h_t_counts, .ref h_t_lengths, .ref h_t_fewCounts, .ref h_t_fewLengths, .ref h_t_weights, .ref h_t_parents, .ref h_t_symbols, .ref h_t_numbers, .ref h_t_fewNumbers, .ref h_t_firsts, .ref h_t_line, .int v_t_runs, .ref h_t_run, .ref h_t_rest, .int v_t_wide, .int v_t_deep, .int v_t_few, .ref h_t_ownLengths, .ref h_t_ownFew, .int v_t_kind, .int v_t_bytes, .int v_t_matches, .int v_t_storedBits, .int v_t_fixedBits, .int v_t_ownBits, .int v_t_out, .int v_t_pos, .int v_t_total, .int v_t_fault, .int v_t_place, .int v_t_made, .int v_t_limit, .int v_t_taken, .ref h_t_fresh, .ref h_t_many, .ref h_t_sorted])), (h_t_product, .inl (cB, 66000, .inl (bf f_t_product)))] sz)) 0 0 (va_A [(h_t, .inr (11, [.int v_t_code, .int v_t_length, .ref h_t_row, .int v_t_size, .ref h_t_product, .int v_t_tokens, .ref h_t_token, .ref h_t_heads, .ref h_t_before, .ref h_t_counts, .ref h_t_lengths, .ref h_t_fewCounts, .ref h_t_fewLengths, .ref h_t_weights, .ref h_t_parents, .ref h_t_symbols, .ref h_t_numbers, .ref h_t_fewNumbers, .ref h_t_firsts, .ref h_t_line, .int v_t_runs, .ref h_t_run, .ref h_t_rest, .int v_t_wide, .int v_t_deep, .int v_t_few, .ref h_t_ownLengths, .ref h_t_ownFew, .int v_t_kind, .int v_t_bytes, .int v_t_matches, .int v_t_storedBits, .int v_t_fixedBits, .int v_t_ownBits, .int v_t_out, .int v_t_pos, .int v_t_total, .int v_t_fault, .int v_t_place, .int v_t_made, .int v_t_limit, .int v_t_taken, .ref h_t_fresh, .ref h_t_many, .ref h_t_sorted])), (h_t_product, .inl (cB, 66000, .inl (bf f_t_product)))] sz) := by
  refine Met.ofW (cc := b_Mo_byteAt) (maxL := 2) (ret := (some .int)) (by decide) rfl ?_
  intro p e s m args below meth c s₁ B hml hv
  obtain ⟨rfl, hsz, hP, hK, hD0, hN⟩ := hv
  have hx := B.exec
  have hb := B.bytes
  have hr := B.returns
  have hts := atoms_spec (ws := w_Mo_byteAt) B.pre
  have ht : ∀ w ∈ TB, w.before ([.ref h_t, .int p1]).toArray s = true := fun w h => hts w (List.mem_cons_of_mem _ h)
  have hown : s.vm.findClass R_Mo = some m.cls := findClass_of_methodNamed B.named
  have hlocks := B.notSynchronized
  subst hsz
  have hD := hD0.self (sz := s.heap.size)
  generalize hAe : va_A [(h_t, .inr (11, [.int v_t_code, .int v_t_length, .ref h_t_row, .int v_t_size, .ref h_t_product, .int v_t_tokens, .ref h_t_token, .ref h_t_heads, .ref h_t_before, .ref h_t_counts, .ref h_t_lengths, .ref h_t_fewCounts, .ref h_t_fewLengths, .ref h_t_weights, .ref h_t_parents, .ref h_t_symbols, .ref h_t_numbers, .ref h_t_fewNumbers, .ref h_t_firsts, .ref h_t_line, .int v_t_runs, .ref h_t_run, .ref h_t_rest, .int v_t_wide, .int v_t_deep, .int v_t_few, .ref h_t_ownLengths, .ref h_t_ownFew, .int v_t_kind, .int v_t_bytes, .int v_t_matches, .int v_t_storedBits, .int v_t_fixedBits, .int v_t_ownBits, .int v_t_out, .int v_t_pos, .int v_t_total, .int v_t_fault, .int v_t_place, .int v_t_made, .int v_t_limit, .int v_t_taken, .ref h_t_fresh, .ref h_t_many, .ref h_t_sorted])), (h_t_product, .inl (cB, 66000, .inl (bf f_t_product)))] s.heap.size = A at hD ⊢
  have hA : ∀ q : Nat, s.heap.size ≤ q → A q := fun q h => by rw [← hAe]; exact Or.inr h
  have hS : va_S A s.heap s.heap [] := va_S.rf
  have hP : va_P (dC, dI) vwCl [(h_t, .inr (11, [.int v_t_code, .int v_t_length, .ref h_t_row, .int v_t_size, .ref h_t_product, .int v_t_tokens, .ref h_t_token, .ref h_t_heads, .ref h_t_before, .ref h_t_counts, .ref h_t_lengths, .ref h_t_fewCounts, .ref h_t_fewLengths, .ref h_t_weights, .ref h_t_parents, .ref h_t_symbols, .ref h_t_numbers, .ref h_t_fewNumbers, .ref h_t_firsts, .ref h_t_line, .int v_t_runs, .ref h_t_run, .ref h_t_rest, .int v_t_wide, .int v_t_deep, .int v_t_few, .ref h_t_ownLengths, .ref h_t_ownFew, .int v_t_kind, .int v_t_bytes, .int v_t_matches, .int v_t_storedBits, .int v_t_fixedBits, .int v_t_ownBits, .int v_t_out, .int v_t_pos, .int v_t_total, .int v_t_fault, .int v_t_place, .int v_t_made, .int v_t_limit, .int v_t_taken, .ref h_t_fresh, .ref h_t_many, .ref h_t_sorted])), (h_t_product, .inl (cB, 66000, .inl (bf f_t_product)))] s.heap := hP
  skip
  have hl := lv_entry ([.ref h_t, .int p1]) (n := 2) (Nat.le_of_ble_eq_true rfl)
  rw [lg_entry_eq]
  generalize (lg_sl ([.ref h_t, .int p1]) ++ List.replicate (2 - (lg_sl ([.ref h_t, .int p1])).length) Slot.unset).toArray = ls at hl ⊢
  have hl : lv_has ls 2 [(0, .ref h_t), (1, .int p1)] := hl
  refine lv_aload_n hx hb d_Mo_byteAt_0 rfl (lv_at hl 0 rfl) ?_
  refine lv_iload_n hx hb d_Mo_byteAt_1 rfl (lv_at hl 1 rfl) ?_
  refine lv_tern (J := 18) (cd := p1 < 0) (a := (1 : Int32)) (b := (if p1 < v_t_size then (0 : Int32) else (1 : Int32))) (rest := [.ref h_t]) (fun k5 k6 => ?_) ?_
  · refine lv_if_lt (tgt := 13) hx hb d_Mo_byteAt_2 (by decide) (fun c1 => ?_) (fun c1 => ?_)
    · refine lv_iconst (v := (1 : Int32)) hx hb d_Mo_byteAt_13 (by decide) ?_
      refine lv_goto (tgt := 18) hx hb d_Mo_byteAt_14 (by decide) ?_
      exact k5 c1
    · refine lv_iload_n hx hb d_Mo_byteAt_5 rfl (lv_at hl 1 rfl) ?_
      refine lv_aload_n hx hb d_Mo_byteAt_6 rfl (lv_at hl 0 rfl) ?_
      refine va_get (D := (dC, dI)) (ci := 11) (v := .int v_t_size) (C := R_Mo) (T := F_Mo) (N := 45) hx hb ht in_Mo hown hK hP 0 rfl rfl 3 (by decide) (ht _ k_948) (fun _ h9 => h9) rfl d_Mo_byteAt_7 ?_
      refine lv_tern (J := 18) (cd := p1 < v_t_size) (a := (0 : Int32)) (b := (1 : Int32)) (rest := [.ref h_t]) (fun k3 k4 => ?_) ?_
      · refine lv_icmp_lt (tgt := 17) hx hb d_Mo_byteAt_10 (by decide) (fun c2 => ?_) (fun c2 => ?_)
        · refine lv_iconst (v := (0 : Int32)) hx hb d_Mo_byteAt_17 (by decide) ?_
          exact k3 c2
        · refine lv_iconst (v := (1 : Int32)) hx hb d_Mo_byteAt_13 (by decide) ?_
          refine lv_goto (tgt := 18) hx hb d_Mo_byteAt_14 (by decide) ?_
          exact k4 c2
      exact k6 c1
  refine va_put (D := (dC, dI)) (ci := 11) (v := .int (if p1 < 0 then (1 : Int32) else (if p1 < v_t_size then (0 : Int32) else (1 : Int32)))) (ty := .int) (C := R_Mo) (T := F_Mo) (N := 45) hx hb ht in_Mo t_Mo t_Mo_ok n_Mo hown hK hP hD hS 0 rfl rfl 0 (by decide) (ht _ k_945) (fun _ h9 => h9) rfl (by decide +kernel) rfl rfl (Nat.le_of_ble_eq_true rfl) d_Mo_byteAt_18 (fun H locs hP hD hS => ?_)
  have hP : va_P (dC, dI) vwCl [(h_t, .inr (11, [.int (if p1 < 0 then (1 : Int32) else (if p1 < v_t_size then (0 : Int32) else (1 : Int32))), .int v_t_length, .ref h_t_row, .int v_t_size, .ref h_t_product, .int v_t_tokens, .ref h_t_token, .ref h_t_heads, .ref h_t_before, .ref h_t_counts, .ref h_t_lengths, .ref h_t_fewCounts, .ref h_t_fewLengths, .ref h_t_weights, .ref h_t_parents, .ref h_t_symbols, .ref h_t_numbers, .ref h_t_fewNumbers, .ref h_t_firsts, .ref h_t_line, .int v_t_runs, .ref h_t_run, .ref h_t_rest, .int v_t_wide, .int v_t_deep, .int v_t_few, .ref h_t_ownLengths, .ref h_t_ownFew, .int v_t_kind, .int v_t_bytes, .int v_t_matches, .int v_t_storedBits, .int v_t_fixedBits, .int v_t_ownBits, .int v_t_out, .int v_t_pos, .int v_t_total, .int v_t_fault, .int v_t_place, .int v_t_made, .int v_t_limit, .int v_t_taken, .ref h_t_fresh, .ref h_t_many, .ref h_t_sorted])), (h_t_product, .inl (cB, 66000, .inl (bf f_t_product)))] H := hP
  have hD : va_D A [(h_t, .inr (11, [.int (if p1 < 0 then (1 : Int32) else (if p1 < v_t_size then (0 : Int32) else (1 : Int32))), .int v_t_length, .ref h_t_row, .int v_t_size, .ref h_t_product, .int v_t_tokens, .ref h_t_token, .ref h_t_heads, .ref h_t_before, .ref h_t_counts, .ref h_t_lengths, .ref h_t_fewCounts, .ref h_t_fewLengths, .ref h_t_weights, .ref h_t_parents, .ref h_t_symbols, .ref h_t_numbers, .ref h_t_fewNumbers, .ref h_t_firsts, .ref h_t_line, .int v_t_runs, .ref h_t_run, .ref h_t_rest, .int v_t_wide, .int v_t_deep, .int v_t_few, .ref h_t_ownLengths, .ref h_t_ownFew, .int v_t_kind, .int v_t_bytes, .int v_t_matches, .int v_t_storedBits, .int v_t_fixedBits, .int v_t_ownBits, .int v_t_out, .int v_t_pos, .int v_t_total, .int v_t_fault, .int v_t_place, .int v_t_made, .int v_t_limit, .int v_t_taken, .ref h_t_fresh, .ref h_t_many, .ref h_t_sorted])), (h_t_product, .inl (cB, 66000, .inl (bf f_t_product)))] := hD
  refine lv_aload_n hx hb d_Mo_byteAt_21 rfl (lv_at hl 0 rfl) ?_
  refine va_get (D := (dC, dI)) (ci := 11) (v := .int (if p1 < 0 then (1 : Int32) else (if p1 < v_t_size then (0 : Int32) else (1 : Int32)))) (C := R_Mo) (T := F_Mo) (N := 45) hx hb ht in_Mo hown hK hP 0 rfl rfl 0 (by decide) (ht _ k_945) (fun _ h9 => h9) rfl d_Mo_byteAt_22 ?_
  refine lv_if_le (tgt := 32) hx hb d_Mo_byteAt_25 (by decide) (fun c7 => ?_) (fun c7 => ?_)
  · replace h := ip_p c7 h
    refine lv_aload_n hx hb d_Mo_byteAt_32 rfl (lv_at hl 0 rfl) ?_
    refine va_get (D := (dC, dI)) (ci := 11) (v := .ref h_t_product) (C := R_Mo) (T := F_Mo) (N := 45) hx hb ht in_Mo hown hK hP 0 rfl rfl 4 (by decide) (ht _ k_949) (fun _ h9 => h9) rfl d_Mo_byteAt_33 ?_
    refine lv_iload_n hx hb d_Mo_byteAt_36 rfl (lv_at hl 1 rfl) ?_
    obtain ⟨g8, h⟩ := gd h
    refine va_bald (f := bf f_t_product) hx hb hK hP 1 0 rfl rfl g8 d_Mo_byteAt_37 ?_
    refine lv_sipush (v := (255 : Int32)) hx hb d_Mo_byteAt_38 (by decide) ?_
    refine lv_iand hx hb d_Mo_byteAt_41 ?_
    obtain rfl := Option.some.inj h
    exact W.iret (v := ((f_t_product p1.toNatClampNeg).toInt8.toInt32) &&& (255 : Int32)) hx hb hr (fun t ht hW => ⟨⟨_, (), rfl, rfl, by rw [ht]; exact hP, va_K.moved hW.alike hK, hD⟩, hS.F ht⟩) hS.2.2 d_Mo_byteAt_42
  · replace h := ip_n c7 h
    refine lv_iconst (v := (0 : Int32)) hx hb d_Mo_byteAt_28 (by decide) ?_
    refine lv_goto (tgt := 42) hx hb d_Mo_byteAt_29 (by decide) ?_
    obtain rfl := Option.some.inj h
    exact W.iret (v := (0 : Int32)) hx hb hr (fun t ht hW => ⟨⟨_, (), rfl, rfl, by rw [ht]; exact hP, va_K.moved hW.alike hK, hD⟩, hS.F ht⟩) hS.2.2 d_Mo_byteAt_42
/-! PackedBytesModel.codeLength(II)I -/
def fMo_codeLength (N : Nat) (p1 : Int32) (p2 : Int32) (f_t_ownFew : Nat → Int32) (f_t_ownLengths : Nat → Int32) : Option (Int32 × Int32) :=
    if (if p1 < 0 then (1 : Int32) else (if (2 : Int32) < p1 then (1 : Int32) else (if p2 < 0 then (1 : Int32) else (if p2 < (if p1 = 0 then (286 : Int32) else (if p1 = (1 : Int32) then (30 : Int32) else (19 : Int32))) then (0 : Int32) else (1 : Int32))))) ≤ 0 then
      if p1 = 0 then
        if ¬ (p2 < 0 ∨ 320 ≤ p2.toNatClampNeg) then
          some (f_t_ownLengths p2.toNatClampNeg, if p1 < 0 then (1 : Int32) else (if (2 : Int32) < p1 then (1 : Int32) else (if p2 < 0 then (1 : Int32) else (if p2 < (if p1 = 0 then (286 : Int32) else (if p1 = (1 : Int32) then (30 : Int32) else (19 : Int32))) then (0 : Int32) else (1 : Int32)))))
        else none
      else
        if p1 = (1 : Int32) then
          if ¬ (((288 : Int32) + p2) < 0 ∨ 320 ≤ ((288 : Int32) + p2).toNatClampNeg) then
            some (f_t_ownLengths ((288 : Int32) + p2).toNatClampNeg, if p1 < 0 then (1 : Int32) else (if (2 : Int32) < p1 then (1 : Int32) else (if p2 < 0 then (1 : Int32) else (if p2 < (if p1 = 0 then (286 : Int32) else (if p1 = (1 : Int32) then (30 : Int32) else (19 : Int32))) then (0 : Int32) else (1 : Int32)))))
          else none
        else
          if ¬ (p2 < 0 ∨ 19 ≤ p2.toNatClampNeg) then
            some (f_t_ownFew p2.toNatClampNeg, if p1 < 0 then (1 : Int32) else (if (2 : Int32) < p1 then (1 : Int32) else (if p2 < 0 then (1 : Int32) else (if p2 < (if p1 = 0 then (286 : Int32) else (if p1 = (1 : Int32) then (30 : Int32) else (19 : Int32))) then (0 : Int32) else (1 : Int32)))))
          else none
    else
      some ((0 : Int32), if p1 < 0 then (1 : Int32) else (if (2 : Int32) < p1 then (1 : Int32) else (if p2 < 0 then (1 : Int32) else (if p2 < (if p1 = 0 then (286 : Int32) else (if p1 = (1 : Int32) then (30 : Int32) else (19 : Int32))) then (0 : Int32) else (1 : Int32)))))
set_option maxHeartbeats 4000000 in
set_option maxRecDepth 100000 in
theorem cMo_codeLength (l : Launch) (dC : Nat → ClassId) (dI : Nat → Nat → Nat) (h_t h_t_row h_t_product h_t_token h_t_heads h_t_before h_t_counts h_t_lengths h_t_fewCounts h_t_fewLengths h_t_weights h_t_parents h_t_symbols h_t_numbers h_t_fewNumbers h_t_firsts h_t_line h_t_run h_t_rest h_t_ownLengths h_t_ownFew h_t_fresh h_t_many h_t_sorted : Nat) (cB cI cJ : ClassId) (sz : Nat) (N : Nat) (p1 : Int32) (p2 : Int32) (v_t_code : Int32) (v_t_length : Int32) (v_t_size : Int32) (v_t_tokens : Int32) (v_t_runs : Int32) (v_t_wide : Int32) (v_t_deep : Int32) (v_t_few : Int32) (v_t_kind : Int32) (v_t_bytes : Int32) (v_t_matches : Int32) (v_t_storedBits : Int32) (v_t_fixedBits : Int32) (v_t_ownBits : Int32) (v_t_out : Int32) (v_t_pos : Int32) (v_t_total : Int32) (v_t_fault : Int32) (v_t_place : Int32) (v_t_made : Int32) (v_t_limit : Int32) (v_t_taken : Int32) (f_t_ownFew : Nat → Int32) (f_t_ownLengths : Nat → Int32) (o : Int32 × Int32) (h : fMo_codeLength N p1 p2 f_t_ownFew f_t_ownLengths = some o) : Met l y_Mo_codeLength w_Mo_codeLength ({ frames := 0, cells := 0, slots := 0, locals := 0 } : Room) (va_Pc [.ref h_t, .int p1, .int p2] (fun U => U.heap.size = sz ∧ va_P (dC, dI) vwCl [(h_t, .inr (11, [.int v_t_code, .int v_t_length, .ref h_t_row, .int v_t_size, .ref h_t_product, .int v_t_tokens, .ref h_t_token, .ref h_t_heads, .ref h_t_before, .ref h_t_counts, .ref h_t_lengths, .ref h_t_fewCounts, .ref h_t_fewLengths, .ref h_t_weights, .ref h_t_parents, .ref h_t_symbols, .ref h_t_numbers, .ref h_t_fewNumbers, .ref h_t_firsts, .ref h_t_line, .int v_t_runs, .ref h_t_run, .ref h_t_rest, .int v_t_wide, .int v_t_deep, .int v_t_few, .ref h_t_ownLengths, .ref h_t_ownFew, .int v_t_kind, .int v_t_bytes, .int v_t_matches, .int v_t_storedBits, .int v_t_fixedBits, .int v_t_ownBits, .int v_t_out, .int v_t_pos, .int v_t_total, .int v_t_fault, .int v_t_place, .int v_t_made, .int v_t_limit, .int v_t_taken, .ref h_t_fresh, .ref h_t_many, .ref h_t_sorted])), (h_t_ownFew, .inl (cI, 19, .inl f_t_ownFew)), (h_t_ownLengths, .inl (cI, 320, .inl f_t_ownLengths))] U.heap ∧ va_K (dC, dI) vwCl [(cB, .byte), (cI, .int), (cJ, .long)] U ∧ va_D (fun _ => True) [(h_t, .inr (11, [.int v_t_code, .int v_t_length, .ref h_t_row, .int v_t_size, .ref h_t_product, .int v_t_tokens, .ref h_t_token, .ref h_t_heads, .ref h_t_before, .ref h_t_counts, .ref h_t_lengths, .ref h_t_fewCounts, .ref h_t_fewLengths, .ref h_t_weights, .ref h_t_parents, .ref h_t_symbols, .ref h_t_numbers, .ref h_t_fewNumbers, .ref h_t_firsts, .ref h_t_line, .int v_t_runs, .ref h_t_run, .ref h_t_rest, .int v_t_wide, .int v_t_deep, .int v_t_few, .ref h_t_ownLengths, .ref h_t_ownFew, .int v_t_kind, .int v_t_bytes, .int v_t_matches, .int v_t_storedBits, .int v_t_fixedBits, .int v_t_ownBits, .int v_t_out, .int v_t_pos, .int v_t_total, .int v_t_fault, .int v_t_place, .int v_t_made, .int v_t_limit, .int v_t_taken, .ref h_t_fresh, .ref h_t_many, .ref h_t_sorted])), (h_t_ownFew, .inl (cI, 19, .inl f_t_ownFew)), (h_t_ownLengths, .inl (cI, 320, .inl f_t_ownLengths))] ∧ NW U)) (va_Qi (fun r (_ : Unit) => r = o.1) (fun _ t => va_P (dC, dI) vwCl [(h_t, .inr (11, [.int o.2, .int v_t_length, .ref h_t_row, .int v_t_size, .ref h_t_product, .int v_t_tokens, .ref h_t_token, .ref h_t_heads, .ref h_t_before, .ref h_t_counts, .ref h_t_lengths, .ref h_t_fewCounts, .ref h_t_fewLengths, .ref h_t_weights, .ref h_t_parents, .ref h_t_symbols, .ref h_t_numbers, .ref h_t_fewNumbers, .ref h_t_firsts, .ref h_t_line, .int v_t_runs, .ref h_t_run, .ref h_t_rest, .int v_t_wide, .int v_t_deep, .int v_t_few, .ref h_t_ownLengths, .ref h_t_ownFew, .int v_t_kind, .int v_t_bytes, .int v_t_matches, .int v_t_storedBits, .int v_t_fixedBits, .int v_t_ownBits, .int v_t_out, .int v_t_pos, .int v_t_total, .int v_t_fault, .int v_t_place, .int v_t_made, .int v_t_limit, .int v_t_taken, .ref h_t_fresh, .ref h_t_many, .ref h_t_sorted])), (h_t_ownFew, .inl (cI, 19, .inl f_t_ownFew)), (h_t_ownLengths, .inl (cI, 320, .inl f_t_ownLengths))] t.heap ∧ va_K (dC, dI) vwCl [(cB, .byte), (cI, .int), (cJ, .long)] t ∧ va_D (va_A [(h_t, .inr (11, [.int v_t_code, .int v_t_length, .ref h_t_row, .int v_t_size, .ref h_t_product, .int v_t_tokens, .ref h_t_token, .ref h_t_heads, .ref h_t_before, .ref h_t_counts, .ref h_t_lengths, .ref h_t_fewCounts, .ref h_t_fewLengths, .ref h_t_weights, .ref h_t_parents, .ref h_t_symbols, .ref h_t_numbers, .ref h_t_fewNumbers, .ref h_t_firsts, .ref h_t_line, .int v_t_runs, .ref h_t_run, .ref h_t_rest, .int v_t_wide, .int v_t_deep, .int v_t_few, .ref h_t_ownLengths, .ref h_t_ownFew, .int v_t_kind, .int v_t_bytes, .int v_t_matches, .int v_t_storedBits, .int v_t_fixedBits, .int v_t_ownBits, .int v_t_out, .int v_t_pos, .int v_t_total, .int v_t_fault, .int v_t_place, .int v_t_made, .int v_t_limit, .int v_t_taken, .ref h_t_fresh, .ref h_t_many, .ref h_t_sorted])), (h_t_ownFew, .inl (cI, 19, .inl f_t_ownFew)), (h_t_ownLengths, .inl (cI, 320, .inl f_t_ownLengths))] sz) [(h_t, .inr (11, [.int o.2, .int v_t_length, .ref h_t_row, .int v_t_size, .ref h_t_product, .int v_t_tokens, .ref h_t_token, .ref h_t_heads, .ref h_t_before, .ref h_t_counts, .ref h_t_lengths, .ref h_t_fewCounts, .ref h_t_fewLengths, .ref h_t_weights, .ref h_t_parents, .ref h_t_symbols, .ref h_t_numbers, .ref h_t_fewNumbers, .ref h_t_firsts, .ref h_t_line, .int v_t_runs, .ref h_t_run, .ref h_t_rest, .int v_t_wide, .int v_t_deep, .int v_t_few, .ref h_t_ownLengths, .ref h_t_ownFew, .int v_t_kind, .int v_t_bytes, .int v_t_matches, .int v_t_storedBits, .int v_t_fixedBits, .int v_t_ownBits, .int v_t_out, .int v_t_pos, .int v_t_total, .int v_t_fault, .int v_t_place, .int v_t_made, .int v_t_limit, .int v_t_taken, .ref h_t_fresh, .ref h_t_many, .ref h_t_sorted])), (h_t_ownFew, .inl (cI, 19, .inl f_t_ownFew)), (h_t_ownLengths, .inl (cI, 320, .inl f_t_ownLengths))]) (va_A [(h_t, .inr (11, [.int v_t_code, .int v_t_length, .ref h_t_row, .int v_t_size, .ref h_t_product, .int v_t_tokens, .ref h_t_token, .ref h_t_heads, .ref h_t_before, .ref h_t_counts, .ref h_t_lengths, .ref h_t_fewCounts, .ref h_t_fewLengths, .ref h_t_weights, .ref h_t_parents, .ref h_t_symbols, .ref h_t_numbers, .ref h_t_fewNumbers, .ref h_t_firsts, .ref h_t_line, .int v_t_runs, .ref h_t_run, .ref h_t_rest, .int v_t_wide, .int v_t_deep, .int v_t_few, .ref h_t_ownLengths, .ref h_t_ownFew, .int v_t_kind, .int v_t_bytes, .int v_t_matches, .int v_t_storedBits, .int v_t_fixedBits, .int v_t_ownBits, .int v_t_out, .int v_t_pos, .int v_t_total, .int v_t_fault, .int v_t_place, .int v_t_made, .int v_t_limit, .int v_t_taken, .ref h_t_fresh, .ref h_t_many, .ref h_t_sorted])), (h_t_ownFew, .inl (cI, 19, .inl f_t_ownFew)), (h_t_ownLengths, .inl (cI, 320, .inl f_t_ownLengths))] sz)) 0 0 (va_A [(h_t, .inr (11, [.int v_t_code, .int v_t_length, .ref h_t_row, .int v_t_size, .ref h_t_product, .int v_t_tokens, .ref h_t_token, .ref h_t_heads, .ref h_t_before, .ref h_t_counts, .ref h_t_lengths, .ref h_t_fewCounts, .ref h_t_fewLengths, .ref h_t_weights, .ref h_t_parents, .ref h_t_symbols, .ref h_t_numbers, .ref h_t_fewNumbers, .ref h_t_firsts, .ref h_t_line, .int v_t_runs, .ref h_t_run, .ref h_t_rest, .int v_t_wide, .int v_t_deep, .int v_t_few, .ref h_t_ownLengths, .ref h_t_ownFew, .int v_t_kind, .int v_t_bytes, .int v_t_matches, .int v_t_storedBits, .int v_t_fixedBits, .int v_t_ownBits, .int v_t_out, .int v_t_pos, .int v_t_total, .int v_t_fault, .int v_t_place, .int v_t_made, .int v_t_limit, .int v_t_taken, .ref h_t_fresh, .ref h_t_many, .ref h_t_sorted])), (h_t_ownFew, .inl (cI, 19, .inl f_t_ownFew)), (h_t_ownLengths, .inl (cI, 320, .inl f_t_ownLengths))] sz) := by
  refine Met.ofW (cc := b_Mo_codeLength) (maxL := 4) (ret := (some .int)) (by decide) rfl ?_
  intro p e s m args below meth c s₁ B hml hv
  obtain ⟨rfl, hsz, hP, hK, hD0, hN⟩ := hv
  have hx := B.exec
  have hb := B.bytes
  have hr := B.returns
  have hts := atoms_spec (ws := w_Mo_codeLength) B.pre
  have ht : ∀ w ∈ TB, w.before ([.ref h_t, .int p1, .int p2]).toArray s = true := fun w h => hts w (List.mem_cons_of_mem _ h)
  have hown : s.vm.findClass R_Mo = some m.cls := findClass_of_methodNamed B.named
  have hlocks := B.notSynchronized
  subst hsz
  have hD := hD0.self (sz := s.heap.size)
  generalize hAe : va_A [(h_t, .inr (11, [.int v_t_code, .int v_t_length, .ref h_t_row, .int v_t_size, .ref h_t_product, .int v_t_tokens, .ref h_t_token, .ref h_t_heads, .ref h_t_before, .ref h_t_counts, .ref h_t_lengths, .ref h_t_fewCounts, .ref h_t_fewLengths, .ref h_t_weights, .ref h_t_parents, .ref h_t_symbols, .ref h_t_numbers, .ref h_t_fewNumbers, .ref h_t_firsts, .ref h_t_line, .int v_t_runs, .ref h_t_run, .ref h_t_rest, .int v_t_wide, .int v_t_deep, .int v_t_few, .ref h_t_ownLengths, .ref h_t_ownFew, .int v_t_kind, .int v_t_bytes, .int v_t_matches, .int v_t_storedBits, .int v_t_fixedBits, .int v_t_ownBits, .int v_t_out, .int v_t_pos, .int v_t_total, .int v_t_fault, .int v_t_place, .int v_t_made, .int v_t_limit, .int v_t_taken, .ref h_t_fresh, .ref h_t_many, .ref h_t_sorted])), (h_t_ownFew, .inl (cI, 19, .inl f_t_ownFew)), (h_t_ownLengths, .inl (cI, 320, .inl f_t_ownLengths))] s.heap.size = A at hD ⊢
  have hA : ∀ q : Nat, s.heap.size ≤ q → A q := fun q h => by rw [← hAe]; exact Or.inr h
  have hS : va_S A s.heap s.heap [] := va_S.rf
  have hP : va_P (dC, dI) vwCl [(h_t, .inr (11, [.int v_t_code, .int v_t_length, .ref h_t_row, .int v_t_size, .ref h_t_product, .int v_t_tokens, .ref h_t_token, .ref h_t_heads, .ref h_t_before, .ref h_t_counts, .ref h_t_lengths, .ref h_t_fewCounts, .ref h_t_fewLengths, .ref h_t_weights, .ref h_t_parents, .ref h_t_symbols, .ref h_t_numbers, .ref h_t_fewNumbers, .ref h_t_firsts, .ref h_t_line, .int v_t_runs, .ref h_t_run, .ref h_t_rest, .int v_t_wide, .int v_t_deep, .int v_t_few, .ref h_t_ownLengths, .ref h_t_ownFew, .int v_t_kind, .int v_t_bytes, .int v_t_matches, .int v_t_storedBits, .int v_t_fixedBits, .int v_t_ownBits, .int v_t_out, .int v_t_pos, .int v_t_total, .int v_t_fault, .int v_t_place, .int v_t_made, .int v_t_limit, .int v_t_taken, .ref h_t_fresh, .ref h_t_many, .ref h_t_sorted])), (h_t_ownFew, .inl (cI, 19, .inl f_t_ownFew)), (h_t_ownLengths, .inl (cI, 320, .inl f_t_ownLengths))] s.heap := hP
  skip
  have hl := lv_entry ([.ref h_t, .int p1, .int p2]) (n := 4) (Nat.le_of_ble_eq_true rfl)
  rw [lg_entry_eq]
  generalize (lg_sl ([.ref h_t, .int p1, .int p2]) ++ List.replicate (4 - (lg_sl ([.ref h_t, .int p1, .int p2])).length) Slot.unset).toArray = ls at hl ⊢
  have hl : lv_has ls 4 [(0, .ref h_t), (1, .int p1), (2, .int p2)] := hl
  refine lv_iload_n hx hb d_Mo_codeLength_0 rfl (lv_at hl 1 rfl) ?_
  refine lv_tern (J := 22) (cd := p1 = 0) (a := (286 : Int32)) (b := (if p1 = (1 : Int32) then (30 : Int32) else (19 : Int32))) (rest := []) (fun k5 k6 => ?_) ?_
  · refine lv_if_ne (tgt := 10) hx hb d_Mo_codeLength_1 (by decide) (fun c1 => ?_) (fun c1 => ?_)
    · refine lv_iload_n hx hb d_Mo_codeLength_10 rfl (lv_at hl 1 rfl) ?_
      refine lv_iconst (v := (1 : Int32)) hx hb d_Mo_codeLength_11 (by decide) ?_
      refine lv_tern (J := 22) (cd := p1 = (1 : Int32)) (a := (30 : Int32)) (b := (19 : Int32)) (rest := []) (fun k3 k4 => ?_) ?_
      · refine lv_icmp_ne (tgt := 20) hx hb d_Mo_codeLength_12 (by decide) (fun c2 => ?_) (fun c2 => ?_)
        · refine lv_bipush (v := (19 : Int32)) hx hb d_Mo_codeLength_20 (by decide) ?_
          exact k4 c2
        · refine lv_bipush (v := (30 : Int32)) hx hb d_Mo_codeLength_15 (by decide) ?_
          refine lv_goto (tgt := 22) hx hb d_Mo_codeLength_17 (by decide) ?_
          exact k3 c2
      exact k6 c1
    · refine lv_sipush (v := (286 : Int32)) hx hb d_Mo_codeLength_4 (by decide) ?_
      refine lv_goto (tgt := 22) hx hb d_Mo_codeLength_7 (by decide) ?_
      exact k5 c1
  refine lv_istore_n (lv' := [(3, .int (if p1 = 0 then (286 : Int32) else (if p1 = (1 : Int32) then (30 : Int32) else (19 : Int32)))), (0, .ref h_t), (1, .int p1), (2, .int p2)]) hx hb d_Mo_codeLength_22 rfl hl (by decide) rfl (fun ls hl => ?_)
  refine lv_aload_n hx hb d_Mo_codeLength_23 rfl (lv_at hl 1 rfl) ?_
  refine lv_iload_n hx hb d_Mo_codeLength_24 rfl (lv_at hl 2 rfl) ?_
  refine lv_tern (J := 47) (cd := p1 < 0) (a := (1 : Int32)) (b := (if (2 : Int32) < p1 then (1 : Int32) else (if p2 < 0 then (1 : Int32) else (if p2 < (if p1 = 0 then (286 : Int32) else (if p1 = (1 : Int32) then (30 : Int32) else (19 : Int32))) then (0 : Int32) else (1 : Int32))))) (rest := [.ref h_t]) (fun k17 k18 => ?_) ?_
  · refine lv_if_lt (tgt := 42) hx hb d_Mo_codeLength_25 (by decide) (fun c7 => ?_) (fun c7 => ?_)
    · refine lv_iconst (v := (1 : Int32)) hx hb d_Mo_codeLength_42 (by decide) ?_
      refine lv_goto (tgt := 47) hx hb d_Mo_codeLength_43 (by decide) ?_
      exact k17 c7
    · refine lv_iload_n hx hb d_Mo_codeLength_28 rfl (lv_at hl 2 rfl) ?_
      refine lv_iconst (v := (2 : Int32)) hx hb d_Mo_codeLength_29 (by decide) ?_
      refine lv_tern (J := 47) (cd := (2 : Int32) < p1) (a := (1 : Int32)) (b := (if p2 < 0 then (1 : Int32) else (if p2 < (if p1 = 0 then (286 : Int32) else (if p1 = (1 : Int32) then (30 : Int32) else (19 : Int32))) then (0 : Int32) else (1 : Int32)))) (rest := [.ref h_t]) (fun k15 k16 => ?_) ?_
      · refine lv_icmp_gt (tgt := 42) hx hb d_Mo_codeLength_30 (by decide) (fun c8 => ?_) (fun c8 => ?_)
        · refine lv_iconst (v := (1 : Int32)) hx hb d_Mo_codeLength_42 (by decide) ?_
          refine lv_goto (tgt := 47) hx hb d_Mo_codeLength_43 (by decide) ?_
          exact k15 c8
        · refine lv_iload_n hx hb d_Mo_codeLength_33 rfl (lv_at hl 3 rfl) ?_
          refine lv_tern (J := 47) (cd := p2 < 0) (a := (1 : Int32)) (b := (if p2 < (if p1 = 0 then (286 : Int32) else (if p1 = (1 : Int32) then (30 : Int32) else (19 : Int32))) then (0 : Int32) else (1 : Int32))) (rest := [.ref h_t]) (fun k13 k14 => ?_) ?_
          · refine lv_if_lt (tgt := 42) hx hb d_Mo_codeLength_34 (by decide) (fun c9 => ?_) (fun c9 => ?_)
            · refine lv_iconst (v := (1 : Int32)) hx hb d_Mo_codeLength_42 (by decide) ?_
              refine lv_goto (tgt := 47) hx hb d_Mo_codeLength_43 (by decide) ?_
              exact k13 c9
            · refine lv_iload_n hx hb d_Mo_codeLength_37 rfl (lv_at hl 3 rfl) ?_
              refine lv_iload_n hx hb d_Mo_codeLength_38 rfl (lv_at hl 0 rfl) ?_
              refine lv_tern (J := 47) (cd := p2 < (if p1 = 0 then (286 : Int32) else (if p1 = (1 : Int32) then (30 : Int32) else (19 : Int32)))) (a := (0 : Int32)) (b := (1 : Int32)) (rest := [.ref h_t]) (fun k11 k12 => ?_) ?_
              · refine lv_icmp_lt (tgt := 46) hx hb d_Mo_codeLength_39 (by decide) (fun c10 => ?_) (fun c10 => ?_)
                · refine lv_iconst (v := (0 : Int32)) hx hb d_Mo_codeLength_46 (by decide) ?_
                  exact k11 c10
                · refine lv_iconst (v := (1 : Int32)) hx hb d_Mo_codeLength_42 (by decide) ?_
                  refine lv_goto (tgt := 47) hx hb d_Mo_codeLength_43 (by decide) ?_
                  exact k12 c10
              exact k14 c9
          exact k16 c8
      exact k18 c7
  refine va_put (D := (dC, dI)) (ci := 11) (v := .int (if p1 < 0 then (1 : Int32) else (if (2 : Int32) < p1 then (1 : Int32) else (if p2 < 0 then (1 : Int32) else (if p2 < (if p1 = 0 then (286 : Int32) else (if p1 = (1 : Int32) then (30 : Int32) else (19 : Int32))) then (0 : Int32) else (1 : Int32)))))) (ty := .int) (C := R_Mo) (T := F_Mo) (N := 45) hx hb ht in_Mo t_Mo t_Mo_ok n_Mo hown hK hP hD hS 0 rfl rfl 0 (by decide) (ht _ k_945) (fun _ h9 => h9) rfl (by decide +kernel) rfl rfl (Nat.le_of_ble_eq_true rfl) d_Mo_codeLength_47 (fun H locs hP hD hS => ?_)
  have hP : va_P (dC, dI) vwCl [(h_t, .inr (11, [.int (if p1 < 0 then (1 : Int32) else (if (2 : Int32) < p1 then (1 : Int32) else (if p2 < 0 then (1 : Int32) else (if p2 < (if p1 = 0 then (286 : Int32) else (if p1 = (1 : Int32) then (30 : Int32) else (19 : Int32))) then (0 : Int32) else (1 : Int32))))), .int v_t_length, .ref h_t_row, .int v_t_size, .ref h_t_product, .int v_t_tokens, .ref h_t_token, .ref h_t_heads, .ref h_t_before, .ref h_t_counts, .ref h_t_lengths, .ref h_t_fewCounts, .ref h_t_fewLengths, .ref h_t_weights, .ref h_t_parents, .ref h_t_symbols, .ref h_t_numbers, .ref h_t_fewNumbers, .ref h_t_firsts, .ref h_t_line, .int v_t_runs, .ref h_t_run, .ref h_t_rest, .int v_t_wide, .int v_t_deep, .int v_t_few, .ref h_t_ownLengths, .ref h_t_ownFew, .int v_t_kind, .int v_t_bytes, .int v_t_matches, .int v_t_storedBits, .int v_t_fixedBits, .int v_t_ownBits, .int v_t_out, .int v_t_pos, .int v_t_total, .int v_t_fault, .int v_t_place, .int v_t_made, .int v_t_limit, .int v_t_taken, .ref h_t_fresh, .ref h_t_many, .ref h_t_sorted])), (h_t_ownFew, .inl (cI, 19, .inl f_t_ownFew)), (h_t_ownLengths, .inl (cI, 320, .inl f_t_ownLengths))] H := hP
  have hD : va_D A [(h_t, .inr (11, [.int (if p1 < 0 then (1 : Int32) else (if (2 : Int32) < p1 then (1 : Int32) else (if p2 < 0 then (1 : Int32) else (if p2 < (if p1 = 0 then (286 : Int32) else (if p1 = (1 : Int32) then (30 : Int32) else (19 : Int32))) then (0 : Int32) else (1 : Int32))))), .int v_t_length, .ref h_t_row, .int v_t_size, .ref h_t_product, .int v_t_tokens, .ref h_t_token, .ref h_t_heads, .ref h_t_before, .ref h_t_counts, .ref h_t_lengths, .ref h_t_fewCounts, .ref h_t_fewLengths, .ref h_t_weights, .ref h_t_parents, .ref h_t_symbols, .ref h_t_numbers, .ref h_t_fewNumbers, .ref h_t_firsts, .ref h_t_line, .int v_t_runs, .ref h_t_run, .ref h_t_rest, .int v_t_wide, .int v_t_deep, .int v_t_few, .ref h_t_ownLengths, .ref h_t_ownFew, .int v_t_kind, .int v_t_bytes, .int v_t_matches, .int v_t_storedBits, .int v_t_fixedBits, .int v_t_ownBits, .int v_t_out, .int v_t_pos, .int v_t_total, .int v_t_fault, .int v_t_place, .int v_t_made, .int v_t_limit, .int v_t_taken, .ref h_t_fresh, .ref h_t_many, .ref h_t_sorted])), (h_t_ownFew, .inl (cI, 19, .inl f_t_ownFew)), (h_t_ownLengths, .inl (cI, 320, .inl f_t_ownLengths))] := hD
  refine lv_aload_n hx hb d_Mo_codeLength_50 rfl (lv_at hl 1 rfl) ?_
  refine va_get (D := (dC, dI)) (ci := 11) (v := .int (if p1 < 0 then (1 : Int32) else (if (2 : Int32) < p1 then (1 : Int32) else (if p2 < 0 then (1 : Int32) else (if p2 < (if p1 = 0 then (286 : Int32) else (if p1 = (1 : Int32) then (30 : Int32) else (19 : Int32))) then (0 : Int32) else (1 : Int32)))))) (C := R_Mo) (T := F_Mo) (N := 45) hx hb ht in_Mo hown hK hP 0 rfl rfl 0 (by decide) (ht _ k_945) (fun _ h9 => h9) rfl d_Mo_codeLength_51 ?_
  refine lv_if_le (tgt := 59) hx hb d_Mo_codeLength_54 (by decide) (fun c19 => ?_) (fun c19 => ?_)
  · replace h := ip_p c19 h
    refine lv_iload_n hx hb d_Mo_codeLength_59 rfl (lv_at hl 2 rfl) ?_
    refine lv_if_ne (tgt := 72) hx hb d_Mo_codeLength_60 (by decide) (fun c20 => ?_) (fun c20 => ?_)
    · replace h := ip_n c20 h
      refine lv_iload_n hx hb d_Mo_codeLength_72 rfl (lv_at hl 2 rfl) ?_
      refine lv_iconst (v := (1 : Int32)) hx hb d_Mo_codeLength_73 (by decide) ?_
      refine lv_icmp_ne (tgt := 90) hx hb d_Mo_codeLength_74 (by decide) (fun c22 => ?_) (fun c22 => ?_)
      · replace h := ip_n c22 h
        refine lv_aload_n hx hb d_Mo_codeLength_90 rfl (lv_at hl 1 rfl) ?_
        refine va_get (D := (dC, dI)) (ci := 11) (v := .ref h_t_ownFew) (C := R_Mo) (T := F_Mo) (N := 45) hx hb ht in_Mo hown hK hP 0 rfl rfl 27 (by decide) (ht _ k_972) (fun _ h9 => h9) rfl d_Mo_codeLength_91 ?_
        refine lv_iload_n hx hb d_Mo_codeLength_94 rfl (lv_at hl 3 rfl) ?_
        obtain ⟨g23, h⟩ := gd h
        refine va_iald hx hb hK hP 1 1 rfl rfl g23 d_Mo_codeLength_95 ?_
        obtain rfl := Option.some.inj h
        exact W.iret (v := f_t_ownFew p2.toNatClampNeg) hx hb hr (fun t ht hW => ⟨⟨_, (), rfl, rfl, by rw [ht]; exact hP, va_K.moved hW.alike hK, hD⟩, hS.F ht⟩) hS.2.2 d_Mo_codeLength_96
      · replace h := ip_p c22 h
        refine lv_aload_n hx hb d_Mo_codeLength_77 rfl (lv_at hl 1 rfl) ?_
        refine va_get (D := (dC, dI)) (ci := 11) (v := .ref h_t_ownLengths) (C := R_Mo) (T := F_Mo) (N := 45) hx hb ht in_Mo hown hK hP 0 rfl rfl 26 (by decide) (ht _ k_971) (fun _ h9 => h9) rfl d_Mo_codeLength_78 ?_
        refine lv_sipush (v := (288 : Int32)) hx hb d_Mo_codeLength_81 (by decide) ?_
        refine lv_iload_n hx hb d_Mo_codeLength_84 rfl (lv_at hl 3 rfl) ?_
        refine lv_iadd hx hb d_Mo_codeLength_85 ?_
        obtain ⟨g24, h⟩ := gd h
        refine va_iald hx hb hK hP 2 1 rfl rfl g24 d_Mo_codeLength_86 ?_
        refine lv_goto (tgt := 96) hx hb d_Mo_codeLength_87 (by decide) ?_
        obtain rfl := Option.some.inj h
        exact W.iret (v := f_t_ownLengths ((288 : Int32) + p2).toNatClampNeg) hx hb hr (fun t ht hW => ⟨⟨_, (), rfl, rfl, by rw [ht]; exact hP, va_K.moved hW.alike hK, hD⟩, hS.F ht⟩) hS.2.2 d_Mo_codeLength_96
    · replace h := ip_p c20 h
      refine lv_aload_n hx hb d_Mo_codeLength_63 rfl (lv_at hl 1 rfl) ?_
      refine va_get (D := (dC, dI)) (ci := 11) (v := .ref h_t_ownLengths) (C := R_Mo) (T := F_Mo) (N := 45) hx hb ht in_Mo hown hK hP 0 rfl rfl 26 (by decide) (ht _ k_971) (fun _ h9 => h9) rfl d_Mo_codeLength_64 ?_
      refine lv_iload_n hx hb d_Mo_codeLength_67 rfl (lv_at hl 3 rfl) ?_
      obtain ⟨g25, h⟩ := gd h
      refine va_iald hx hb hK hP 2 1 rfl rfl g25 d_Mo_codeLength_68 ?_
      refine lv_goto (tgt := 96) hx hb d_Mo_codeLength_69 (by decide) ?_
      obtain rfl := Option.some.inj h
      exact W.iret (v := f_t_ownLengths p2.toNatClampNeg) hx hb hr (fun t ht hW => ⟨⟨_, (), rfl, rfl, by rw [ht]; exact hP, va_K.moved hW.alike hK, hD⟩, hS.F ht⟩) hS.2.2 d_Mo_codeLength_96
  · replace h := ip_n c19 h
    refine lv_iconst (v := (0 : Int32)) hx hb d_Mo_codeLength_57 (by decide) ?_
    obtain rfl := Option.some.inj h
    exact W.iret (v := (0 : Int32)) hx hb hr (fun t ht hW => ⟨⟨_, (), rfl, rfl, by rw [ht]; exact hP, va_K.moved hW.alike hK, hD⟩, hS.F ht⟩) hS.2.2 d_Mo_codeLength_58
