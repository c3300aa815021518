theorem dX3_fillGreatest_115 : decode cX3_fillGreatest 115 = .ok (.iadd, 1) := by decide +kernel
theorem dX3_fillGreatest_116 : decode cX3_fillGreatest 116 = .ok (.aload_n 0, 1) := by decide +kernel
theorem dX3_fillGreatest_117 : decode cX3_fillGreatest 117 = .ok (.getfield 16, 3) := by decide +kernel
theorem dX3_fillGreatest_120 : decode cX3_fillGreatest 120 = .ok (.iload 5, 2) := by decide +kernel
theorem dX3_fillGreatest_122 : decode cX3_fillGreatest 122 = .ok (.aaload, 1) := by decide +kernel
theorem dX3_fillGreatest_123 : decode cX3_fillGreatest 123 = .ok (.iload 4, 2) := by decide +kernel
theorem dX3_fillGreatest_125 : decode cX3_fillGreatest 125 = .ok (.iaload, 1) := by decide +kernel
theorem dX3_fillGreatest_126 : decode cX3_fillGreatest 126 = .ok (.if_icmp .ge 9, 3) := by decide +kernel
theorem dX3_fillGreatest_129 : decode cX3_fillGreatest 129 = .ok (.iinc 8 (-1), 3) := by decide +kernel
theorem dX3_fillGreatest_132 : decode cX3_fillGreatest 132 = .ok (.goto (-45), 3) := by decide +kernel
theorem dX3_fillGreatest_135 : decode cX3_fillGreatest 135 = .ok (.aload_n 3, 1) := by decide +kernel
theorem dX3_fillGreatest_136 : decode cX3_fillGreatest 136 = .ok (.iload 6, 2) := by decide +kernel
theorem dX3_fillGreatest_138 : decode cX3_fillGreatest 138 = .ok (.iload 8, 2) := by decide +kernel
theorem dX3_fillGreatest_140 : decode cX3_fillGreatest 140 = .ok (.iastore, 1) := by decide +kernel
theorem dX3_fillGreatest_141 : decode cX3_fillGreatest 141 = .ok (.iload 4, 2) := by decide +kernel
theorem dX3_fillGreatest_143 : decode cX3_fillGreatest 143 = .ok (.iload 8, 2) := by decide +kernel
theorem dX3_fillGreatest_145 : decode cX3_fillGreatest 145 = .ok (.iload 7, 2) := by decide +kernel
theorem dX3_fillGreatest_147 : decode cX3_fillGreatest 147 = .ok (.imul, 1) := by decide +kernel
theorem dX3_fillGreatest_148 : decode cX3_fillGreatest 148 = .ok (.isub, 1) := by decide +kernel
theorem dX3_fillGreatest_149 : decode cX3_fillGreatest 149 = .ok (.istore 4, 2) := by decide +kernel
theorem dX3_fillGreatest_151 : decode cX3_fillGreatest 151 = .ok (.iinc 5 1, 3) := by decide +kernel
theorem dX3_fillGreatest_154 : decode cX3_fillGreatest 154 = .ok (.goto (-113), 3) := by decide +kernel
theorem dX3_fillGreatest_157 : decode cX3_fillGreatest 157 = .ok (.return_, 1) := by decide +kernel
theorem dX4_init_0 : decode cX4_init 0 = .ok (.aload_n 0, 1) := by decide +kernel
theorem dX4_init_1 : decode cX4_init 1 = .ok (.invokespecial 3, 3) := by decide +kernel
theorem dX4_init_4 : decode cX4_init 4 = .ok (.aload_n 0, 1) := by decide +kernel
theorem dX4_init_5 : decode cX4_init 5 = .ok (.bipush 24, 2) := by decide +kernel
theorem dX4_init_7 : decode cX4_init 7 = .ok (.newarray .int, 2) := by decide +kernel
theorem dX4_init_9 : decode cX4_init 9 = .ok (.putfield 9, 3) := by decide +kernel
theorem dX4_init_12 : decode cX4_init 12 = .ok (.aload_n 0, 1) := by decide +kernel
theorem dX4_init_13 : decode cX4_init 13 = .ok (.sipush 144, 3) := by decide +kernel
theorem dX4_init_16 : decode cX4_init 16 = .ok (.newarray .int, 2) := by decide +kernel
theorem dX4_init_18 : decode cX4_init 18 = .ok (.putfield 15, 3) := by decide +kernel
theorem dX4_init_21 : decode cX4_init 21 = .ok (.aload_n 0, 1) := by decide +kernel
theorem dX4_init_22 : decode cX4_init 22 = .ok (.iconst 0, 1) := by decide +kernel
theorem dX4_init_23 : decode cX4_init 23 = .ok (.putfield 18, 3) := by decide +kernel
theorem dX4_init_26 : decode cX4_init 26 = .ok (.aload_n 0, 1) := by decide +kernel
theorem dX4_init_27 : decode cX4_init 27 = .ok (.iconst 0, 1) := by decide +kernel
theorem dX4_init_28 : decode cX4_init 28 = .ok (.putfield 22, 3) := by decide +kernel
theorem dX4_init_31 : decode cX4_init 31 = .ok (.aload_n 0, 1) := by decide +kernel
theorem dX4_init_32 : decode cX4_init 32 = .ok (.bipush 24, 2) := by decide +kernel
theorem dX4_init_34 : decode cX4_init 34 = .ok (.newarray .int, 2) := by decide +kernel
theorem dX4_init_36 : decode cX4_init 36 = .ok (.putfield 25, 3) := by decide +kernel
theorem dX4_init_39 : decode cX4_init 39 = .ok (.return_, 1) := by decide +kernel
theorem dX4_choose_0 : decode cX4_choose 0 = .ok (.iload_n 3, 1) := by decide +kernel
theorem dX4_choose_1 : decode cX4_choose 1 = .ok (.ifCond .ne 13, 3) := by decide +kernel
theorem dX4_choose_4 : decode cX4_choose 4 = .ok (.iload_n 1, 1) := by decide +kernel
theorem dX4_choose_5 : decode cX4_choose 5 = .ok (.iconst 1, 1) := by decide +kernel
theorem dX4_choose_6 : decode cX4_choose 6 = .ok (.isub, 1) := by decide +kernel
theorem dX4_choose_7 : decode cX4_choose 7 = .ok (.iconst 0, 1) := by decide +kernel
theorem dX4_choose_8 : decode cX4_choose 8 = .ok (.invokestatic 28, 3) := by decide +kernel
theorem dX4_choose_11 : decode cX4_choose 11 = .ok (.goto 4, 3) := by decide +kernel
theorem dX4_choose_14 : decode cX4_choose 14 = .ok (.iconst 0, 1) := by decide +kernel
theorem dX4_choose_15 : decode cX4_choose 15 = .ok (.istore 4, 2) := by decide +kernel
theorem dX4_choose_17 : decode cX4_choose 17 = .ok (.iconst (-1), 1) := by decide +kernel
theorem dX4_choose_18 : decode cX4_choose 18 = .ok (.istore 5, 2) := by decide +kernel
theorem dX4_choose_20 : decode cX4_choose 20 = .ok (.iload 4, 2) := by decide +kernel
theorem dX4_choose_22 : decode cX4_choose 22 = .ok (.istore 6, 2) := by decide +kernel
theorem dX4_choose_24 : decode cX4_choose 24 = .ok (.iload 6, 2) := by decide +kernel
theorem dX4_choose_26 : decode cX4_choose 26 = .ok (.iload_n 1, 1) := by decide +kernel
theorem dX4_choose_27 : decode cX4_choose 27 = .ok (.if_icmp .ge 56, 3) := by decide +kernel
theorem dX4_choose_30 : decode cX4_choose 30 = .ok (.iload 6, 2) := by decide +kernel
theorem dX4_choose_32 : decode cX4_choose 32 = .ok (.aload_n 0, 1) := by decide +kernel
theorem dX4_choose_33 : decode cX4_choose 33 = .ok (.arraylength, 1) := by decide +kernel
theorem dX4_choose_34 : decode cX4_choose 34 = .ok (.if_icmp .ge 49, 3) := by decide +kernel
theorem dX4_choose_37 : decode cX4_choose 37 = .ok (.aload_n 0, 1) := by decide +kernel
theorem dX4_choose_38 : decode cX4_choose 38 = .ok (.iload 6, 2) := by decide +kernel
theorem dX4_choose_40 : decode cX4_choose 40 = .ok (.iaload, 1) := by decide +kernel
theorem dX4_choose_41 : decode cX4_choose 41 = .ok (.iload_n 2, 1) := by decide +kernel
theorem dX4_choose_42 : decode cX4_choose 42 = .ok (.if_icmp .gt 35, 3) := by decide +kernel
theorem dX4_choose_45 : decode cX4_choose 45 = .ok (.iload 5, 2) := by decide +kernel
theorem dX4_choose_47 : decode cX4_choose 47 = .ok (.ifCond .lt 18, 3) := by decide +kernel
theorem dX4_choose_50 : decode cX4_choose 50 = .ok (.aload_n 0, 1) := by decide +kernel
theorem dX4_choose_51 : decode cX4_choose 51 = .ok (.iload 6, 2) := by decide +kernel
theorem dX4_choose_53 : decode cX4_choose 53 = .ok (.iaload, 1) := by decide +kernel
theorem dX4_choose_54 : decode cX4_choose 54 = .ok (.aload_n 0, 1) := by decide +kernel
theorem dX4_choose_55 : decode cX4_choose 55 = .ok (.iload 5, 2) := by decide +kernel
theorem dX4_choose_57 : decode cX4_choose 57 = .ok (.iaload, 1) := by decide +kernel
theorem dX4_choose_58 : decode cX4_choose 58 = .ok (.iload_n 3, 1) := by decide +kernel
theorem dX4_choose_59 : decode cX4_choose 59 = .ok (.invokestatic 34, 3) := by decide +kernel
theorem dX4_choose_62 : decode cX4_choose 62 = .ok (.ifCond .eq 15, 3) := by decide +kernel
theorem dX4_choose_65 : decode cX4_choose 65 = .ok (.iload 6, 2) := by decide +kernel
theorem dX4_choose_67 : decode cX4_choose 67 = .ok (.istore 5, 2) := by decide +kernel
theorem dX4_choose_69 : decode cX4_choose 69 = .ok (.iload_n 3, 1) := by decide +kernel
theorem dX4_choose_70 : decode cX4_choose 70 = .ok (.iconst 2, 1) := by decide +kernel
theorem dX4_choose_71 : decode cX4_choose 71 = .ok (.if_icmp .ge 6, 3) := by decide +kernel
theorem dX4_choose_74 : decode cX4_choose 74 = .ok (.iload 6, 2) := by decide +kernel
theorem dX4_choose_76 : decode cX4_choose 76 = .ok (.ireturn, 1) := by decide +kernel
theorem dX4_choose_77 : decode cX4_choose 77 = .ok (.iinc 6 1, 3) := by decide +kernel
theorem dX4_choose_80 : decode cX4_choose 80 = .ok (.goto (-56), 3) := by decide +kernel
theorem dX4_choose_83 : decode cX4_choose 83 = .ok (.iload 5, 2) := by decide +kernel
theorem dX4_choose_85 : decode cX4_choose 85 = .ok (.ireturn, 1) := by decide +kernel
theorem dX4_isLiked_0 : decode cX4_isLiked 0 = .ok (.iload_n 2, 1) := by decide +kernel
theorem dX4_isLiked_1 : decode cX4_isLiked 1 = .ok (.iconst 2, 1) := by decide +kernel
theorem dX4_isLiked_2 : decode cX4_isLiked 2 = .ok (.if_icmp .ne 8, 3) := by decide +kernel
theorem dX4_isLiked_5 : decode cX4_isLiked 5 = .ok (.iload_n 0, 1) := by decide +kernel
theorem dX4_isLiked_6 : decode cX4_isLiked 6 = .ok (.iload_n 1, 1) := by decide +kernel
theorem dX4_isLiked_7 : decode cX4_isLiked 7 = .ok (.if_icmp .gt 13, 3) := by decide +kernel
theorem dX4_isLiked_10 : decode cX4_isLiked 10 = .ok (.iload_n 2, 1) := by decide +kernel
theorem dX4_isLiked_11 : decode cX4_isLiked 11 = .ok (.iconst 3, 1) := by decide +kernel
theorem dX4_isLiked_12 : decode cX4_isLiked 12 = .ok (.if_icmp .ne 12, 3) := by decide +kernel
theorem dX4_isLiked_15 : decode cX4_isLiked 15 = .ok (.iload_n 0, 1) := by decide +kernel
theorem dX4_isLiked_16 : decode cX4_isLiked 16 = .ok (.iload_n 1, 1) := by decide +kernel
theorem dX4_isLiked_17 : decode cX4_isLiked 17 = .ok (.if_icmp .ge 7, 3) := by decide +kernel
theorem dX4_isLiked_20 : decode cX4_isLiked 20 = .ok (.iconst 1, 1) := by decide +kernel
theorem dX4_isLiked_21 : decode cX4_isLiked 21 = .ok (.goto 4, 3) := by decide +kernel
theorem dX4_isLiked_24 : decode cX4_isLiked 24 = .ok (.iconst 0, 1) := by decide +kernel
theorem dX4_isLiked_25 : decode cX4_isLiked 25 = .ok (.ireturn, 1) := by decide +kernel
theorem dX4_packAll_0 : decode cX4_packAll 0 = .ok (.aload_n 0, 1) := by decide +kernel
theorem dX4_packAll_1 : decode cX4_packAll 1 = .ok (.iconst 0, 1) := by decide +kernel
theorem dX4_packAll_2 : decode cX4_packAll 2 = .ok (.putfield 18, 3) := by decide +kernel
theorem dX4_packAll_5 : decode cX4_packAll 5 = .ok (.aload_n 0, 1) := by decide +kernel
theorem dX4_packAll_6 : decode cX4_packAll 6 = .ok (.iconst 0, 1) := by decide +kernel
theorem dX4_packAll_7 : decode cX4_packAll 7 = .ok (.putfield 22, 3) := by decide +kernel
theorem dX4_packAll_10 : decode cX4_packAll 10 = .ok (.iconst 0, 1) := by decide +kernel
theorem dX4_packAll_11 : decode cX4_packAll 11 = .ok (.istore_n 3, 1) := by decide +kernel
theorem dX4_packAll_12 : decode cX4_packAll 12 = .ok (.iload_n 3, 1) := by decide +kernel
theorem dX4_packAll_13 : decode cX4_packAll 13 = .ok (.aload_n 1, 1) := by decide +kernel
theorem dX4_packAll_14 : decode cX4_packAll 14 = .ok (.getfield 38, 3) := by decide +kernel
theorem dX4_packAll_17 : decode cX4_packAll 17 = .ok (.if_icmp .ge 67, 3) := by decide +kernel
theorem dX4_packAll_20 : decode cX4_packAll 20 = .ok (.iload_n 2, 1) := by decide +kernel
theorem dX4_packAll_21 : decode cX4_packAll 21 = .ok (.iconst 4, 1) := by decide +kernel
theorem dX4_packAll_22 : decode cX4_packAll 22 = .ok (.if_icmp .ge 7, 3) := by decide +kernel
theorem dX4_packAll_25 : decode cX4_packAll 25 = .ok (.iload_n 3, 1) := by decide +kernel
theorem dX4_packAll_26 : decode cX4_packAll 26 = .ok (.goto 9, 3) := by decide +kernel
theorem dX4_packAll_29 : decode cX4_packAll 29 = .ok (.aload_n 1, 1) := by decide +kernel
theorem dX4_packAll_30 : decode cX4_packAll 30 = .ok (.getfield 43, 3) := by decide +kernel
theorem dX4_packAll_33 : decode cX4_packAll 33 = .ok (.iload_n 3, 1) := by decide +kernel
theorem dX4_packAll_34 : decode cX4_packAll 34 = .ok (.iaload, 1) := by decide +kernel
theorem dX4_packAll_35 : decode cX4_packAll 35 = .ok (.istore 4, 2) := by decide +kernel
theorem dX4_packAll_37 : decode cX4_packAll 37 = .ok (.iconst 0, 1) := by decide +kernel
theorem dX4_packAll_38 : decode cX4_packAll 38 = .ok (.istore 5, 2) := by decide +kernel
theorem dX4_packAll_40 : decode cX4_packAll 40 = .ok (.iload 5, 2) := by decide +kernel
theorem dX4_packAll_42 : decode cX4_packAll 42 = .ok (.aload_n 1, 1) := by decide +kernel
theorem dX4_packAll_43 : decode cX4_packAll 43 = .ok (.getfield 46, 3) := by decide +kernel
theorem dX4_packAll_46 : decode cX4_packAll 46 = .ok (.iload 4, 2) := by decide +kernel
theorem dX4_packAll_48 : decode cX4_packAll 48 = .ok (.iaload, 1) := by decide +kernel
theorem dX4_packAll_49 : decode cX4_packAll 49 = .ok (.if_icmp .ge 29, 3) := by decide +kernel
theorem dX4_packAll_52 : decode cX4_packAll 52 = .ok (.aload_n 0, 1) := by decide +kernel
theorem dX4_packAll_53 : decode cX4_packAll 53 = .ok (.iload 4, 2) := by decide +kernel
theorem dX4_packAll_55 : decode cX4_packAll 55 = .ok (.aload_n 1, 1) := by decide +kernel
theorem dX4_packAll_56 : decode cX4_packAll 56 = .ok (.getfield 49, 3) := by decide +kernel
theorem dX4_packAll_59 : decode cX4_packAll 59 = .ok (.iload 4, 2) := by decide +kernel
theorem dX4_packAll_61 : decode cX4_packAll 61 = .ok (.iaload, 1) := by decide +kernel
theorem dX4_packAll_62 : decode cX4_packAll 62 = .ok (.aload_n 1, 1) := by decide +kernel
theorem dX4_packAll_63 : decode cX4_packAll 63 = .ok (.getfield 52, 3) := by decide +kernel
theorem dX4_packAll_66 : decode cX4_packAll 66 = .ok (.iload_n 2, 1) := by decide +kernel
theorem dX4_packAll_67 : decode cX4_packAll 67 = .ok (.iconst 4, 1) := by decide +kernel
theorem dX4_packAll_68 : decode cX4_packAll 68 = .ok (.irem, 1) := by decide +kernel
theorem dX4_packAll_69 : decode cX4_packAll 69 = .ok (.invokevirtual 55, 3) := by decide +kernel
theorem dX4_packAll_72 : decode cX4_packAll 72 = .ok (.iinc 5 1, 3) := by decide +kernel
theorem dX4_packAll_75 : decode cX4_packAll 75 = .ok (.goto (-35), 3) := by decide +kernel
theorem dX4_packAll_78 : decode cX4_packAll 78 = .ok (.iinc 3 1, 3) := by decide +kernel
theorem dX4_packAll_81 : decode cX4_packAll 81 = .ok (.goto (-69), 3) := by decide +kernel
theorem dX4_packAll_84 : decode cX4_packAll 84 = .ok (.aload_n 0, 1) := by decide +kernel
theorem dX4_packAll_85 : decode cX4_packAll 85 = .ok (.getfield 22, 3) := by decide +kernel
theorem dX4_packAll_88 : decode cX4_packAll 88 = .ok (.ireturn, 1) := by decide +kernel
theorem dX4_packOne_0 : decode cX4_packOne 0 = .ok (.aload_n 0, 1) := by decide +kernel
theorem dX4_packOne_1 : decode cX4_packOne 1 = .ok (.getfield 25, 3) := by decide +kernel
theorem dX4_packOne_4 : decode cX4_packOne 4 = .ok (.aload_n 0, 1) := by decide +kernel
theorem dX4_packOne_5 : decode cX4_packOne 5 = .ok (.getfield 22, 3) := by decide +kernel
theorem dX4_packOne_8 : decode cX4_packOne 8 = .ok (.iload_n 3, 1) := by decide +kernel
theorem dX4_packOne_9 : decode cX4_packOne 9 = .ok (.iload_n 2, 1) := by decide +kernel
theorem dX4_packOne_10 : decode cX4_packOne 10 = .ok (.isub, 1) := by decide +kernel
theorem dX4_packOne_11 : decode cX4_packOne 11 = .ok (.iload 4, 2) := by decide +kernel
theorem dX4_packOne_13 : decode cX4_packOne 13 = .ok (.invokestatic 59, 3) := by decide +kernel
theorem dX4_packOne_16 : decode cX4_packOne 16 = .ok (.istore 5, 2) := by decide +kernel
theorem dX4_packOne_18 : decode cX4_packOne 18 = .ok (.iload 5, 2) := by decide +kernel
theorem dX4_packOne_20 : decode cX4_packOne 20 = .ok (.iconst (-1), 1) := by decide +kernel
theorem dX4_packOne_21 : decode cX4_packOne 21 = .ok (.if_icmp .ne 18, 3) := by decide +kernel
theorem dX4_packOne_24 : decode cX4_packOne 24 = .ok (.aload_n 0, 1) := by decide +kernel
theorem dX4_packOne_25 : decode cX4_packOne 25 = .ok (.getfield 22, 3) := by decide +kernel
theorem dX4_packOne_28 : decode cX4_packOne 28 = .ok (.bipush 24, 2) := by decide +kernel
theorem dX4_packOne_30 : decode cX4_packOne 30 = .ok (.if_icmp .ge 9, 3) := by decide +kernel
theorem dX4_packOne_33 : decode cX4_packOne 33 = .ok (.aload_n 0, 1) := by decide +kernel
theorem dX4_packOne_34 : decode cX4_packOne 34 = .ok (.invokevirtual 63, 3) := by decide +kernel
theorem dX4_packOne_37 : decode cX4_packOne 37 = .ok (.istore 5, 2) := by decide +kernel
theorem dX4_packOne_39 : decode cX4_packOne 39 = .ok (.iload 5, 2) := by decide +kernel
theorem dX4_packOne_41 : decode cX4_packOne 41 = .ok (.ifCond .lt 60, 3) := by decide +kernel
theorem dX4_packOne_44 : decode cX4_packOne 44 = .ok (.aload_n 0, 1) := by decide +kernel
theorem dX4_packOne_45 : decode cX4_packOne 45 = .ok (.getfield 18, 3) := by decide +kernel
theorem dX4_packOne_48 : decode cX4_packOne 48 = .ok (.bipush 24, 2) := by decide +kernel
theorem dX4_packOne_50 : decode cX4_packOne 50 = .ok (.if_icmp .ge 51, 3) := by decide +kernel
theorem dX4_packOne_53 : decode cX4_packOne 53 = .ok (.aload_n 0, 1) := by decide +kernel
theorem dX4_packOne_54 : decode cX4_packOne 54 = .ok (.getfield 25, 3) := by decide +kernel
theorem dX4_packOne_57 : decode cX4_packOne 57 = .ok (.iload 5, 2) := by decide +kernel
theorem dX4_packOne_59 : decode cX4_packOne 59 = .ok (.dup2, 1) := by decide +kernel
theorem dX4_packOne_60 : decode cX4_packOne 60 = .ok (.iaload, 1) := by decide +kernel
theorem dX4_packOne_61 : decode cX4_packOne 61 = .ok (.iload_n 2, 1) := by decide +kernel
theorem dX4_packOne_62 : decode cX4_packOne 62 = .ok (.iadd, 1) := by decide +kernel
theorem dX4_packOne_63 : decode cX4_packOne 63 = .ok (.iastore, 1) := by decide +kernel
theorem dX4_packOne_64 : decode cX4_packOne 64 = .ok (.aload_n 0, 1) := by decide +kernel
theorem dX4_packOne_65 : decode cX4_packOne 65 = .ok (.getfield 15, 3) := by decide +kernel
theorem dX4_packOne_68 : decode cX4_packOne 68 = .ok (.iload 5, 2) := by decide +kernel
theorem dX4_packOne_70 : decode cX4_packOne 70 = .ok (.bipush 6, 2) := by decide +kernel
theorem dX4_packOne_72 : decode cX4_packOne 72 = .ok (.imul, 1) := by decide +kernel
theorem dX4_packOne_73 : decode cX4_packOne 73 = .ok (.iload_n 1, 1) := by decide +kernel
theorem dX4_packOne_74 : decode cX4_packOne 74 = .ok (.iadd, 1) := by decide +kernel
theorem dX4_packOne_75 : decode cX4_packOne 75 = .ok (.dup2, 1) := by decide +kernel
theorem dX4_packOne_76 : decode cX4_packOne 76 = .ok (.iaload, 1) := by decide +kernel
theorem dX4_packOne_77 : decode cX4_packOne 77 = .ok (.iconst 1, 1) := by decide +kernel
theorem dX4_packOne_78 : decode cX4_packOne 78 = .ok (.iadd, 1) := by decide +kernel
theorem dX4_packOne_79 : decode cX4_packOne 79 = .ok (.iastore, 1) := by decide +kernel
theorem dX4_packOne_80 : decode cX4_packOne 80 = .ok (.aload_n 0, 1) := by decide +kernel
theorem dX4_packOne_81 : decode cX4_packOne 81 = .ok (.getfield 9, 3) := by decide +kernel
theorem dX4_packOne_84 : decode cX4_packOne 84 = .ok (.aload_n 0, 1) := by decide +kernel
theorem dX4_packOne_85 : decode cX4_packOne 85 = .ok (.getfield 18, 3) := by decide +kernel
theorem dX4_packOne_88 : decode cX4_packOne 88 = .ok (.iload 5, 2) := by decide +kernel
theorem dX4_packOne_90 : decode cX4_packOne 90 = .ok (.iastore, 1) := by decide +kernel
theorem dX4_packOne_91 : decode cX4_packOne 91 = .ok (.aload_n 0, 1) := by decide +kernel
theorem dX4_packOne_92 : decode cX4_packOne 92 = .ok (.dup, 1) := by decide +kernel
theorem dX4_packOne_93 : decode cX4_packOne 93 = .ok (.getfield 18, 3) := by decide +kernel
theorem dX4_packOne_96 : decode cX4_packOne 96 = .ok (.iconst 1, 1) := by decide +kernel
theorem dX4_packOne_97 : decode cX4_packOne 97 = .ok (.iadd, 1) := by decide +kernel
theorem dX4_packOne_98 : decode cX4_packOne 98 = .ok (.putfield 18, 3) := by decide +kernel
theorem dX4_packOne_101 : decode cX4_packOne 101 = .ok (.return_, 1) := by decide +kernel
theorem dX4_openBin_0 : decode cX4_openBin 0 = .ok (.aload_n 0, 1) := by decide +kernel
theorem dX4_openBin_1 : decode cX4_openBin 1 = .ok (.getfield 25, 3) := by decide +kernel
theorem dX4_openBin_4 : decode cX4_openBin 4 = .ok (.aload_n 0, 1) := by decide +kernel
theorem dX4_openBin_5 : decode cX4_openBin 5 = .ok (.getfield 22, 3) := by decide +kernel
theorem dX4_openBin_8 : decode cX4_openBin 8 = .ok (.iconst 0, 1) := by decide +kernel
theorem dX4_openBin_9 : decode cX4_openBin 9 = .ok (.iastore, 1) := by decide +kernel
theorem dX4_openBin_10 : decode cX4_openBin 10 = .ok (.iconst 0, 1) := by decide +kernel
theorem dX4_openBin_11 : decode cX4_openBin 11 = .ok (.istore_n 1, 1) := by decide +kernel
theorem dX4_openBin_12 : decode cX4_openBin 12 = .ok (.iload_n 1, 1) := by decide +kernel
theorem dX4_openBin_13 : decode cX4_openBin 13 = .ok (.bipush 6, 2) := by decide +kernel
theorem dX4_openBin_15 : decode cX4_openBin 15 = .ok (.if_icmp .ge 24, 3) := by decide +kernel
theorem dX4_openBin_18 : decode cX4_openBin 18 = .ok (.aload_n 0, 1) := by decide +kernel
theorem dX4_openBin_19 : decode cX4_openBin 19 = .ok (.getfield 15, 3) := by decide +kernel
theorem dX4_openBin_22 : decode cX4_openBin 22 = .ok (.aload_n 0, 1) := by decide +kernel
theorem dX4_openBin_23 : decode cX4_openBin 23 = .ok (.getfield 22, 3) := by decide +kernel
theorem dX4_openBin_26 : decode cX4_openBin 26 = .ok (.bipush 6, 2) := by decide +kernel
theorem dX4_openBin_28 : decode cX4_openBin 28 = .ok (.imul, 1) := by decide +kernel
theorem dX4_openBin_29 : decode cX4_openBin 29 = .ok (.iload_n 1, 1) := by decide +kernel
theorem dX4_openBin_30 : decode cX4_openBin 30 = .ok (.iadd, 1) := by decide +kernel
theorem dX4_openBin_31 : decode cX4_openBin 31 = .ok (.iconst 0, 1) := by decide +kernel
theorem dX4_openBin_32 : decode cX4_openBin 32 = .ok (.iastore, 1) := by decide +kernel
theorem dX4_openBin_33 : decode cX4_openBin 33 = .ok (.iinc 1 1, 3) := by decide +kernel
theorem dX4_openBin_36 : decode cX4_openBin 36 = .ok (.goto (-24), 3) := by decide +kernel
theorem dX4_openBin_39 : decode cX4_openBin 39 = .ok (.aload_n 0, 1) := by decide +kernel
theorem dX4_openBin_40 : decode cX4_openBin 40 = .ok (.dup, 1) := by decide +kernel
theorem dX4_openBin_41 : decode cX4_openBin 41 = .ok (.getfield 22, 3) := by decide +kernel
theorem dX4_openBin_44 : decode cX4_openBin 44 = .ok (.iconst 1, 1) := by decide +kernel
theorem dX4_openBin_45 : decode cX4_openBin 45 = .ok (.iadd, 1) := by decide +kernel
theorem dX4_openBin_46 : decode cX4_openBin 46 = .ok (.putfield 22, 3) := by decide +kernel
theorem dX4_openBin_49 : decode cX4_openBin 49 = .ok (.aload_n 0, 1) := by decide +kernel
theorem dX4_openBin_50 : decode cX4_openBin 50 = .ok (.getfield 22, 3) := by decide +kernel
theorem dX4_openBin_53 : decode cX4_openBin 53 = .ok (.iconst 1, 1) := by decide +kernel
theorem dX4_openBin_54 : decode cX4_openBin 54 = .ok (.isub, 1) := by decide +kernel
theorem dX4_openBin_55 : decode cX4_openBin 55 = .ok (.ireturn, 1) := by decide +kernel
theorem dX5_begin_0 : decode cX5_begin 0 = .ok (.iconst 0, 1) := by decide +kernel
theorem dX5_begin_1 : decode cX5_begin 1 = .ok (.istore_n 3, 1) := by decide +kernel
theorem dX5_begin_2 : decode cX5_begin 2 = .ok (.iload_n 3, 1) := by decide +kernel
theorem dX5_begin_3 : decode cX5_begin 3 = .ok (.aload_n 2, 1) := by decide +kernel
theorem dX5_begin_4 : decode cX5_begin 4 = .ok (.arraylength, 1) := by decide +kernel
theorem dX5_begin_5 : decode cX5_begin 5 = .ok (.if_icmp .ge 13, 3) := by decide +kernel
theorem dX5_begin_8 : decode cX5_begin 8 = .ok (.aload_n 2, 1) := by decide +kernel
theorem dX5_begin_9 : decode cX5_begin 9 = .ok (.iload_n 3, 1) := by decide +kernel
theorem dX5_begin_10 : decode cX5_begin 10 = .ok (.iconst 0, 1) := by decide +kernel
theorem dX5_begin_11 : decode cX5_begin 11 = .ok (.iastore, 1) := by decide +kernel
theorem dX5_begin_12 : decode cX5_begin 12 = .ok (.iinc 3 1, 3) := by decide +kernel
theorem dX5_begin_15 : decode cX5_begin 15 = .ok (.goto (-13), 3) := by decide +kernel
theorem dX5_begin_18 : decode cX5_begin 18 = .ok (.aload_n 0, 1) := by decide +kernel
theorem dX5_begin_19 : decode cX5_begin 19 = .ok (.aload_n 1, 1) := by decide +kernel
theorem dX5_begin_20 : decode cX5_begin 20 = .ok (.aload_n 2, 1) := by decide +kernel
theorem dX5_begin_21 : decode cX5_begin 21 = .ok (.iconst 0, 1) := by decide +kernel
theorem dX5_begin_22 : decode cX5_begin 22 = .ok (.invokestatic 7, 3) := by decide +kernel
theorem dX5_begin_25 : decode cX5_begin 25 = .ok (.pop, 1) := by decide +kernel
theorem dX5_begin_26 : decode cX5_begin 26 = .ok (.return_, 1) := by decide +kernel
theorem dX5_goOn_0 : decode cX5_goOn 0 = .ok (.iconst 0, 1) := by decide +kernel
theorem dX5_goOn_1 : decode cX5_goOn 1 = .ok (.istore_n 3, 1) := by decide +kernel
theorem dX5_goOn_2 : decode cX5_goOn 2 = .ok (.iload_n 3, 1) := by decide +kernel
theorem dX5_goOn_3 : decode cX5_goOn 3 = .ok (.ldc 13, 2) := by decide +kernel
theorem dX5_goOn_5 : decode cX5_goOn 5 = .ok (.if_icmp .ge 81, 3) := by decide +kernel
theorem dX5_goOn_8 : decode cX5_goOn 8 = .ok (.aload_n 0, 1) := by decide +kernel
theorem dX5_goOn_9 : decode cX5_goOn 9 = .ok (.getfield 14, 3) := by decide +kernel
theorem dX5_goOn_12 : decode cX5_goOn 12 = .ok (.iconst 2, 1) := by decide +kernel
theorem dX5_goOn_13 : decode cX5_goOn 13 = .ok (.isub, 1) := by decide +kernel
theorem dX5_goOn_14 : decode cX5_goOn 14 = .ok (.istore 4, 2) := by decide +kernel
theorem dX5_goOn_16 : decode cX5_goOn 16 = .ok (.iload 4, 2) := by decide +kernel
theorem dX5_goOn_18 : decode cX5_goOn 18 = .ok (.ifCond .lt 21, 3) := by decide +kernel
theorem dX5_goOn_21 : decode cX5_goOn 21 = .ok (.aload_n 2, 1) := by decide +kernel
theorem dX5_goOn_22 : decode cX5_goOn 22 = .ok (.aload_n 0, 1) := by decide +kernel
theorem dX5_goOn_23 : decode cX5_goOn 23 = .ok (.getfield 20, 3) := by decide +kernel
theorem dX5_goOn_26 : decode cX5_goOn 26 = .ok (.iload 4, 2) := by decide +kernel
theorem dX5_goOn_28 : decode cX5_goOn 28 = .ok (.iaload, 1) := by decide +kernel
theorem dX5_goOn_29 : decode cX5_goOn 29 = .ok (.iaload, 1) := by decide +kernel
theorem dX5_goOn_30 : decode cX5_goOn 30 = .ok (.ifCond .ne 9, 3) := by decide +kernel
theorem dX5_goOn_33 : decode cX5_goOn 33 = .ok (.iinc 4 (-1), 3) := by decide +kernel
theorem dX5_goOn_36 : decode cX5_goOn 36 = .ok (.goto (-20), 3) := by decide +kernel
theorem dX5_goOn_39 : decode cX5_goOn 39 = .ok (.iload 4, 2) := by decide +kernel
theorem dX5_goOn_41 : decode cX5_goOn 41 = .ok (.ifCond .ge 5, 3) := by decide +kernel
theorem dX5_goOn_44 : decode cX5_goOn 44 = .ok (.iconst 0, 1) := by decide +kernel
theorem dX5_goOn_45 : decode cX5_goOn 45 = .ok (.ireturn, 1) := by decide +kernel
theorem dX5_goOn_46 : decode cX5_goOn 46 = .ok (.aload_n 2, 1) := by decide +kernel
theorem dX5_goOn_47 : decode cX5_goOn 47 = .ok (.aload_n 0, 1) := by decide +kernel
theorem dX5_goOn_48 : decode cX5_goOn 48 = .ok (.getfield 20, 3) := by decide +kernel
theorem dX5_goOn_51 : decode cX5_goOn 51 = .ok (.iload 4, 2) := by decide +kernel
theorem dX5_goOn_53 : decode cX5_goOn 53 = .ok (.iaload, 1) := by decide +kernel
theorem dX5_goOn_54 : decode cX5_goOn 54 = .ok (.dup2, 1) := by decide +kernel
theorem dX5_goOn_55 : decode cX5_goOn 55 = .ok (.iaload, 1) := by decide +kernel
theorem dX5_goOn_56 : decode cX5_goOn 56 = .ok (.iconst 1, 1) := by decide +kernel
theorem dX5_goOn_57 : decode cX5_goOn 57 = .ok (.isub, 1) := by decide +kernel
theorem dX5_goOn_58 : decode cX5_goOn 58 = .ok (.iastore, 1) := by decide +kernel
theorem dX5_goOn_59 : decode cX5_goOn 59 = .ok (.aload_n 0, 1) := by decide +kernel
theorem dX5_goOn_60 : decode cX5_goOn 60 = .ok (.aload_n 1, 1) := by decide +kernel
theorem dX5_goOn_61 : decode cX5_goOn 61 = .ok (.aload_n 2, 1) := by decide +kernel
theorem dX5_goOn_62 : decode cX5_goOn 62 = .ok (.aload_n 0, 1) := by decide +kernel
theorem dX5_goOn_63 : decode cX5_goOn 63 = .ok (.aload_n 1, 1) := by decide +kernel
theorem dX5_goOn_64 : decode cX5_goOn 64 = .ok (.aload_n 2, 1) := by decide +kernel
theorem dX5_goOn_65 : decode cX5_goOn 65 = .ok (.iload 4, 2) := by decide +kernel
theorem dX5_goOn_67 : decode cX5_goOn 67 = .ok (.iconst 1, 1) := by decide +kernel
theorem dX5_goOn_68 : decode cX5_goOn 68 = .ok (.iadd, 1) := by decide +kernel
theorem dX5_goOn_69 : decode cX5_goOn 69 = .ok (.invokestatic 7, 3) := by decide +kernel
theorem dX5_goOn_72 : decode cX5_goOn 72 = .ok (.invokestatic 24, 3) := by decide +kernel
theorem dX5_goOn_75 : decode cX5_goOn 75 = .ok (.ifCond .eq 5, 3) := by decide +kernel
theorem dX5_goOn_78 : decode cX5_goOn 78 = .ok (.iconst 1, 1) := by decide +kernel
theorem dX5_goOn_79 : decode cX5_goOn 79 = .ok (.ireturn, 1) := by decide +kernel
theorem dX5_goOn_80 : decode cX5_goOn 80 = .ok (.iinc 3 1, 3) := by decide +kernel
theorem dX5_goOn_83 : decode cX5_goOn 83 = .ok (.goto (-81), 3) := by decide +kernel
theorem dX5_goOn_86 : decode cX5_goOn 86 = .ok (.iconst 0, 1) := by decide +kernel
theorem dX5_goOn_87 : decode cX5_goOn 87 = .ok (.ireturn, 1) := by decide +kernel
theorem dX5_fillFrom_0 : decode cX5_fillFrom 0 = .ok (.aload_n 0, 1) := by decide +kernel
theorem dX5_fillFrom_1 : decode cX5_fillFrom 1 = .ok (.getfield 28, 3) := by decide +kernel
theorem dX5_fillFrom_4 : decode cX5_fillFrom 4 = .ok (.istore 4, 2) := by decide +kernel
theorem dX5_fillFrom_6 : decode cX5_fillFrom 6 = .ok (.iconst 0, 1) := by decide +kernel
theorem dX5_fillFrom_7 : decode cX5_fillFrom 7 = .ok (.istore 5, 2) := by decide +kernel
theorem dX5_fillFrom_9 : decode cX5_fillFrom 9 = .ok (.iload 5, 2) := by decide +kernel
theorem dX5_fillFrom_11 : decode cX5_fillFrom 11 = .ok (.aload_n 0, 1) := by decide +kernel
theorem dX5_fillFrom_12 : decode cX5_fillFrom 12 = .ok (.getfield 14, 3) := by decide +kernel
theorem dX5_fillFrom_15 : decode cX5_fillFrom 15 = .ok (.if_icmp .ge 64, 3) := by decide +kernel
theorem dX5_fillFrom_18 : decode cX5_fillFrom 18 = .ok (.aload_n 0, 1) := by decide +kernel
theorem dX5_fillFrom_19 : decode cX5_fillFrom 19 = .ok (.getfield 20, 3) := by decide +kernel
theorem dX5_fillFrom_22 : decode cX5_fillFrom 22 = .ok (.iload 5, 2) := by decide +kernel
theorem dX5_fillFrom_24 : decode cX5_fillFrom 24 = .ok (.iaload, 1) := by decide +kernel
theorem dX5_fillFrom_25 : decode cX5_fillFrom 25 = .ok (.istore 6, 2) := by decide +kernel
theorem dX5_fillFrom_27 : decode cX5_fillFrom 27 = .ok (.iload 5, 2) := by decide +kernel
theorem dX5_fillFrom_29 : decode cX5_fillFrom 29 = .ok (.iload_n 3, 1) := by decide +kernel
theorem dX5_fillFrom_30 : decode cX5_fillFrom 30 = .ok (.if_icmp .lt 26, 3) := by decide +kernel
theorem dX5_fillFrom_33 : decode cX5_fillFrom 33 = .ok (.aload_n 2, 1) := by decide +kernel
theorem dX5_fillFrom_34 : decode cX5_fillFrom 34 = .ok (.iload 6, 2) := by decide +kernel
theorem dX5_fillFrom_36 : decode cX5_fillFrom 36 = .ok (.aload_n 1, 1) := by decide +kernel
theorem dX5_fillFrom_37 : decode cX5_fillFrom 37 = .ok (.iload 6, 2) := by decide +kernel
theorem dX5_fillFrom_39 : decode cX5_fillFrom 39 = .ok (.iaload, 1) := by decide +kernel
theorem dX5_fillFrom_40 : decode cX5_fillFrom 40 = .ok (.iload 4, 2) := by decide +kernel
theorem dX5_fillFrom_42 : decode cX5_fillFrom 42 = .ok (.aload_n 0, 1) := by decide +kernel
theorem dX5_fillFrom_43 : decode cX5_fillFrom 43 = .ok (.getfield 31, 3) := by decide +kernel
theorem dX5_fillFrom_46 : decode cX5_fillFrom 46 = .ok (.iload 6, 2) := by decide +kernel
theorem dX5_fillFrom_48 : decode cX5_fillFrom 48 = .ok (.iaload, 1) := by decide +kernel
theorem dX5_fillFrom_49 : decode cX5_fillFrom 49 = .ok (.invokestatic 34, 3) := by decide +kernel
theorem dX5_fillFrom_52 : decode cX5_fillFrom 52 = .ok (.invokestatic 38, 3) := by decide +kernel
theorem dX5_fillFrom_55 : decode cX5_fillFrom 55 = .ok (.iastore, 1) := by decide +kernel
theorem dX5_fillFrom_56 : decode cX5_fillFrom 56 = .ok (.iload 4, 2) := by decide +kernel
theorem dX5_fillFrom_58 : decode cX5_fillFrom 58 = .ok (.aload_n 2, 1) := by decide +kernel
theorem dX5_fillFrom_59 : decode cX5_fillFrom 59 = .ok (.iload 6, 2) := by decide +kernel
theorem dX5_fillFrom_61 : decode cX5_fillFrom 61 = .ok (.iaload, 1) := by decide +kernel
theorem dX5_fillFrom_62 : decode cX5_fillFrom 62 = .ok (.aload_n 0, 1) := by decide +kernel
theorem dX5_fillFrom_63 : decode cX5_fillFrom 63 = .ok (.getfield 31, 3) := by decide +kernel
theorem dX5_fillFrom_66 : decode cX5_fillFrom 66 = .ok (.iload 6, 2) := by decide +kernel
theorem dX5_fillFrom_68 : decode cX5_fillFrom 68 = .ok (.iaload, 1) := by decide +kernel
theorem dX5_fillFrom_69 : decode cX5_fillFrom 69 = .ok (.imul, 1) := by decide +kernel
theorem dX5_fillFrom_70 : decode cX5_fillFrom 70 = .ok (.isub, 1) := by decide +kernel
theorem dX5_fillFrom_71 : decode cX5_fillFrom 71 = .ok (.istore 4, 2) := by decide +kernel
theorem dX5_fillFrom_73 : decode cX5_fillFrom 73 = .ok (.iinc 5 1, 3) := by decide +kernel
theorem dX5_fillFrom_76 : decode cX5_fillFrom 76 = .ok (.goto (-67), 3) := by decide +kernel
theorem dX5_fillFrom_79 : decode cX5_fillFrom 79 = .ok (.iload 4, 2) := by decide +kernel
theorem dX5_fillFrom_81 : decode cX5_fillFrom 81 = .ok (.ireturn, 1) := by decide +kernel
theorem dX5_isMaximal_0 : decode cX5_isMaximal 0 = .ok (.iconst 0, 1) := by decide +kernel
theorem dX5_isMaximal_1 : decode cX5_isMaximal 1 = .ok (.istore 4, 2) := by decide +kernel
theorem dX5_isMaximal_3 : decode cX5_isMaximal 3 = .ok (.iload 4, 2) := by decide +kernel
theorem dX5_isMaximal_5 : decode cX5_isMaximal 5 = .ok (.aload_n 0, 1) := by decide +kernel
theorem dX5_isMaximal_6 : decode cX5_isMaximal 6 = .ok (.getfield 14, 3) := by decide +kernel
theorem dX5_isMaximal_9 : decode cX5_isMaximal 9 = .ok (.if_icmp .ge 33, 3) := by decide +kernel
theorem dX5_isMaximal_12 : decode cX5_isMaximal 12 = .ok (.aload_n 2, 1) := by decide +kernel
theorem dX5_isMaximal_13 : decode cX5_isMaximal 13 = .ok (.iload 4, 2) := by decide +kernel
theorem dX5_isMaximal_15 : decode cX5_isMaximal 15 = .ok (.iaload, 1) := by decide +kernel
theorem dX5_isMaximal_16 : decode cX5_isMaximal 16 = .ok (.aload_n 1, 1) := by decide +kernel
theorem dX5_isMaximal_17 : decode cX5_isMaximal 17 = .ok (.iload 4, 2) := by decide +kernel
theorem dX5_isMaximal_19 : decode cX5_isMaximal 19 = .ok (.iaload, 1) := by decide +kernel
theorem dX5_isMaximal_20 : decode cX5_isMaximal 20 = .ok (.if_icmp .ge 16, 3) := by decide +kernel
theorem dX5_isMaximal_23 : decode cX5_isMaximal 23 = .ok (.aload_n 0, 1) := by decide +kernel
theorem dX5_isMaximal_24 : decode cX5_isMaximal 24 = .ok (.getfield 31, 3) := by decide +kernel
theorem dX5_isMaximal_27 : decode cX5_isMaximal 27 = .ok (.iload 4, 2) := by decide +kernel
theorem dX5_isMaximal_29 : decode cX5_isMaximal 29 = .ok (.iaload, 1) := by decide +kernel
theorem dX5_isMaximal_30 : decode cX5_isMaximal 30 = .ok (.iload_n 3, 1) := by decide +kernel
theorem dX5_isMaximal_31 : decode cX5_isMaximal 31 = .ok (.if_icmp .gt 5, 3) := by decide +kernel
theorem dX5_isMaximal_34 : decode cX5_isMaximal 34 = .ok (.iconst 0, 1) := by decide +kernel
theorem dX5_isMaximal_35 : decode cX5_isMaximal 35 = .ok (.ireturn, 1) := by decide +kernel
theorem dX5_isMaximal_36 : decode cX5_isMaximal 36 = .ok (.iinc 4 1, 3) := by decide +kernel
theorem dX5_isMaximal_39 : decode cX5_isMaximal 39 = .ok (.goto (-36), 3) := by decide +kernel
theorem dX5_isMaximal_42 : decode cX5_isMaximal 42 = .ok (.iconst 1, 1) := by decide +kernel
theorem dX5_isMaximal_43 : decode cX5_isMaximal 43 = .ok (.ireturn, 1) := by decide +kernel
theorem dX5_countMaximal_0 : decode cX5_countMaximal 0 = .ok (.aload_n 0, 1) := by decide +kernel
theorem dX5_countMaximal_1 : decode cX5_countMaximal 1 = .ok (.aload_n 0, 1) := by decide +kernel
theorem dX5_countMaximal_2 : decode cX5_countMaximal 2 = .ok (.getfield 43, 3) := by decide +kernel
theorem dX5_countMaximal_5 : decode cX5_countMaximal 5 = .ok (.aload_n 1, 1) := by decide +kernel
theorem dX5_countMaximal_6 : decode cX5_countMaximal 6 = .ok (.invokestatic 46, 3) := by decide +kernel
theorem dX5_countMaximal_9 : decode cX5_countMaximal 9 = .ok (.iconst 0, 1) := by decide +kernel
theorem dX5_countMaximal_10 : decode cX5_countMaximal 10 = .ok (.istore_n 3, 1) := by decide +kernel
theorem dX5_countMaximal_11 : decode cX5_countMaximal 11 = .ok (.iconst 0, 1) := by decide +kernel
theorem dX5_countMaximal_12 : decode cX5_countMaximal 12 = .ok (.istore 4, 2) := by decide +kernel
theorem dX5_countMaximal_14 : decode cX5_countMaximal 14 = .ok (.iload 4, 2) := by decide +kernel
theorem dX5_countMaximal_16 : decode cX5_countMaximal 16 = .ok (.ldc 13, 2) := by decide +kernel
theorem dX5_countMaximal_18 : decode cX5_countMaximal 18 = .ok (.if_icmp .ge 42, 3) := by decide +kernel
theorem dX5_countMaximal_21 : decode cX5_countMaximal 21 = .ok (.iload_n 2, 1) := by decide +kernel
theorem dX5_countMaximal_22 : decode cX5_countMaximal 22 = .ok (.ifCond .eq 15, 3) := by decide +kernel
theorem dX5_countMaximal_25 : decode cX5_countMaximal 25 = .ok (.aload_n 0, 1) := by decide +kernel
theorem dX5_countMaximal_26 : decode cX5_countMaximal 26 = .ok (.aload_n 1, 1) := by decide +kernel
theorem dX5_countMaximal_27 : decode cX5_countMaximal 27 = .ok (.invokevirtual 50, 3) := by decide +kernel
theorem dX5_countMaximal_30 : decode cX5_countMaximal 30 = .ok (.aload_n 0, 1) := by decide +kernel
theorem dX5_countMaximal_31 : decode cX5_countMaximal 31 = .ok (.getfield 28, 3) := by decide +kernel
theorem dX5_countMaximal_34 : decode cX5_countMaximal 34 = .ok (.if_icmp .ne 6, 3) := by decide +kernel
theorem dX5_countMaximal_37 : decode cX5_countMaximal 37 = .ok (.iinc 3 1, 3) := by decide +kernel
theorem dX5_countMaximal_40 : decode cX5_countMaximal 40 = .ok (.aload_n 0, 1) := by decide +kernel
theorem dX5_countMaximal_41 : decode cX5_countMaximal 41 = .ok (.aload_n 0, 1) := by decide +kernel
theorem dX5_countMaximal_42 : decode cX5_countMaximal 42 = .ok (.getfield 43, 3) := by decide +kernel
theorem dX5_countMaximal_45 : decode cX5_countMaximal 45 = .ok (.aload_n 1, 1) := by decide +kernel
theorem dX5_countMaximal_46 : decode cX5_countMaximal 46 = .ok (.invokestatic 54, 3) := by decide +kernel
theorem dX5_countMaximal_49 : decode cX5_countMaximal 49 = .ok (.ifCond .ne 5, 3) := by decide +kernel
theorem dX5_countMaximal_52 : decode cX5_countMaximal 52 = .ok (.iload_n 3, 1) := by decide +kernel
theorem dX5_countMaximal_53 : decode cX5_countMaximal 53 = .ok (.ireturn, 1) := by decide +kernel
theorem dX5_countMaximal_54 : decode cX5_countMaximal 54 = .ok (.iinc 4 1, 3) := by decide +kernel
theorem dX5_countMaximal_57 : decode cX5_countMaximal 57 = .ok (.goto (-43), 3) := by decide +kernel
theorem dX5_countMaximal_60 : decode cX5_countMaximal 60 = .ok (.iload_n 3, 1) := by decide +kernel
theorem dX5_countMaximal_61 : decode cX5_countMaximal 61 = .ok (.ireturn, 1) := by decide +kernel
theorem dX5_goTo_0 : decode cX5_goTo 0 = .ok (.aload_n 0, 1) := by decide +kernel
theorem dX5_goTo_1 : decode cX5_goTo 1 = .ok (.aload_n 0, 1) := by decide +kernel
theorem dX5_goTo_2 : decode cX5_goTo 2 = .ok (.getfield 43, 3) := by decide +kernel
theorem dX5_goTo_5 : decode cX5_goTo 5 = .ok (.aload_n 1, 1) := by decide +kernel
theorem dX5_goTo_6 : decode cX5_goTo 6 = .ok (.invokestatic 46, 3) := by decide +kernel
theorem dX5_goTo_9 : decode cX5_goTo 9 = .ok (.iconst 0, 1) := by decide +kernel
theorem dX5_goTo_10 : decode cX5_goTo 10 = .ok (.istore_n 3, 1) := by decide +kernel
theorem dX5_goTo_11 : decode cX5_goTo 11 = .ok (.iload_n 3, 1) := by decide +kernel
theorem dX5_goTo_12 : decode cX5_goTo 12 = .ok (.iload_n 2, 1) := by decide +kernel
theorem dX5_goTo_13 : decode cX5_goTo 13 = .ok (.if_icmp .ge 23, 3) := by decide +kernel
theorem dX5_goTo_16 : decode cX5_goTo 16 = .ok (.aload_n 0, 1) := by decide +kernel
theorem dX5_goTo_17 : decode cX5_goTo 17 = .ok (.aload_n 0, 1) := by decide +kernel
theorem dX5_goTo_18 : decode cX5_goTo 18 = .ok (.getfield 43, 3) := by decide +kernel
theorem dX5_goTo_21 : decode cX5_goTo 21 = .ok (.aload_n 1, 1) := by decide +kernel
theorem dX5_goTo_22 : decode cX5_goTo 22 = .ok (.invokestatic 54, 3) := by decide +kernel
theorem dX5_goTo_25 : decode cX5_goTo 25 = .ok (.ifCond .ne 5, 3) := by decide +kernel
theorem dX5_goTo_28 : decode cX5_goTo 28 = .ok (.iconst 0, 1) := by decide +kernel
theorem dX5_goTo_29 : decode cX5_goTo 29 = .ok (.ireturn, 1) := by decide +kernel
theorem dX5_goTo_30 : decode cX5_goTo 30 = .ok (.iinc 3 1, 3) := by decide +kernel
theorem dX5_goTo_33 : decode cX5_goTo 33 = .ok (.goto (-22), 3) := by decide +kernel
theorem dX5_goTo_36 : decode cX5_goTo 36 = .ok (.iconst 1, 1) := by decide +kernel
theorem dX5_goTo_37 : decode cX5_goTo 37 = .ok (.ireturn, 1) := by decide +kernel
theorem dX6_init_0 : decode cX6_init 0 = .ok (.aload_n 0, 1) := by decide +kernel
theorem dX6_init_1 : decode cX6_init 1 = .ok (.invokespecial 3, 3) := by decide +kernel
theorem dX6_init_4 : decode cX6_init 4 = .ok (.aload_n 0, 1) := by decide +kernel
theorem dX6_init_5 : decode cX6_init 5 = .ok (.new 9, 3) := by decide +kernel
theorem dX6_init_8 : decode cX6_init 8 = .ok (.dup, 1) := by decide +kernel
theorem dX6_init_9 : decode cX6_init 9 = .ok (.invokespecial 11, 3) := by decide +kernel
theorem dX6_init_12 : decode cX6_init 12 = .ok (.putfield 12, 3) := by decide +kernel
theorem dX6_init_15 : decode cX6_init 15 = .ok (.aload_n 0, 1) := by decide +kernel
theorem dX6_init_16 : decode cX6_init 16 = .ok (.bipush 14, 2) := by decide +kernel
theorem dX6_init_18 : decode cX6_init 18 = .ok (.newarray .long, 2) := by decide +kernel
theorem dX6_init_20 : decode cX6_init 20 = .ok (.putfield 20, 3) := by decide +kernel
theorem dX6_init_23 : decode cX6_init 23 = .ok (.aload_n 0, 1) := by decide +kernel
theorem dX6_init_24 : decode cX6_init 24 = .ok (.iconst (-1), 1) := by decide +kernel
theorem dX6_init_25 : decode cX6_init 25 = .ok (.putfield 24, 3) := by decide +kernel
theorem dX6_init_28 : decode cX6_init 28 = .ok (.aload_n 0, 1) := by decide +kernel
theorem dX6_init_29 : decode cX6_init 29 = .ok (.iconst 0, 1) := by decide +kernel
theorem dX6_init_30 : decode cX6_init 30 = .ok (.putfield 28, 3) := by decide +kernel
theorem dX6_init_33 : decode cX6_init 33 = .ok (.aload_n 0, 1) := by decide +kernel
theorem dX6_init_34 : decode cX6_init 34 = .ok (.iconst 0, 1) := by decide +kernel
theorem dX6_init_35 : decode cX6_init 35 = .ok (.putfield 31, 3) := by decide +kernel
theorem dX6_init_38 : decode cX6_init 38 = .ok (.aload_n 0, 1) := by decide +kernel
theorem dX6_init_39 : decode cX6_init 39 = .ok (.iconst 0, 1) := by decide +kernel
theorem dX6_init_40 : decode cX6_init 40 = .ok (.putfield 34, 3) := by decide +kernel
theorem dX6_init_43 : decode cX6_init 43 = .ok (.aload_n 0, 1) := by decide +kernel
theorem dX6_init_44 : decode cX6_init 44 = .ok (.iconst 0, 1) := by decide +kernel
theorem dX6_init_45 : decode cX6_init 45 = .ok (.putfield 37, 3) := by decide +kernel
theorem dX6_init_48 : decode cX6_init 48 = .ok (.aload_n 0, 1) := by decide +kernel
theorem dX6_init_49 : decode cX6_init 49 = .ok (.iconst 0, 1) := by decide +kernel
theorem dX6_init_50 : decode cX6_init 50 = .ok (.putfield 40, 3) := by decide +kernel
theorem dX6_init_53 : decode cX6_init 53 = .ok (.return_, 1) := by decide +kernel
theorem dX6_readText_0 : decode cX6_readText 0 = .ok (.aload_n 0, 1) := by decide +kernel
theorem dX6_readText_1 : decode cX6_readText 1 = .ok (.invokevirtual 43, 3) := by decide +kernel
theorem dX6_readText_4 : decode cX6_readText 4 = .ok (.iload_n 2, 1) := by decide +kernel
theorem dX6_readText_5 : decode cX6_readText 5 = .ok (.aload_n 1, 1) := by decide +kernel
theorem dX6_readText_6 : decode cX6_readText 6 = .ok (.arraylength, 1) := by decide +kernel
theorem dX6_readText_7 : decode cX6_readText 7 = .ok (.invokestatic 46, 3) := by decide +kernel
theorem dX6_readText_10 : decode cX6_readText 10 = .ok (.istore_n 3, 1) := by decide +kernel
theorem dX6_readText_11 : decode cX6_readText 11 = .ok (.iconst 0, 1) := by decide +kernel
theorem dX6_readText_12 : decode cX6_readText 12 = .ok (.istore 4, 2) := by decide +kernel
theorem dX6_readText_14 : decode cX6_readText 14 = .ok (.iload 4, 2) := by decide +kernel
theorem dX6_readText_16 : decode cX6_readText 16 = .ok (.iload_n 3, 1) := by decide +kernel
theorem dX6_readText_17 : decode cX6_readText 17 = .ok (.if_icmp .ge 65, 3) := by decide +kernel
theorem dX6_readText_20 : decode cX6_readText 20 = .ok (.iload 4, 2) := by decide +kernel
theorem dX6_readText_22 : decode cX6_readText 22 = .ok (.iconst 1, 1) := by decide +kernel
theorem dX6_readText_23 : decode cX6_readText 23 = .ok (.iadd, 1) := by decide +kernel
theorem dX6_readText_24 : decode cX6_readText 24 = .ok (.istore 5, 2) := by decide +kernel
theorem dX6_readText_26 : decode cX6_readText 26 = .ok (.aload_n 1, 1) := by decide +kernel
theorem dX6_readText_27 : decode cX6_readText 27 = .ok (.iload 4, 2) := by decide +kernel
theorem dX6_readText_29 : decode cX6_readText 29 = .ok (.baload, 1) := by decide +kernel
theorem dX6_readText_30 : decode cX6_readText 30 = .ok (.invokestatic 52, 3) := by decide +kernel
theorem dX6_readText_33 : decode cX6_readText 33 = .ok (.ifCond .ne 42, 3) := by decide +kernel
theorem dX6_readText_36 : decode cX6_readText 36 = .ok (.iload 5, 2) := by decide +kernel
theorem dX6_readText_38 : decode cX6_readText 38 = .ok (.aload_n 1, 1) := by decide +kernel
theorem dX6_readText_39 : decode cX6_readText 39 = .ok (.iload 4, 2) := by decide +kernel
theorem dX6_readText_41 : decode cX6_readText 41 = .ok (.iload_n 3, 1) := by decide +kernel
theorem dX6_readText_42 : decode cX6_readText 42 = .ok (.invokestatic 56, 3) := by decide +kernel
theorem dX6_readText_45 : decode cX6_readText 45 = .ok (.invokestatic 60, 3) := by decide +kernel
theorem dX6_readText_48 : decode cX6_readText 48 = .ok (.istore 5, 2) := by decide +kernel
theorem dX6_readText_50 : decode cX6_readText 50 = .ok (.aload_n 0, 1) := by decide +kernel
theorem dX6_readText_51 : decode cX6_readText 51 = .ok (.aload_n 1, 1) := by decide +kernel
theorem dX6_readText_52 : decode cX6_readText 52 = .ok (.iload 4, 2) := by decide +kernel
theorem dX6_readText_54 : decode cX6_readText 54 = .ok (.iload 5, 2) := by decide +kernel
theorem dX6_readText_56 : decode cX6_readText 56 = .ok (.invokevirtual 63, 3) := by decide +kernel
theorem dX6_readText_59 : decode cX6_readText 59 = .ok (.istore 6, 2) := by decide +kernel
theorem dX6_readText_61 : decode cX6_readText 61 = .ok (.iload 6, 2) := by decide +kernel
theorem dX6_readText_63 : decode cX6_readText 63 = .ok (.ifCond .eq 12, 3) := by decide +kernel
theorem dX6_readText_66 : decode cX6_readText 66 = .ok (.aload_n 0, 1) := by decide +kernel
theorem dX6_readText_67 : decode cX6_readText 67 = .ok (.iload 4, 2) := by decide +kernel
theorem dX6_readText_69 : decode cX6_readText 69 = .ok (.putfield 24, 3) := by decide +kernel
theorem dX6_readText_72 : decode cX6_readText 72 = .ok (.iload 6, 2) := by decide +kernel
theorem dX6_readText_74 : decode cX6_readText 74 = .ok (.ireturn, 1) := by decide +kernel
theorem dX6_readText_75 : decode cX6_readText 75 = .ok (.iload 5, 2) := by decide +kernel
theorem dX6_readText_77 : decode cX6_readText 77 = .ok (.istore 4, 2) := by decide +kernel
theorem dX6_readText_79 : decode cX6_readText 79 = .ok (.goto (-65), 3) := by decide +kernel
theorem dX6_readText_82 : decode cX6_readText 82 = .ok (.aload_n 0, 1) := by decide +kernel
theorem dX6_readText_83 : decode cX6_readText 83 = .ok (.getfield 28, 3) := by decide +kernel
theorem dX6_readText_86 : decode cX6_readText 86 = .ok (.ifCond .eq 10, 3) := by decide +kernel
theorem dX6_readText_89 : decode cX6_readText 89 = .ok (.aload_n 0, 1) := by decide +kernel
theorem dX6_readText_90 : decode cX6_readText 90 = .ok (.iload_n 2, 1) := by decide +kernel
theorem dX6_readText_91 : decode cX6_readText 91 = .ok (.putfield 24, 3) := by decide +kernel
theorem dX6_readText_94 : decode cX6_readText 94 = .ok (.iconst 1, 1) := by decide +kernel
theorem dX6_readText_95 : decode cX6_readText 95 = .ok (.ireturn, 1) := by decide +kernel
theorem dX6_readText_96 : decode cX6_readText 96 = .ok (.aload_n 0, 1) := by decide +kernel
theorem dX6_readText_97 : decode cX6_readText 97 = .ok (.getfield 20, 3) := by decide +kernel
theorem dX6_readText_100 : decode cX6_readText 100 = .ok (.bipush 13, 2) := by decide +kernel
theorem dX6_readText_102 : decode cX6_readText 102 = .ok (.aload_n 0, 1) := by decide +kernel
theorem dX6_readText_103 : decode cX6_readText 103 = .ok (.getfield 34, 3) := by decide +kernel
theorem dX6_readText_106 : decode cX6_readText 106 = .ok (.i2l, 1) := by decide +kernel
theorem dX6_readText_107 : decode cX6_readText 107 = .ok (.lastore, 1) := by decide +kernel
theorem dX6_readText_108 : decode cX6_readText 108 = .ok (.iconst 0, 1) := by decide +kernel
theorem dX6_readText_109 : decode cX6_readText 109 = .ok (.ireturn, 1) := by decide +kernel
theorem dX6_begin_0 : decode cX6_begin 0 = .ok (.aload_n 0, 1) := by decide +kernel
theorem dX6_begin_1 : decode cX6_begin 1 = .ok (.getfield 12, 3) := by decide +kernel
theorem dX6_begin_4 : decode cX6_begin 4 = .ok (.bipush 30, 2) := by decide +kernel
theorem dX6_begin_6 : decode cX6_begin 6 = .ok (.putfield 66, 3) := by decide +kernel
theorem dX6_begin_9 : decode cX6_begin 9 = .ok (.aload_n 0, 1) := by decide +kernel
theorem dX6_begin_10 : decode cX6_begin 10 = .ok (.getfield 12, 3) := by decide +kernel
theorem dX6_begin_13 : decode cX6_begin 13 = .ok (.iconst 0, 1) := by decide +kernel
theorem dX6_begin_14 : decode cX6_begin 14 = .ok (.putfield 69, 3) := by decide +kernel
theorem dX6_begin_17 : decode cX6_begin 17 = .ok (.iconst 0, 1) := by decide +kernel
theorem dX6_begin_18 : decode cX6_begin 18 = .ok (.istore_n 1, 1) := by decide +kernel
theorem dX6_begin_19 : decode cX6_begin 19 = .ok (.iload_n 1, 1) := by decide +kernel
theorem dX6_begin_20 : decode cX6_begin 20 = .ok (.bipush 14, 2) := by decide +kernel
theorem dX6_begin_22 : decode cX6_begin 22 = .ok (.if_icmp .ge 16, 3) := by decide +kernel
theorem dX6_begin_25 : decode cX6_begin 25 = .ok (.aload_n 0, 1) := by decide +kernel
theorem dX6_begin_26 : decode cX6_begin 26 = .ok (.getfield 20, 3) := by decide +kernel
theorem dX6_begin_29 : decode cX6_begin 29 = .ok (.iload_n 1, 1) := by decide +kernel
theorem dX6_begin_30 : decode cX6_begin 30 = .ok (.lconst 0, 1) := by decide +kernel
theorem dX6_begin_31 : decode cX6_begin 31 = .ok (.lastore, 1) := by decide +kernel
theorem dX6_begin_32 : decode cX6_begin 32 = .ok (.iinc 1 1, 3) := by decide +kernel
theorem dX6_begin_35 : decode cX6_begin 35 = .ok (.goto (-16), 3) := by decide +kernel
theorem dX6_begin_38 : decode cX6_begin 38 = .ok (.aload_n 0, 1) := by decide +kernel
theorem dX6_begin_39 : decode cX6_begin 39 = .ok (.iconst (-1), 1) := by decide +kernel
theorem dX6_begin_40 : decode cX6_begin 40 = .ok (.putfield 24, 3) := by decide +kernel
theorem dX6_begin_43 : decode cX6_begin 43 = .ok (.aload_n 0, 1) := by decide +kernel
theorem dX6_begin_44 : decode cX6_begin 44 = .ok (.iconst 0, 1) := by decide +kernel
theorem dX6_begin_45 : decode cX6_begin 45 = .ok (.putfield 28, 3) := by decide +kernel
theorem dX6_begin_48 : decode cX6_begin 48 = .ok (.aload_n 0, 1) := by decide +kernel
theorem dX6_begin_49 : decode cX6_begin 49 = .ok (.iconst 0, 1) := by decide +kernel
theorem dX6_begin_50 : decode cX6_begin 50 = .ok (.putfield 31, 3) := by decide +kernel
theorem dX6_begin_53 : decode cX6_begin 53 = .ok (.aload_n 0, 1) := by decide +kernel
theorem dX6_begin_54 : decode cX6_begin 54 = .ok (.iconst 0, 1) := by decide +kernel
theorem dX6_begin_55 : decode cX6_begin 55 = .ok (.putfield 34, 3) := by decide +kernel
theorem dX6_begin_58 : decode cX6_begin 58 = .ok (.aload_n 0, 1) := by decide +kernel
theorem dX6_begin_59 : decode cX6_begin 59 = .ok (.iconst 0, 1) := by decide +kernel
theorem dX6_begin_60 : decode cX6_begin 60 = .ok (.putfield 37, 3) := by decide +kernel
theorem dX6_begin_63 : decode cX6_begin 63 = .ok (.return_, 1) := by decide +kernel
theorem dX6_isBlank_0 : decode cX6_isBlank 0 = .ok (.iload_n 0, 1) := by decide +kernel
theorem dX6_isBlank_1 : decode cX6_isBlank 1 = .ok (.bipush 32, 2) := by decide +kernel
theorem dX6_isBlank_3 : decode cX6_isBlank 3 = .ok (.if_icmp .eq 9, 3) := by decide +kernel
theorem dX6_isBlank_6 : decode cX6_isBlank 6 = .ok (.iload_n 0, 1) := by decide +kernel
theorem dX6_isBlank_7 : decode cX6_isBlank 7 = .ok (.bipush 10, 2) := by decide +kernel
theorem dX6_isBlank_9 : decode cX6_isBlank 9 = .ok (.if_icmp .ne 7, 3) := by decide +kernel
theorem dX6_isBlank_12 : decode cX6_isBlank 12 = .ok (.iconst 1, 1) := by decide +kernel
theorem dX6_isBlank_13 : decode cX6_isBlank 13 = .ok (.goto 4, 3) := by decide +kernel
theorem dX6_isBlank_16 : decode cX6_isBlank 16 = .ok (.iconst 0, 1) := by decide +kernel
theorem dX6_isBlank_17 : decode cX6_isBlank 17 = .ok (.ireturn, 1) := by decide +kernel
theorem dX6_isLetter_0 : decode cX6_isLetter 0 = .ok (.iload_n 0, 1) := by decide +kernel
theorem dX6_isLetter_1 : decode cX6_isLetter 1 = .ok (.bipush 97, 2) := by decide +kernel
theorem dX6_isLetter_3 : decode cX6_isLetter 3 = .ok (.if_icmp .lt 13, 3) := by decide +kernel
theorem dX6_isLetter_6 : decode cX6_isLetter 6 = .ok (.iload_n 0, 1) := by decide +kernel
theorem dX6_isLetter_7 : decode cX6_isLetter 7 = .ok (.bipush 122, 2) := by decide +kernel
theorem dX6_isLetter_9 : decode cX6_isLetter 9 = .ok (.if_icmp .gt 7, 3) := by decide +kernel
theorem dX6_isLetter_12 : decode cX6_isLetter 12 = .ok (.iconst 1, 1) := by decide +kernel
theorem dX6_isLetter_13 : decode cX6_isLetter 13 = .ok (.goto 4, 3) := by decide +kernel
theorem dX6_isLetter_16 : decode cX6_isLetter 16 = .ok (.iconst 0, 1) := by decide +kernel
theorem dX6_isLetter_17 : decode cX6_isLetter 17 = .ok (.ireturn, 1) := by decide +kernel
theorem dX6_isDigit_0 : decode cX6_isDigit 0 = .ok (.iload_n 0, 1) := by decide +kernel
theorem dX6_isDigit_1 : decode cX6_isDigit 1 = .ok (.bipush 48, 2) := by decide +kernel
theorem dX6_isDigit_3 : decode cX6_isDigit 3 = .ok (.if_icmp .lt 13, 3) := by decide +kernel
theorem dX6_isDigit_6 : decode cX6_isDigit 6 = .ok (.iload_n 0, 1) := by decide +kernel
theorem dX6_isDigit_7 : decode cX6_isDigit 7 = .ok (.bipush 57, 2) := by decide +kernel
theorem dX6_isDigit_9 : decode cX6_isDigit 9 = .ok (.if_icmp .gt 7, 3) := by decide +kernel
theorem dX6_isDigit_12 : decode cX6_isDigit 12 = .ok (.iconst 1, 1) := by decide +kernel
theorem dX6_isDigit_13 : decode cX6_isDigit 13 = .ok (.goto 4, 3) := by decide +kernel
theorem dX6_isDigit_16 : decode cX6_isDigit 16 = .ok (.iconst 0, 1) := by decide +kernel
theorem dX6_isDigit_17 : decode cX6_isDigit 17 = .ok (.ireturn, 1) := by decide +kernel
theorem dX6_endOfToken_0 : decode cX6_endOfToken 0 = .ok (.iload_n 1, 1) := by decide +kernel
theorem dX6_endOfToken_1 : decode cX6_endOfToken 1 = .ok (.istore_n 3, 1) := by decide +kernel
theorem dX6_endOfToken_2 : decode cX6_endOfToken 2 = .ok (.aload_n 0, 1) := by decide +kernel
theorem dX6_endOfToken_3 : decode cX6_endOfToken 3 = .ok (.iload_n 1, 1) := by decide +kernel
theorem dX6_endOfToken_4 : decode cX6_endOfToken 4 = .ok (.baload, 1) := by decide +kernel
theorem dX6_endOfToken_5 : decode cX6_endOfToken 5 = .ok (.invokestatic 72, 3) := by decide +kernel
theorem dX6_endOfToken_8 : decode cX6_endOfToken 8 = .ok (.ifCond .eq 23, 3) := by decide +kernel
theorem dX6_endOfToken_11 : decode cX6_endOfToken 11 = .ok (.iload_n 3, 1) := by decide +kernel
theorem dX6_endOfToken_12 : decode cX6_endOfToken 12 = .ok (.iload_n 2, 1) := by decide +kernel
theorem dX6_endOfToken_13 : decode cX6_endOfToken 13 = .ok (.if_icmp .ge 38, 3) := by decide +kernel
theorem dX6_endOfToken_16 : decode cX6_endOfToken 16 = .ok (.aload_n 0, 1) := by decide +kernel
theorem dX6_endOfToken_17 : decode cX6_endOfToken 17 = .ok (.iload_n 3, 1) := by decide +kernel
theorem dX6_endOfToken_18 : decode cX6_endOfToken 18 = .ok (.baload, 1) := by decide +kernel
theorem dX6_endOfToken_19 : decode cX6_endOfToken 19 = .ok (.invokestatic 72, 3) := by decide +kernel
theorem dX6_endOfToken_22 : decode cX6_endOfToken 22 = .ok (.ifCond .eq 29, 3) := by decide +kernel
theorem dX6_endOfToken_25 : decode cX6_endOfToken 25 = .ok (.iinc 3 1, 3) := by decide +kernel
theorem dX6_endOfToken_28 : decode cX6_endOfToken 28 = .ok (.goto (-17), 3) := by decide +kernel
theorem dX6_endOfToken_31 : decode cX6_endOfToken 31 = .ok (.iload_n 3, 1) := by decide +kernel
theorem dX6_endOfToken_32 : decode cX6_endOfToken 32 = .ok (.iload_n 2, 1) := by decide +kernel
theorem dX6_endOfToken_33 : decode cX6_endOfToken 33 = .ok (.if_icmp .ge 18, 3) := by decide +kernel
theorem dX6_endOfToken_36 : decode cX6_endOfToken 36 = .ok (.aload_n 0, 1) := by decide +kernel
theorem dX6_endOfToken_37 : decode cX6_endOfToken 37 = .ok (.iload_n 3, 1) := by decide +kernel
theorem dX6_endOfToken_38 : decode cX6_endOfToken 38 = .ok (.baload, 1) := by decide +kernel
theorem dX6_endOfToken_39 : decode cX6_endOfToken 39 = .ok (.invokestatic 75, 3) := by decide +kernel
theorem dX6_endOfToken_42 : decode cX6_endOfToken 42 = .ok (.ifCond .eq 9, 3) := by decide +kernel
theorem dX6_endOfToken_45 : decode cX6_endOfToken 45 = .ok (.iinc 3 1, 3) := by decide +kernel
theorem dX6_endOfToken_48 : decode cX6_endOfToken 48 = .ok (.goto (-17), 3) := by decide +kernel
theorem dX6_endOfToken_51 : decode cX6_endOfToken 51 = .ok (.iload_n 3, 1) := by decide +kernel
theorem dX6_endOfToken_52 : decode cX6_endOfToken 52 = .ok (.ireturn, 1) := by decide +kernel
theorem dX6_takeToken_0 : decode cX6_takeToken 0 = .ok (.aload_n 0, 1) := by decide +kernel
theorem dX6_takeToken_1 : decode cX6_takeToken 1 = .ok (.getfield 28, 3) := by decide +kernel
theorem dX6_takeToken_4 : decode cX6_takeToken 4 = .ok (.ifCond .ne 11, 3) := by decide +kernel
theorem dX6_takeToken_7 : decode cX6_takeToken 7 = .ok (.aload_n 0, 1) := by decide +kernel
theorem dX6_takeToken_8 : decode cX6_takeToken 8 = .ok (.aload_n 1, 1) := by decide +kernel
theorem dX6_takeToken_9 : decode cX6_takeToken 9 = .ok (.iload_n 2, 1) := by decide +kernel
theorem dX6_takeToken_10 : decode cX6_takeToken 10 = .ok (.iload_n 3, 1) := by decide +kernel
theorem dX6_takeToken_11 : decode cX6_takeToken 11 = .ok (.invokevirtual 78, 3) := by decide +kernel
theorem dX6_takeToken_14 : decode cX6_takeToken 14 = .ok (.ireturn, 1) := by decide +kernel
theorem dX6_takeToken_15 : decode cX6_takeToken 15 = .ok (.aload_n 1, 1) := by decide +kernel
theorem dX6_takeToken_16 : decode cX6_takeToken 16 = .ok (.iload_n 2, 1) := by decide +kernel
theorem dX6_takeToken_17 : decode cX6_takeToken 17 = .ok (.baload, 1) := by decide +kernel
theorem dX6_takeToken_18 : decode cX6_takeToken 18 = .ok (.bipush 59, 2) := by decide +kernel
theorem dX6_takeToken_20 : decode cX6_takeToken 20 = .ok (.if_icmp .ne 37, 3) := by decide +kernel
theorem dX6_takeToken_23 : decode cX6_takeToken 23 = .ok (.aload_n 0, 1) := by decide +kernel
theorem dX6_takeToken_24 : decode cX6_takeToken 24 = .ok (.getfield 28, 3) := by decide +kernel
theorem dX6_takeToken_27 : decode cX6_takeToken 27 = .ok (.bipush 6, 2) := by decide +kernel
theorem dX6_takeToken_29 : decode cX6_takeToken 29 = .ok (.if_icmp .eq 11, 3) := by decide +kernel
theorem dX6_takeToken_32 : decode cX6_takeToken 32 = .ok (.aload_n 0, 1) := by decide +kernel
theorem dX6_takeToken_33 : decode cX6_takeToken 33 = .ok (.getfield 28, 3) := by decide +kernel
theorem dX6_takeToken_36 : decode cX6_takeToken 36 = .ok (.iconst 5, 1) := by decide +kernel
theorem dX6_takeToken_37 : decode cX6_takeToken 37 = .ok (.if_icmp .ne 20, 3) := by decide +kernel
theorem dX6_takeToken_40 : decode cX6_takeToken 40 = .ok (.aload_n 0, 1) := by decide +kernel
theorem dX6_takeToken_41 : decode cX6_takeToken 41 = .ok (.iconst 0, 1) := by decide +kernel
theorem dX6_takeToken_42 : decode cX6_takeToken 42 = .ok (.putfield 28, 3) := by decide +kernel
theorem dX6_takeToken_45 : decode cX6_takeToken 45 = .ok (.aload_n 0, 1) := by decide +kernel
theorem dX6_takeToken_46 : decode cX6_takeToken 46 = .ok (.dup, 1) := by decide +kernel
theorem dX6_takeToken_47 : decode cX6_takeToken 47 = .ok (.getfield 31, 3) := by decide +kernel
theorem dX6_takeToken_50 : decode cX6_takeToken 50 = .ok (.iconst 1, 1) := by decide +kernel
theorem dX6_takeToken_51 : decode cX6_takeToken 51 = .ok (.iadd, 1) := by decide +kernel
theorem dX6_takeToken_52 : decode cX6_takeToken 52 = .ok (.putfield 31, 3) := by decide +kernel
theorem dX6_takeToken_55 : decode cX6_takeToken 55 = .ok (.iconst 0, 1) := by decide +kernel
theorem dX6_takeToken_56 : decode cX6_takeToken 56 = .ok (.ireturn, 1) := by decide +kernel
theorem dX6_takeToken_57 : decode cX6_takeToken 57 = .ok (.aload_n 0, 1) := by decide +kernel
theorem dX6_takeToken_58 : decode cX6_takeToken 58 = .ok (.getfield 28, 3) := by decide +kernel
theorem dX6_takeToken_61 : decode cX6_takeToken 61 = .ok (.bipush 6, 2) := by decide +kernel
theorem dX6_takeToken_63 : decode cX6_takeToken 63 = .ok (.if_icmp .eq 12, 3) := by decide +kernel
theorem dX6_takeToken_66 : decode cX6_takeToken 66 = .ok (.aload_n 1, 1) := by decide +kernel
theorem dX6_takeToken_67 : decode cX6_takeToken 67 = .ok (.iload_n 2, 1) := by decide +kernel
theorem dX6_takeToken_68 : decode cX6_takeToken 68 = .ok (.baload, 1) := by decide +kernel
theorem dX6_takeToken_69 : decode cX6_takeToken 69 = .ok (.invokestatic 75, 3) := by decide +kernel
theorem dX6_takeToken_72 : decode cX6_takeToken 72 = .ok (.ifCond .ne 5, 3) := by decide +kernel
theorem dX6_takeToken_75 : decode cX6_takeToken 75 = .ok (.iconst 1, 1) := by decide +kernel
theorem dX6_takeToken_76 : decode cX6_takeToken 76 = .ok (.ireturn, 1) := by decide +kernel
theorem dX6_takeToken_77 : decode cX6_takeToken 77 = .ok (.iload_n 3, 1) := by decide +kernel
theorem dX6_takeToken_78 : decode cX6_takeToken 78 = .ok (.iload_n 2, 1) := by decide +kernel
theorem dX6_takeToken_79 : decode cX6_takeToken 79 = .ok (.isub, 1) := by decide +kernel
theorem dX6_takeToken_80 : decode cX6_takeToken 80 = .ok (.iconst 3, 1) := by decide +kernel
theorem dX6_takeToken_81 : decode cX6_takeToken 81 = .ok (.if_icmp .le 5, 3) := by decide +kernel
theorem dX6_takeToken_84 : decode cX6_takeToken 84 = .ok (.iconst 2, 1) := by decide +kernel
theorem dX6_takeToken_85 : decode cX6_takeToken 85 = .ok (.ireturn, 1) := by decide +kernel
theorem dX6_takeToken_86 : decode cX6_takeToken 86 = .ok (.aload_n 0, 1) := by decide +kernel
theorem dX6_takeToken_87 : decode cX6_takeToken 87 = .ok (.aload_n 1, 1) := by decide +kernel
theorem dX6_takeToken_88 : decode cX6_takeToken 88 = .ok (.iload_n 2, 1) := by decide +kernel
theorem dX6_takeToken_89 : decode cX6_takeToken 89 = .ok (.iload_n 3, 1) := by decide +kernel
theorem dX6_takeToken_90 : decode cX6_takeToken 90 = .ok (.invokestatic 81, 3) := by decide +kernel
theorem dX6_takeToken_93 : decode cX6_takeToken 93 = .ok (.invokevirtual 84, 3) := by decide +kernel
theorem dX6_takeToken_96 : decode cX6_takeToken 96 = .ok (.ireturn, 1) := by decide +kernel
theorem dX6_takeWord_0 : decode cX6_takeWord 0 = .ok (.aload_n 1, 1) := by decide +kernel
theorem dX6_takeWord_1 : decode cX6_takeWord 1 = .ok (.iload_n 2, 1) := by decide +kernel
theorem dX6_takeWord_2 : decode cX6_takeWord 2 = .ok (.iload_n 3, 1) := by decide +kernel
theorem dX6_takeWord_3 : decode cX6_takeWord 3 = .ok (.ldc 88, 2) := by decide +kernel
theorem dX6_takeWord_5 : decode cX6_takeWord 5 = .ok (.invokestatic 89, 3) := by decide +kernel
theorem dX6_takeWord_8 : decode cX6_takeWord 8 = .ok (.ifCond .eq 21, 3) := by decide +kernel
theorem dX6_takeWord_11 : decode cX6_takeWord 11 = .ok (.aload_n 0, 1) := by decide +kernel
theorem dX6_takeWord_12 : decode cX6_takeWord 12 = .ok (.iconst 1, 1) := by decide +kernel
theorem dX6_takeWord_13 : decode cX6_takeWord 13 = .ok (.putfield 28, 3) := by decide +kernel
theorem dX6_takeWord_16 : decode cX6_takeWord 16 = .ok (.aload_n 0, 1) := by decide +kernel
theorem dX6_takeWord_17 : decode cX6_takeWord 17 = .ok (.getfield 31, 3) := by decide +kernel
theorem dX6_takeWord_20 : decode cX6_takeWord 20 = .ok (.ifCond .le 7, 3) := by decide +kernel
theorem dX6_takeWord_23 : decode cX6_takeWord 23 = .ok (.iconst 4, 1) := by decide +kernel
theorem dX6_takeWord_24 : decode cX6_takeWord 24 = .ok (.goto 4, 3) := by decide +kernel
theorem dX6_takeWord_27 : decode cX6_takeWord 27 = .ok (.iconst 0, 1) := by decide +kernel
theorem dX6_takeWord_28 : decode cX6_takeWord 28 = .ok (.ireturn, 1) := by decide +kernel
theorem dX6_takeWord_29 : decode cX6_takeWord 29 = .ok (.aload_n 1, 1) := by decide +kernel
theorem dX6_takeWord_30 : decode cX6_takeWord 30 = .ok (.iload_n 2, 1) := by decide +kernel
theorem dX6_takeWord_31 : decode cX6_takeWord 31 = .ok (.iload_n 3, 1) := by decide +kernel
theorem dX6_takeWord_32 : decode cX6_takeWord 32 = .ok (.ldc 93, 2) := by decide +kernel
theorem dX6_takeWord_34 : decode cX6_takeWord 34 = .ok (.invokestatic 89, 3) := by decide +kernel
theorem dX6_takeWord_37 : decode cX6_takeWord 37 = .ok (.ifCond .eq 26, 3) := by decide +kernel
theorem dX6_takeWord_40 : decode cX6_takeWord 40 = .ok (.aload_n 0, 1) := by decide +kernel
theorem dX6_takeWord_41 : decode cX6_takeWord 41 = .ok (.iconst 2, 1) := by decide +kernel
theorem dX6_takeWord_42 : decode cX6_takeWord 42 = .ok (.putfield 28, 3) := by decide +kernel
theorem dX6_takeWord_45 : decode cX6_takeWord 45 = .ok (.aload_n 0, 1) := by decide +kernel
theorem dX6_takeWord_46 : decode cX6_takeWord 46 = .ok (.getfield 12, 3) := by decide +kernel
theorem dX6_takeWord_49 : decode cX6_takeWord 49 = .ok (.getfield 69, 3) := by decide +kernel
theorem dX6_takeWord_52 : decode cX6_takeWord 52 = .ok (.bipush 6, 2) := by decide +kernel
theorem dX6_takeWord_54 : decode cX6_takeWord 54 = .ok (.if_icmp .lt 7, 3) := by decide +kernel
theorem dX6_takeWord_57 : decode cX6_takeWord 57 = .ok (.iconst 2, 1) := by decide +kernel
theorem dX6_takeWord_58 : decode cX6_takeWord 58 = .ok (.goto 4, 3) := by decide +kernel
theorem dX6_takeWord_61 : decode cX6_takeWord 61 = .ok (.iconst 0, 1) := by decide +kernel
theorem dX6_takeWord_62 : decode cX6_takeWord 62 = .ok (.ireturn, 1) := by decide +kernel
theorem dX6_takeWord_63 : decode cX6_takeWord 63 = .ok (.aload_n 1, 1) := by decide +kernel
theorem dX6_takeWord_64 : decode cX6_takeWord 64 = .ok (.iload_n 2, 1) := by decide +kernel
theorem dX6_takeWord_65 : decode cX6_takeWord 65 = .ok (.iload_n 3, 1) := by decide +kernel
theorem dX6_takeWord_66 : decode cX6_takeWord 66 = .ok (.ldc 95, 2) := by decide +kernel
theorem dX6_takeWord_68 : decode cX6_takeWord 68 = .ok (.invokestatic 89, 3) := by decide +kernel
theorem dX6_takeWord_71 : decode cX6_takeWord 71 = .ok (.ifCond .eq 33, 3) := by decide +kernel
theorem dX6_takeWord_74 : decode cX6_takeWord 74 = .ok (.aload_n 0, 1) := by decide +kernel
theorem dX6_takeWord_75 : decode cX6_takeWord 75 = .ok (.iconst 4, 1) := by decide +kernel
theorem dX6_takeWord_76 : decode cX6_takeWord 76 = .ok (.putfield 28, 3) := by decide +kernel
theorem dX6_takeWord_79 : decode cX6_takeWord 79 = .ok (.aload_n 0, 1) := by decide +kernel
theorem dX6_takeWord_80 : decode cX6_takeWord 80 = .ok (.dup, 1) := by decide +kernel
theorem dX6_takeWord_81 : decode cX6_takeWord 81 = .ok (.getfield 34, 3) := by decide +kernel
theorem dX6_takeWord_84 : decode cX6_takeWord 84 = .ok (.iconst 1, 1) := by decide +kernel
theorem dX6_takeWord_85 : decode cX6_takeWord 85 = .ok (.iadd, 1) := by decide +kernel
theorem dX6_takeWord_86 : decode cX6_takeWord 86 = .ok (.putfield 34, 3) := by decide +kernel
theorem dX6_takeWord_89 : decode cX6_takeWord 89 = .ok (.aload_n 0, 1) := by decide +kernel
theorem dX6_takeWord_90 : decode cX6_takeWord 90 = .ok (.getfield 34, 3) := by decide +kernel
theorem dX6_takeWord_93 : decode cX6_takeWord 93 = .ok (.bipush 12, 2) := by decide +kernel
theorem dX6_takeWord_95 : decode cX6_takeWord 95 = .ok (.if_icmp .le 7, 3) := by decide +kernel
theorem dX6_takeWord_98 : decode cX6_takeWord 98 = .ok (.iconst 2, 1) := by decide +kernel
theorem dX6_takeWord_99 : decode cX6_takeWord 99 = .ok (.goto 4, 3) := by decide +kernel
theorem dX6_takeWord_102 : decode cX6_takeWord 102 = .ok (.iconst 0, 1) := by decide +kernel
theorem dX6_takeWord_103 : decode cX6_takeWord 103 = .ok (.ireturn, 1) := by decide +kernel
theorem dX6_takeWord_104 : decode cX6_takeWord 104 = .ok (.iconst 1, 1) := by decide +kernel
theorem dX6_takeWord_105 : decode cX6_takeWord 105 = .ok (.ireturn, 1) := by decide +kernel
theorem dX6_isWord_0 : decode cX6_isWord 0 = .ok (.iload_n 2, 1) := by decide +kernel
theorem dX6_isWord_1 : decode cX6_isWord 1 = .ok (.iload_n 1, 1) := by decide +kernel
theorem dX6_isWord_2 : decode cX6_isWord 2 = .ok (.isub, 1) := by decide +kernel
theorem dX6_isWord_3 : decode cX6_isWord 3 = .ok (.aload_n 3, 1) := by decide +kernel
theorem dX6_isWord_4 : decode cX6_isWord 4 = .ok (.invokevirtual 97, 3) := by decide +kernel
theorem dX6_isWord_7 : decode cX6_isWord 7 = .ok (.if_icmp .eq 5, 3) := by decide +kernel
theorem dX6_isWord_10 : decode cX6_isWord 10 = .ok (.iconst 0, 1) := by decide +kernel
theorem dX6_isWord_11 : decode cX6_isWord 11 = .ok (.ireturn, 1) := by decide +kernel
theorem dX6_isWord_12 : decode cX6_isWord 12 = .ok (.iconst 0, 1) := by decide +kernel
theorem dX6_isWord_13 : decode cX6_isWord 13 = .ok (.istore 4, 2) := by decide +kernel
theorem dX6_isWord_15 : decode cX6_isWord 15 = .ok (.iload 4, 2) := by decide +kernel
theorem dX6_isWord_17 : decode cX6_isWord 17 = .ok (.aload_n 3, 1) := by decide +kernel
theorem dX6_isWord_18 : decode cX6_isWord 18 = .ok (.invokevirtual 97, 3) := by decide +kernel
theorem dX6_isWord_21 : decode cX6_isWord 21 = .ok (.if_icmp .ge 26, 3) := by decide +kernel
theorem dX6_isWord_24 : decode cX6_isWord 24 = .ok (.aload_n 0, 1) := by decide +kernel
theorem dX6_isWord_25 : decode cX6_isWord 25 = .ok (.iload_n 1, 1) := by decide +kernel
theorem dX6_isWord_26 : decode cX6_isWord 26 = .ok (.iload 4, 2) := by decide +kernel
theorem dX6_isWord_28 : decode cX6_isWord 28 = .ok (.iadd, 1) := by decide +kernel
theorem dX6_isWord_29 : decode cX6_isWord 29 = .ok (.baload, 1) := by decide +kernel
theorem dX6_isWord_30 : decode cX6_isWord 30 = .ok (.aload_n 3, 1) := by decide +kernel
theorem dX6_isWord_31 : decode cX6_isWord 31 = .ok (.iload 4, 2) := by decide +kernel
theorem dX6_isWord_33 : decode cX6_isWord 33 = .ok (.invokevirtual 103, 3) := by decide +kernel
theorem dX6_isWord_36 : decode cX6_isWord 36 = .ok (.if_icmp .eq 5, 3) := by decide +kernel
theorem dX6_isWord_39 : decode cX6_isWord 39 = .ok (.iconst 0, 1) := by decide +kernel
theorem dX6_isWord_40 : decode cX6_isWord 40 = .ok (.ireturn, 1) := by decide +kernel
theorem dX6_isWord_41 : decode cX6_isWord 41 = .ok (.iinc 4 1, 3) := by decide +kernel
theorem dX6_isWord_44 : decode cX6_isWord 44 = .ok (.goto (-29), 3) := by decide +kernel
theorem dX6_isWord_47 : decode cX6_isWord 47 = .ok (.iconst 1, 1) := by decide +kernel
theorem dX6_isWord_48 : decode cX6_isWord 48 = .ok (.ireturn, 1) := by decide +kernel
theorem dX6_numberOf_0 : decode cX6_numberOf 0 = .ok (.iconst 0, 1) := by decide +kernel
theorem dX6_numberOf_1 : decode cX6_numberOf 1 = .ok (.istore_n 3, 1) := by decide +kernel
theorem dX6_numberOf_2 : decode cX6_numberOf 2 = .ok (.iload_n 1, 1) := by decide +kernel
theorem dX6_numberOf_3 : decode cX6_numberOf 3 = .ok (.istore 4, 2) := by decide +kernel
theorem dX6_numberOf_5 : decode cX6_numberOf 5 = .ok (.iload 4, 2) := by decide +kernel
theorem dX6_numberOf_7 : decode cX6_numberOf 7 = .ok (.iload_n 2, 1) := by decide +kernel
theorem dX6_numberOf_8 : decode cX6_numberOf 8 = .ok (.if_icmp .ge 22, 3) := by decide +kernel
theorem dX6_numberOf_11 : decode cX6_numberOf 11 = .ok (.bipush 10, 2) := by decide +kernel
theorem dX6_numberOf_13 : decode cX6_numberOf 13 = .ok (.iload_n 3, 1) := by decide +kernel
theorem dX6_numberOf_14 : decode cX6_numberOf 14 = .ok (.imul, 1) := by decide +kernel
theorem dX6_numberOf_15 : decode cX6_numberOf 15 = .ok (.aload_n 0, 1) := by decide +kernel
theorem dX6_numberOf_16 : decode cX6_numberOf 16 = .ok (.iload 4, 2) := by decide +kernel
theorem dX6_numberOf_18 : decode cX6_numberOf 18 = .ok (.baload, 1) := by decide +kernel
theorem dX6_numberOf_19 : decode cX6_numberOf 19 = .ok (.iadd, 1) := by decide +kernel
theorem dX6_numberOf_20 : decode cX6_numberOf 20 = .ok (.bipush 48, 2) := by decide +kernel
theorem dX6_numberOf_22 : decode cX6_numberOf 22 = .ok (.isub, 1) := by decide +kernel
theorem dX6_numberOf_23 : decode cX6_numberOf 23 = .ok (.istore_n 3, 1) := by decide +kernel
theorem dX6_numberOf_24 : decode cX6_numberOf 24 = .ok (.iinc 4 1, 3) := by decide +kernel
theorem dX6_numberOf_27 : decode cX6_numberOf 27 = .ok (.goto (-22), 3) := by decide +kernel
theorem dX6_numberOf_30 : decode cX6_numberOf 30 = .ok (.iload_n 3, 1) := by decide +kernel
theorem dX6_numberOf_31 : decode cX6_numberOf 31 = .ok (.ireturn, 1) := by decide +kernel
theorem dX6_takeNumber_0 : decode cX6_takeNumber 0 = .ok (.aload_n 0, 1) := by decide +kernel
theorem dX6_takeNumber_1 : decode cX6_takeNumber 1 = .ok (.getfield 28, 3) := by decide +kernel
theorem dX6_takeNumber_4 : decode cX6_takeNumber 4 = .ok (.tableswitch 46 1 3 #[28, 34, 40], 28) := by decide +kernel
theorem dX6_takeNumber_32 : decode cX6_takeNumber 32 = .ok (.aload_n 0, 1) := by decide +kernel
theorem dX6_takeNumber_33 : decode cX6_takeNumber 33 = .ok (.iload_n 1, 1) := by decide +kernel
theorem dX6_takeNumber_34 : decode cX6_takeNumber 34 = .ok (.invokevirtual 107, 3) := by decide +kernel
theorem dX6_takeNumber_37 : decode cX6_takeNumber 37 = .ok (.ireturn, 1) := by decide +kernel
theorem dX6_takeNumber_38 : decode cX6_takeNumber 38 = .ok (.aload_n 0, 1) := by decide +kernel
theorem dX6_takeNumber_39 : decode cX6_takeNumber 39 = .ok (.iload_n 1, 1) := by decide +kernel
theorem dX6_takeNumber_40 : decode cX6_takeNumber 40 = .ok (.invokevirtual 110, 3) := by decide +kernel
theorem dX6_takeNumber_43 : decode cX6_takeNumber 43 = .ok (.ireturn, 1) := by decide +kernel
theorem dX6_takeNumber_44 : decode cX6_takeNumber 44 = .ok (.aload_n 0, 1) := by decide +kernel
theorem dX6_takeNumber_45 : decode cX6_takeNumber 45 = .ok (.iload_n 1, 1) := by decide +kernel
theorem dX6_takeNumber_46 : decode cX6_takeNumber 46 = .ok (.invokevirtual 113, 3) := by decide +kernel
theorem dX6_takeNumber_49 : decode cX6_takeNumber 49 = .ok (.ireturn, 1) := by decide +kernel
theorem dX6_takeNumber_50 : decode cX6_takeNumber 50 = .ok (.aload_n 0, 1) := by decide +kernel
theorem dX6_takeNumber_51 : decode cX6_takeNumber 51 = .ok (.iload_n 1, 1) := by decide +kernel
theorem dX6_takeNumber_52 : decode cX6_takeNumber 52 = .ok (.invokevirtual 116, 3) := by decide +kernel
theorem dX6_takeNumber_55 : decode cX6_takeNumber 55 = .ok (.ireturn, 1) := by decide +kernel
theorem dX6_takeCapacity_0 : decode cX6_takeCapacity 0 = .ok (.iload_n 1, 1) := by decide +kernel
theorem dX6_takeCapacity_1 : decode cX6_takeCapacity 1 = .ok (.iconst 1, 1) := by decide +kernel
theorem dX6_takeCapacity_2 : decode cX6_takeCapacity 2 = .ok (.if_icmp .lt 9, 3) := by decide +kernel
theorem dX6_takeCapacity_5 : decode cX6_takeCapacity 5 = .ok (.iload_n 1, 1) := by decide +kernel
theorem dX6_takeCapacity_6 : decode cX6_takeCapacity 6 = .ok (.bipush 99, 2) := by decide +kernel
theorem dX6_takeCapacity_8 : decode cX6_takeCapacity 8 = .ok (.if_icmp .le 5, 3) := by decide +kernel
theorem dX6_takeCapacity_11 : decode cX6_takeCapacity 11 = .ok (.iconst 2, 1) := by decide +kernel
theorem dX6_takeCapacity_12 : decode cX6_takeCapacity 12 = .ok (.ireturn, 1) := by decide +kernel
theorem dX6_takeCapacity_13 : decode cX6_takeCapacity 13 = .ok (.aload_n 0, 1) := by decide +kernel
theorem dX6_takeCapacity_14 : decode cX6_takeCapacity 14 = .ok (.getfield 12, 3) := by decide +kernel
theorem dX6_takeCapacity_17 : decode cX6_takeCapacity 17 = .ok (.iload_n 1, 1) := by decide +kernel
theorem dX6_takeCapacity_18 : decode cX6_takeCapacity 18 = .ok (.putfield 66, 3) := by decide +kernel
theorem dX6_takeCapacity_21 : decode cX6_takeCapacity 21 = .ok (.aload_n 0, 1) := by decide +kernel
theorem dX6_takeCapacity_22 : decode cX6_takeCapacity 22 = .ok (.bipush 6, 2) := by decide +kernel
theorem dX6_takeCapacity_24 : decode cX6_takeCapacity 24 = .ok (.putfield 28, 3) := by decide +kernel
theorem dX6_takeCapacity_27 : decode cX6_takeCapacity 27 = .ok (.iconst 0, 1) := by decide +kernel
theorem dX6_takeCapacity_28 : decode cX6_takeCapacity 28 = .ok (.ireturn, 1) := by decide +kernel
theorem dX6_takeSize_0 : decode cX6_takeSize 0 = .ok (.iload_n 1, 1) := by decide +kernel
theorem dX6_takeSize_1 : decode cX6_takeSize 1 = .ok (.iconst 1, 1) := by decide +kernel
theorem dX6_takeSize_2 : decode cX6_takeSize 2 = .ok (.if_icmp .lt 14, 3) := by decide +kernel
theorem dX6_takeSize_5 : decode cX6_takeSize 5 = .ok (.iload_n 1, 1) := by decide +kernel
theorem dX6_takeSize_6 : decode cX6_takeSize 6 = .ok (.aload_n 0, 1) := by decide +kernel
theorem dX6_takeSize_7 : decode cX6_takeSize 7 = .ok (.getfield 12, 3) := by decide +kernel
theorem dX6_takeSize_10 : decode cX6_takeSize 10 = .ok (.getfield 66, 3) := by decide +kernel
theorem dX6_takeSize_13 : decode cX6_takeSize 13 = .ok (.if_icmp .le 5, 3) := by decide +kernel
theorem dX6_takeSize_16 : decode cX6_takeSize 16 = .ok (.iconst 2, 1) := by decide +kernel
theorem dX6_takeSize_17 : decode cX6_takeSize 17 = .ok (.ireturn, 1) := by decide +kernel
theorem dX6_takeSize_18 : decode cX6_takeSize 18 = .ok (.aload_n 0, 1) := by decide +kernel
theorem dX6_takeSize_19 : decode cX6_takeSize 19 = .ok (.iload_n 1, 1) := by decide +kernel
theorem dX6_takeSize_20 : decode cX6_takeSize 20 = .ok (.putfield 40, 3) := by decide +kernel
theorem dX6_takeSize_23 : decode cX6_takeSize 23 = .ok (.aload_n 0, 1) := by decide +kernel
theorem dX6_takeSize_24 : decode cX6_takeSize 24 = .ok (.iconst 3, 1) := by decide +kernel
theorem dX6_takeSize_25 : decode cX6_takeSize 25 = .ok (.putfield 28, 3) := by decide +kernel
theorem dX6_takeSize_28 : decode cX6_takeSize 28 = .ok (.iconst 0, 1) := by decide +kernel
theorem dX6_takeSize_29 : decode cX6_takeSize 29 = .ok (.ireturn, 1) := by decide +kernel
theorem dX6_takeRest_0 : decode cX6_takeRest 0 = .ok (.iload_n 1, 1) := by decide +kernel
theorem dX6_takeRest_1 : decode cX6_takeRest 1 = .ok (.bipush 12, 2) := by decide +kernel
theorem dX6_takeRest_3 : decode cX6_takeRest 3 = .ok (.if_icmp .gt 26, 3) := by decide +kernel
theorem dX6_takeRest_6 : decode cX6_takeRest 6 = .ok (.aload_n 0, 1) := by decide +kernel
theorem dX6_takeRest_7 : decode cX6_takeRest 7 = .ok (.getfield 37, 3) := by decide +kernel
theorem dX6_takeRest_10 : decode cX6_takeRest 10 = .ok (.iload_n 1, 1) := by decide +kernel
theorem dX6_takeRest_11 : decode cX6_takeRest 11 = .ok (.iadd, 1) := by decide +kernel
theorem dX6_takeRest_12 : decode cX6_takeRest 12 = .ok (.bipush 24, 2) := by decide +kernel
theorem dX6_takeRest_14 : decode cX6_takeRest 14 = .ok (.if_icmp .gt 15, 3) := by decide +kernel
theorem dX6_takeRest_17 : decode cX6_takeRest 17 = .ok (.aload_n 0, 1) := by decide +kernel
theorem dX6_takeRest_18 : decode cX6_takeRest 18 = .ok (.getfield 12, 3) := by decide +kernel
theorem dX6_takeRest_21 : decode cX6_takeRest 21 = .ok (.getfield 69, 3) := by decide +kernel
theorem dX6_takeRest_24 : decode cX6_takeRest 24 = .ok (.bipush 6, 2) := by decide +kernel
theorem dX6_takeRest_26 : decode cX6_takeRest 26 = .ok (.if_icmp .lt 5, 3) := by decide +kernel
theorem dX6_takeRest_29 : decode cX6_takeRest 29 = .ok (.iconst 2, 1) := by decide +kernel
theorem dX6_takeRest_30 : decode cX6_takeRest 30 = .ok (.ireturn, 1) := by decide +kernel
theorem dX6_takeRest_31 : decode cX6_takeRest 31 = .ok (.aload_n 0, 1) := by decide +kernel
theorem dX6_takeRest_32 : decode cX6_takeRest 32 = .ok (.dup, 1) := by decide +kernel
theorem dX6_takeRest_33 : decode cX6_takeRest 33 = .ok (.getfield 37, 3) := by decide +kernel
theorem dX6_takeRest_36 : decode cX6_takeRest 36 = .ok (.iload_n 1, 1) := by decide +kernel
theorem dX6_takeRest_37 : decode cX6_takeRest 37 = .ok (.iadd, 1) := by decide +kernel
theorem dX6_takeRest_38 : decode cX6_takeRest 38 = .ok (.putfield 37, 3) := by decide +kernel
theorem dX6_takeRest_41 : decode cX6_takeRest 41 = .ok (.aload_n 0, 1) := by decide +kernel
theorem dX6_takeRest_42 : decode cX6_takeRest 42 = .ok (.getfield 12, 3) := by decide +kernel
theorem dX6_takeRest_45 : decode cX6_takeRest 45 = .ok (.getfield 119, 3) := by decide +kernel
theorem dX6_takeRest_48 : decode cX6_takeRest 48 = .ok (.aload_n 0, 1) := by decide +kernel
theorem dX6_takeRest_49 : decode cX6_takeRest 49 = .ok (.getfield 12, 3) := by decide +kernel
theorem dX6_takeRest_52 : decode cX6_takeRest 52 = .ok (.getfield 69, 3) := by decide +kernel
theorem dX6_takeRest_55 : decode cX6_takeRest 55 = .ok (.aload_n 0, 1) := by decide +kernel
theorem dX6_takeRest_56 : decode cX6_takeRest 56 = .ok (.getfield 40, 3) := by decide +kernel
theorem dX6_takeRest_59 : decode cX6_takeRest 59 = .ok (.iastore, 1) := by decide +kernel
theorem dX6_takeRest_60 : decode cX6_takeRest 60 = .ok (.aload_n 0, 1) := by decide +kernel
theorem dX6_takeRest_61 : decode cX6_takeRest 61 = .ok (.getfield 20, 3) := by decide +kernel
theorem dX6_takeRest_64 : decode cX6_takeRest 64 = .ok (.bipush 12, 2) := by decide +kernel
theorem dX6_takeRest_66 : decode cX6_takeRest 66 = .ok (.dup2, 1) := by decide +kernel
theorem dX6_takeRest_67 : decode cX6_takeRest 67 = .ok (.laload, 1) := by decide +kernel
theorem dX6_takeRest_68 : decode cX6_takeRest 68 = .ok (.iload_n 1, 1) := by decide +kernel
theorem dX6_takeRest_69 : decode cX6_takeRest 69 = .ok (.i2l, 1) := by decide +kernel
theorem dX6_takeRest_70 : decode cX6_takeRest 70 = .ok (.aload_n 0, 1) := by decide +kernel
theorem dX6_takeRest_71 : decode cX6_takeRest 71 = .ok (.getfield 12, 3) := by decide +kernel
theorem dX6_takeRest_74 : decode cX6_takeRest 74 = .ok (.getfield 69, 3) := by decide +kernel
theorem dX6_takeRest_77 : decode cX6_takeRest 77 = .ok (.invokestatic 123, 3) := by decide +kernel
theorem dX6_takeRest_80 : decode cX6_takeRest 80 = .ok (.lmul, 1) := by decide +kernel
theorem dX6_takeRest_81 : decode cX6_takeRest 81 = .ok (.ladd, 1) := by decide +kernel
theorem dX6_takeRest_82 : decode cX6_takeRest 82 = .ok (.lastore, 1) := by decide +kernel
theorem dX6_takeRest_83 : decode cX6_takeRest 83 = .ok (.aload_n 0, 1) := by decide +kernel
theorem dX6_takeRest_84 : decode cX6_takeRest 84 = .ok (.getfield 12, 3) := by decide +kernel
theorem dX6_takeRest_87 : decode cX6_takeRest 87 = .ok (.dup, 1) := by decide +kernel
theorem dX6_takeRest_88 : decode cX6_takeRest 88 = .ok (.getfield 69, 3) := by decide +kernel
theorem dX6_takeRest_91 : decode cX6_takeRest 91 = .ok (.iconst 1, 1) := by decide +kernel
theorem dX6_takeRest_92 : decode cX6_takeRest 92 = .ok (.iadd, 1) := by decide +kernel
theorem dX6_takeRest_93 : decode cX6_takeRest 93 = .ok (.putfield 69, 3) := by decide +kernel
theorem dX6_takeRest_96 : decode cX6_takeRest 96 = .ok (.aload_n 0, 1) := by decide +kernel
theorem dX6_takeRest_97 : decode cX6_takeRest 97 = .ok (.bipush 6, 2) := by decide +kernel
theorem dX6_takeRest_99 : decode cX6_takeRest 99 = .ok (.putfield 28, 3) := by decide +kernel
theorem dX6_takeRest_102 : decode cX6_takeRest 102 = .ok (.iconst 0, 1) := by decide +kernel
theorem dX6_takeRest_103 : decode cX6_takeRest 103 = .ok (.ireturn, 1) := by decide +kernel
theorem dX6_takeSort_0 : decode cX6_takeSort 0 = .ok (.iload_n 1, 1) := by decide +kernel
theorem dX6_takeSort_1 : decode cX6_takeSort 1 = .ok (.bipush 6, 2) := by decide +kernel
theorem dX6_takeSort_3 : decode cX6_takeSort 3 = .ok (.if_icmp .lt 5, 3) := by decide +kernel
theorem dX6_takeSort_6 : decode cX6_takeSort 6 = .ok (.iconst 2, 1) := by decide +kernel
theorem dX6_takeSort_7 : decode cX6_takeSort 7 = .ok (.ireturn, 1) := by decide +kernel
theorem dX6_takeSort_8 : decode cX6_takeSort 8 = .ok (.iload_n 1, 1) := by decide +kernel
theorem dX6_takeSort_9 : decode cX6_takeSort 9 = .ok (.aload_n 0, 1) := by decide +kernel
theorem dX6_takeSort_10 : decode cX6_takeSort 10 = .ok (.getfield 12, 3) := by decide +kernel
theorem dX6_takeSort_13 : decode cX6_takeSort 13 = .ok (.getfield 69, 3) := by decide +kernel
theorem dX6_takeSort_16 : decode cX6_takeSort 16 = .ok (.if_icmp .lt 5, 3) := by decide +kernel
theorem dX6_takeSort_19 : decode cX6_takeSort 19 = .ok (.iconst 3, 1) := by decide +kernel
theorem dX6_takeSort_20 : decode cX6_takeSort 20 = .ok (.ireturn, 1) := by decide +kernel
theorem dX6_takeSort_21 : decode cX6_takeSort 21 = .ok (.aload_n 0, 1) := by decide +kernel
theorem dX6_takeSort_22 : decode cX6_takeSort 22 = .ok (.getfield 34, 3) := by decide +kernel
theorem dX6_takeSort_25 : decode cX6_takeSort 25 = .ok (.iconst 1, 1) := by decide +kernel
theorem dX6_takeSort_26 : decode cX6_takeSort 26 = .ok (.isub, 1) := by decide +kernel
theorem dX6_takeSort_27 : decode cX6_takeSort 27 = .ok (.istore_n 2, 1) := by decide +kernel
theorem dX6_takeSort_28 : decode cX6_takeSort 28 = .ok (.iload_n 2, 1) := by decide +kernel
theorem dX6_takeSort_29 : decode cX6_takeSort 29 = .ok (.ifCond .lt 42, 3) := by decide +kernel
theorem dX6_takeSort_32 : decode cX6_takeSort 32 = .ok (.iload_n 2, 1) := by decide +kernel
theorem dX6_takeSort_33 : decode cX6_takeSort 33 = .ok (.bipush 12, 2) := by decide +kernel
theorem dX6_takeSort_35 : decode cX6_takeSort 35 = .ok (.if_icmp .ge 36, 3) := by decide +kernel
theorem dX6_takeSort_38 : decode cX6_takeSort 38 = .ok (.aload_n 0, 1) := by decide +kernel
theorem dX6_takeSort_39 : decode cX6_takeSort 39 = .ok (.getfield 12, 3) := by decide +kernel
theorem dX6_takeSort_42 : decode cX6_takeSort 42 = .ok (.aload_n 0, 1) := by decide +kernel
theorem dX6_takeSort_43 : decode cX6_takeSort 43 = .ok (.getfield 20, 3) := by decide +kernel
theorem dX6_takeSort_46 : decode cX6_takeSort 46 = .ok (.iload_n 2, 1) := by decide +kernel
theorem dX6_takeSort_47 : decode cX6_takeSort 47 = .ok (.laload, 1) := by decide +kernel
theorem dX6_takeSort_48 : decode cX6_takeSort 48 = .ok (.invokevirtual 127, 3) := by decide +kernel
theorem dX6_takeSort_51 : decode cX6_takeSort 51 = .ok (.aload_n 0, 1) := by decide +kernel
theorem dX6_takeSort_52 : decode cX6_takeSort 52 = .ok (.getfield 12, 3) := by decide +kernel
theorem dX6_takeSort_55 : decode cX6_takeSort 55 = .ok (.getfield 119, 3) := by decide +kernel
theorem dX6_takeSort_58 : decode cX6_takeSort 58 = .ok (.iload_n 1, 1) := by decide +kernel
theorem dX6_takeSort_59 : decode cX6_takeSort 59 = .ok (.iaload, 1) := by decide +kernel
theorem dX6_takeSort_60 : decode cX6_takeSort 60 = .ok (.iadd, 1) := by decide +kernel
theorem dX6_takeSort_61 : decode cX6_takeSort 61 = .ok (.aload_n 0, 1) := by decide +kernel
theorem dX6_takeSort_62 : decode cX6_takeSort 62 = .ok (.getfield 12, 3) := by decide +kernel
theorem dX6_takeSort_65 : decode cX6_takeSort 65 = .ok (.getfield 66, 3) := by decide +kernel
theorem dX6_takeSort_68 : decode cX6_takeSort 68 = .ok (.if_icmp .le 5, 3) := by decide +kernel
theorem dX6_takeSort_71 : decode cX6_takeSort 71 = .ok (.iconst 5, 1) := by decide +kernel
theorem dX6_takeSort_72 : decode cX6_takeSort 72 = .ok (.ireturn, 1) := by decide +kernel
theorem dX6_takeSort_73 : decode cX6_takeSort 73 = .ok (.aload_n 0, 1) := by decide +kernel
theorem dX6_takeSort_74 : decode cX6_takeSort 74 = .ok (.getfield 20, 3) := by decide +kernel
theorem dX6_takeSort_77 : decode cX6_takeSort 77 = .ok (.iload_n 2, 1) := by decide +kernel
theorem dX6_takeSort_78 : decode cX6_takeSort 78 = .ok (.dup2, 1) := by decide +kernel
theorem dX6_takeSort_79 : decode cX6_takeSort 79 = .ok (.laload, 1) := by decide +kernel
theorem dX6_takeSort_80 : decode cX6_takeSort 80 = .ok (.iload_n 1, 1) := by decide +kernel
theorem dX6_takeSort_81 : decode cX6_takeSort 81 = .ok (.invokestatic 123, 3) := by decide +kernel
theorem dX6_takeSort_84 : decode cX6_takeSort 84 = .ok (.ladd, 1) := by decide +kernel
theorem dX6_takeSort_85 : decode cX6_takeSort 85 = .ok (.lastore, 1) := by decide +kernel
theorem dX6_takeSort_86 : decode cX6_takeSort 86 = .ok (.aload_n 0, 1) := by decide +kernel
theorem dX6_takeSort_87 : decode cX6_takeSort 87 = .ok (.iconst 5, 1) := by decide +kernel
theorem dX6_takeSort_88 : decode cX6_takeSort 88 = .ok (.putfield 28, 3) := by decide +kernel
theorem dX6_takeSort_91 : decode cX6_takeSort 91 = .ok (.iconst 0, 1) := by decide +kernel
theorem dX6_takeSort_92 : decode cX6_takeSort 92 = .ok (.ireturn, 1) := by decide +kernel
theorem dX7_init_0 : decode cX7_init 0 = .ok (.aload_n 0, 1) := by decide +kernel
theorem dX7_init_1 : decode cX7_init 1 = .ok (.invokespecial 3, 3) := by decide +kernel
theorem dX7_init_4 : decode cX7_init 4 = .ok (.aload_n 0, 1) := by decide +kernel
theorem dX7_init_5 : decode cX7_init 5 = .ok (.bipush 14, 2) := by decide +kernel
theorem dX7_init_7 : decode cX7_init 7 = .ok (.newarray .long, 2) := by decide +kernel
theorem dX7_init_9 : decode cX7_init 9 = .ok (.putfield 11, 3) := by decide +kernel
theorem dX7_init_12 : decode cX7_init 12 = .ok (.aload_n 0, 1) := by decide +kernel
theorem dX7_init_13 : decode cX7_init 13 = .ok (.iconst 3, 1) := by decide +kernel
theorem dX7_init_14 : decode cX7_init 14 = .ok (.newarray .int, 2) := by decide +kernel
theorem dX7_init_16 : decode cX7_init 16 = .ok (.putfield 15, 3) := by decide +kernel
theorem dX7_init_19 : decode cX7_init 19 = .ok (.aload_n 0, 1) := by decide +kernel
theorem dX7_init_20 : decode cX7_init 20 = .ok (.iconst 0, 1) := by decide +kernel
theorem dX7_init_21 : decode cX7_init 21 = .ok (.putfield 19, 3) := by decide +kernel
theorem dX7_init_24 : decode cX7_init 24 = .ok (.aload_n 0, 1) := by decide +kernel
theorem dX7_init_25 : decode cX7_init 25 = .ok (.iconst 0, 1) := by decide +kernel
theorem dX7_init_26 : decode cX7_init 26 = .ok (.putfield 23, 3) := by decide +kernel
theorem dX7_init_29 : decode cX7_init 29 = .ok (.aload_n 0, 1) := by decide +kernel
theorem dX7_init_30 : decode cX7_init 30 = .ok (.sipush 560, 3) := by decide +kernel
theorem dX7_init_33 : decode cX7_init 33 = .ok (.newarray .long, 2) := by decide +kernel
theorem dX7_init_35 : decode cX7_init 35 = .ok (.putfield 26, 3) := by decide +kernel
theorem dX7_init_38 : decode cX7_init 38 = .ok (.aload_n 0, 1) := by decide +kernel
theorem dX7_init_39 : decode cX7_init 39 = .ok (.bipush 8, 2) := by decide +kernel
theorem dX7_init_41 : decode cX7_init 41 = .ok (.newarray .int, 2) := by decide +kernel
theorem dX7_init_43 : decode cX7_init 43 = .ok (.putfield 29, 3) := by decide +kernel
theorem dX7_init_46 : decode cX7_init 46 = .ok (.aload_n 0, 1) := by decide +kernel
theorem dX7_init_47 : decode cX7_init 47 = .ok (.bipush 8, 2) := by decide +kernel
theorem dX7_init_49 : decode cX7_init 49 = .ok (.newarray .int, 2) := by decide +kernel
theorem dX7_init_51 : decode cX7_init 51 = .ok (.putfield 32, 3) := by decide +kernel
theorem dX7_init_54 : decode cX7_init 54 = .ok (.return_, 1) := by decide +kernel
theorem dX7_part_0 : decode cX7_part 0 = .ok (.lload_n 0, 1) := by decide +kernel
theorem dX7_part_1 : decode cX7_part 1 = .ok (.bipush 7, 2) := by decide +kernel
theorem dX7_part_3 : decode cX7_part 3 = .ok (.iload_n 2, 1) := by decide +kernel
theorem dX7_part_4 : decode cX7_part 4 = .ok (.imul, 1) := by decide +kernel
theorem dX7_part_5 : decode cX7_part 5 = .ok (.lshr, 1) := by decide +kernel
theorem dX7_part_6 : decode cX7_part 6 = .ok (.l2i, 1) := by decide +kernel
theorem dX7_part_7 : decode cX7_part 7 = .ok (.bipush 127, 2) := by decide +kernel
theorem dX7_part_9 : decode cX7_part 9 = .ok (.iand, 1) := by decide +kernel
theorem dX7_part_10 : decode cX7_part 10 = .ok (.ireturn, 1) := by decide +kernel
theorem dX7_one_0 : decode cX7_one 0 = .ok (.lconst 1, 1) := by decide +kernel
theorem dX7_one_1 : decode cX7_one 1 = .ok (.bipush 7, 2) := by decide +kernel
theorem dX7_one_3 : decode cX7_one 3 = .ok (.iload_n 0, 1) := by decide +kernel
theorem dX7_one_4 : decode cX7_one 4 = .ok (.imul, 1) := by decide +kernel
theorem dX7_one_5 : decode cX7_one 5 = .ok (.lshl, 1) := by decide +kernel
theorem dX7_one_6 : decode cX7_one 6 = .ok (.lreturn, 1) := by decide +kernel
theorem dX7_becomeLike_0 : decode cX7_becomeLike 0 = .ok (.aload_n 0, 1) := by decide +kernel
theorem dX7_becomeLike_1 : decode cX7_becomeLike 1 = .ok (.aload_n 1, 1) := by decide +kernel
theorem dX7_becomeLike_2 : decode cX7_becomeLike 2 = .ok (.getfield 19, 3) := by decide +kernel
theorem dX7_becomeLike_5 : decode cX7_becomeLike 5 = .ok (.putfield 19, 3) := by decide +kernel
theorem dX7_becomeLike_8 : decode cX7_becomeLike 8 = .ok (.aload_n 0, 1) := by decide +kernel
theorem dX7_becomeLike_9 : decode cX7_becomeLike 9 = .ok (.aload_n 1, 1) := by decide +kernel
theorem dX7_becomeLike_10 : decode cX7_becomeLike 10 = .ok (.getfield 23, 3) := by decide +kernel
theorem dX7_becomeLike_13 : decode cX7_becomeLike 13 = .ok (.putfield 23, 3) := by decide +kernel
theorem dX7_becomeLike_16 : decode cX7_becomeLike 16 = .ok (.aload_n 1, 1) := by decide +kernel
theorem dX7_becomeLike_17 : decode cX7_becomeLike 17 = .ok (.getfield 11, 3) := by decide +kernel
theorem dX7_becomeLike_20 : decode cX7_becomeLike 20 = .ok (.iconst 0, 1) := by decide +kernel
theorem dX7_becomeLike_21 : decode cX7_becomeLike 21 = .ok (.aload_n 0, 1) := by decide +kernel
theorem dX7_becomeLike_22 : decode cX7_becomeLike 22 = .ok (.getfield 11, 3) := by decide +kernel
theorem dX7_becomeLike_25 : decode cX7_becomeLike 25 = .ok (.iconst 0, 1) := by decide +kernel
theorem dX7_becomeLike_26 : decode cX7_becomeLike 26 = .ok (.bipush 14, 2) := by decide +kernel
theorem dX7_becomeLike_28 : decode cX7_becomeLike 28 = .ok (.invokestatic 35, 3) := by decide +kernel
theorem dX7_becomeLike_31 : decode cX7_becomeLike 31 = .ok (.aload_n 1, 1) := by decide +kernel
theorem dX7_becomeLike_32 : decode cX7_becomeLike 32 = .ok (.getfield 15, 3) := by decide +kernel
theorem dX7_becomeLike_35 : decode cX7_becomeLike 35 = .ok (.iconst 0, 1) := by decide +kernel
theorem dX7_becomeLike_36 : decode cX7_becomeLike 36 = .ok (.aload_n 0, 1) := by decide +kernel
theorem dX7_becomeLike_37 : decode cX7_becomeLike 37 = .ok (.getfield 15, 3) := by decide +kernel
theorem dX7_becomeLike_40 : decode cX7_becomeLike 40 = .ok (.iconst 0, 1) := by decide +kernel
theorem dX7_becomeLike_41 : decode cX7_becomeLike 41 = .ok (.iconst 3, 1) := by decide +kernel
theorem dX7_becomeLike_42 : decode cX7_becomeLike 42 = .ok (.invokestatic 35, 3) := by decide +kernel
theorem dX7_becomeLike_45 : decode cX7_becomeLike 45 = .ok (.aload_n 1, 1) := by decide +kernel
theorem dX7_becomeLike_46 : decode cX7_becomeLike 46 = .ok (.getfield 26, 3) := by decide +kernel
theorem dX7_becomeLike_49 : decode cX7_becomeLike 49 = .ok (.iconst 0, 1) := by decide +kernel
theorem dX7_becomeLike_50 : decode cX7_becomeLike 50 = .ok (.aload_n 0, 1) := by decide +kernel
theorem dX7_becomeLike_51 : decode cX7_becomeLike 51 = .ok (.getfield 26, 3) := by decide +kernel
theorem dX7_becomeLike_54 : decode cX7_becomeLike 54 = .ok (.iconst 0, 1) := by decide +kernel
theorem dX7_becomeLike_55 : decode cX7_becomeLike 55 = .ok (.sipush 560, 3) := by decide +kernel
theorem dX7_becomeLike_58 : decode cX7_becomeLike 58 = .ok (.invokestatic 35, 3) := by decide +kernel
theorem dX7_becomeLike_61 : decode cX7_becomeLike 61 = .ok (.aload_n 1, 1) := by decide +kernel
theorem dX7_becomeLike_62 : decode cX7_becomeLike 62 = .ok (.getfield 29, 3) := by decide +kernel
theorem dX7_becomeLike_65 : decode cX7_becomeLike 65 = .ok (.iconst 0, 1) := by decide +kernel
theorem dX7_becomeLike_66 : decode cX7_becomeLike 66 = .ok (.aload_n 0, 1) := by decide +kernel
theorem dX7_becomeLike_67 : decode cX7_becomeLike 67 = .ok (.getfield 29, 3) := by decide +kernel
theorem dX7_becomeLike_70 : decode cX7_becomeLike 70 = .ok (.iconst 0, 1) := by decide +kernel
theorem dX7_becomeLike_71 : decode cX7_becomeLike 71 = .ok (.bipush 8, 2) := by decide +kernel
theorem dX7_becomeLike_73 : decode cX7_becomeLike 73 = .ok (.invokestatic 35, 3) := by decide +kernel
theorem dX7_becomeLike_76 : decode cX7_becomeLike 76 = .ok (.aload_n 1, 1) := by decide +kernel
theorem dX7_becomeLike_77 : decode cX7_becomeLike 77 = .ok (.getfield 32, 3) := by decide +kernel
theorem dX7_becomeLike_80 : decode cX7_becomeLike 80 = .ok (.iconst 0, 1) := by decide +kernel
theorem dX7_becomeLike_81 : decode cX7_becomeLike 81 = .ok (.aload_n 0, 1) := by decide +kernel
theorem dX7_becomeLike_82 : decode cX7_becomeLike 82 = .ok (.getfield 32, 3) := by decide +kernel
theorem dX7_becomeLike_85 : decode cX7_becomeLike 85 = .ok (.iconst 0, 1) := by decide +kernel
theorem dX7_becomeLike_86 : decode cX7_becomeLike 86 = .ok (.bipush 8, 2) := by decide +kernel
theorem dX7_becomeLike_88 : decode cX7_becomeLike 88 = .ok (.invokestatic 35, 3) := by decide +kernel
theorem dX7_becomeLike_91 : decode cX7_becomeLike 91 = .ok (.return_, 1) := by decide +kernel
theorem dX7_beginWith_0 : decode cX7_beginWith 0 = .ok (.iconst 0, 1) := by decide +kernel
theorem dX7_beginWith_1 : decode cX7_beginWith 1 = .ok (.istore_n 2, 1) := by decide +kernel
theorem dX7_beginWith_2 : decode cX7_beginWith 2 = .ok (.iload_n 2, 1) := by decide +kernel
theorem dX7_beginWith_3 : decode cX7_beginWith 3 = .ok (.bipush 14, 2) := by decide +kernel
theorem dX7_beginWith_5 : decode cX7_beginWith 5 = .ok (.if_icmp .ge 24, 3) := by decide +kernel
theorem dX7_beginWith_8 : decode cX7_beginWith 8 = .ok (.iload_n 2, 1) := by decide +kernel
theorem dX7_beginWith_9 : decode cX7_beginWith 9 = .ok (.aload_n 1, 1) := by decide +kernel
theorem dX7_beginWith_10 : decode cX7_beginWith 10 = .ok (.arraylength, 1) := by decide +kernel
theorem dX7_beginWith_11 : decode cX7_beginWith 11 = .ok (.if_icmp .ge 18, 3) := by decide +kernel
theorem dX7_beginWith_14 : decode cX7_beginWith 14 = .ok (.aload_n 0, 1) := by decide +kernel
theorem dX7_beginWith_15 : decode cX7_beginWith 15 = .ok (.getfield 11, 3) := by decide +kernel
theorem dX7_beginWith_18 : decode cX7_beginWith 18 = .ok (.iload_n 2, 1) := by decide +kernel
theorem dX7_beginWith_19 : decode cX7_beginWith 19 = .ok (.aload_n 1, 1) := by decide +kernel
theorem dX7_beginWith_20 : decode cX7_beginWith 20 = .ok (.iload_n 2, 1) := by decide +kernel
theorem dX7_beginWith_21 : decode cX7_beginWith 21 = .ok (.laload, 1) := by decide +kernel
theorem dX7_beginWith_22 : decode cX7_beginWith 22 = .ok (.lastore, 1) := by decide +kernel
theorem dX7_beginWith_23 : decode cX7_beginWith 23 = .ok (.iinc 2 1, 3) := by decide +kernel
theorem dX7_beginWith_26 : decode cX7_beginWith 26 = .ok (.goto (-24), 3) := by decide +kernel
theorem dX7_beginWith_29 : decode cX7_beginWith 29 = .ok (.aload_n 0, 1) := by decide +kernel
theorem dX7_beginWith_30 : decode cX7_beginWith 30 = .ok (.iconst 0, 1) := by decide +kernel
theorem dX7_beginWith_31 : decode cX7_beginWith 31 = .ok (.putfield 19, 3) := by decide +kernel
theorem dX7_beginWith_34 : decode cX7_beginWith 34 = .ok (.aload_n 0, 1) := by decide +kernel
theorem dX7_beginWith_35 : decode cX7_beginWith 35 = .ok (.iconst 0, 1) := by decide +kernel
theorem dX7_beginWith_36 : decode cX7_beginWith 36 = .ok (.putfield 23, 3) := by decide +kernel
theorem dX7_beginWith_39 : decode cX7_beginWith 39 = .ok (.return_, 1) := by decide +kernel
theorem dX7_bins_0 : decode cX7_bins 0 = .ok (.aload_n 0, 1) := by decide +kernel
theorem dX7_bins_1 : decode cX7_bins 1 = .ok (.getfield 11, 3) := by decide +kernel
theorem dX7_bins_4 : decode cX7_bins 4 = .ok (.bipush 13, 2) := by decide +kernel
theorem dX7_bins_6 : decode cX7_bins 6 = .ok (.laload, 1) := by decide +kernel
theorem dX7_bins_7 : decode cX7_bins 7 = .ok (.l2i, 1) := by decide +kernel
theorem dX7_bins_8 : decode cX7_bins 8 = .ok (.ireturn, 1) := by decide +kernel
theorem dX7_isBin_0 : decode cX7_isBin 0 = .ok (.iload_n 1, 1) := by decide +kernel
theorem dX7_isBin_1 : decode cX7_isBin 1 = .ok (.ifCond .lt 21, 3) := by decide +kernel
theorem dX7_isBin_4 : decode cX7_isBin 4 = .ok (.iload_n 1, 1) := by decide +kernel
theorem dX7_isBin_5 : decode cX7_isBin 5 = .ok (.bipush 12, 2) := by decide +kernel
theorem dX7_isBin_7 : decode cX7_isBin 7 = .ok (.if_icmp .ge 15, 3) := by decide +kernel
theorem dX7_isBin_10 : decode cX7_isBin 10 = .ok (.iload_n 1, 1) := by decide +kernel
theorem dX7_isBin_11 : decode cX7_isBin 11 = .ok (.aload_n 0, 1) := by decide +kernel
theorem dX7_isBin_12 : decode cX7_isBin 12 = .ok (.invokevirtual 41, 3) := by decide +kernel
theorem dX7_isBin_15 : decode cX7_isBin 15 = .ok (.if_icmp .ge 7, 3) := by decide +kernel
theorem dX7_isBin_18 : decode cX7_isBin 18 = .ok (.iconst 1, 1) := by decide +kernel
theorem dX7_isBin_19 : decode cX7_isBin 19 = .ok (.goto 4, 3) := by decide +kernel
theorem dX7_isBin_22 : decode cX7_isBin 22 = .ok (.iconst 0, 1) := by decide +kernel
theorem dX7_isBin_23 : decode cX7_isBin 23 = .ok (.ireturn, 1) := by decide +kernel
theorem dX7_restOf_0 : decode cX7_restOf 0 = .ok (.aload_n 0, 1) := by decide +kernel
theorem dX7_restOf_1 : decode cX7_restOf 1 = .ok (.getfield 11, 3) := by decide +kernel
theorem dX7_restOf_4 : decode cX7_restOf 4 = .ok (.bipush 12, 2) := by decide +kernel
theorem dX7_restOf_6 : decode cX7_restOf 6 = .ok (.laload, 1) := by decide +kernel
theorem dX7_restOf_7 : decode cX7_restOf 7 = .ok (.iload_n 1, 1) := by decide +kernel
theorem dX7_restOf_8 : decode cX7_restOf 8 = .ok (.invokestatic 45, 3) := by decide +kernel
theorem dX7_restOf_11 : decode cX7_restOf 11 = .ok (.ireturn, 1) := by decide +kernel
theorem dX7_restOfAll_0 : decode cX7_restOfAll 0 = .ok (.iconst 0, 1) := by decide +kernel
theorem dX7_restOfAll_1 : decode cX7_restOfAll 1 = .ok (.istore_n 1, 1) := by decide +kernel
theorem dX7_restOfAll_2 : decode cX7_restOfAll 2 = .ok (.iconst 0, 1) := by decide +kernel
theorem dX7_restOfAll_3 : decode cX7_restOfAll 3 = .ok (.istore_n 2, 1) := by decide +kernel
theorem dX7_restOfAll_4 : decode cX7_restOfAll 4 = .ok (.iload_n 2, 1) := by decide +kernel
theorem dX7_restOfAll_5 : decode cX7_restOfAll 5 = .ok (.bipush 6, 2) := by decide +kernel
theorem dX7_restOfAll_7 : decode cX7_restOfAll 7 = .ok (.if_icmp .ge 17, 3) := by decide +kernel
theorem dX7_restOfAll_10 : decode cX7_restOfAll 10 = .ok (.iload_n 1, 1) := by decide +kernel
theorem dX7_restOfAll_11 : decode cX7_restOfAll 11 = .ok (.aload_n 0, 1) := by decide +kernel
theorem dX7_restOfAll_12 : decode cX7_restOfAll 12 = .ok (.iload_n 2, 1) := by decide +kernel
theorem dX7_restOfAll_13 : decode cX7_restOfAll 13 = .ok (.invokevirtual 49, 3) := by decide +kernel
theorem dX7_restOfAll_16 : decode cX7_restOfAll 16 = .ok (.iadd, 1) := by decide +kernel
theorem dX7_restOfAll_17 : decode cX7_restOfAll 17 = .ok (.istore_n 1, 1) := by decide +kernel
theorem dX7_restOfAll_18 : decode cX7_restOfAll 18 = .ok (.iinc 2 1, 3) := by decide +kernel
theorem dX7_restOfAll_21 : decode cX7_restOfAll 21 = .ok (.goto (-17), 3) := by decide +kernel
theorem dX7_restOfAll_24 : decode cX7_restOfAll 24 = .ok (.iload_n 1, 1) := by decide +kernel
theorem dX7_restOfAll_25 : decode cX7_restOfAll 25 = .ok (.ireturn, 1) := by decide +kernel
theorem dX7_inBins_0 : decode cX7_inBins 0 = .ok (.iconst 0, 1) := by decide +kernel
theorem dX7_inBins_1 : decode cX7_inBins 1 = .ok (.istore_n 2, 1) := by decide +kernel
theorem dX7_inBins_2 : decode cX7_inBins 2 = .ok (.iconst 0, 1) := by decide +kernel
theorem dX7_inBins_3 : decode cX7_inBins 3 = .ok (.istore_n 3, 1) := by decide +kernel
theorem dX7_inBins_4 : decode cX7_inBins 4 = .ok (.iload_n 3, 1) := by decide +kernel
theorem dX7_inBins_5 : decode cX7_inBins 5 = .ok (.bipush 12, 2) := by decide +kernel
theorem dX7_inBins_7 : decode cX7_inBins 7 = .ok (.if_icmp .ge 34, 3) := by decide +kernel
theorem dX7_inBins_10 : decode cX7_inBins 10 = .ok (.iload_n 2, 1) := by decide +kernel
theorem dX7_inBins_11 : decode cX7_inBins 11 = .ok (.aload_n 0, 1) := by decide +kernel
theorem dX7_inBins_12 : decode cX7_inBins 12 = .ok (.iload_n 3, 1) := by decide +kernel
theorem dX7_inBins_13 : decode cX7_inBins 13 = .ok (.invokevirtual 53, 3) := by decide +kernel
theorem dX7_inBins_16 : decode cX7_inBins 16 = .ok (.ifCond .eq 16, 3) := by decide +kernel
theorem dX7_inBins_19 : decode cX7_inBins 19 = .ok (.aload_n 0, 1) := by decide +kernel
theorem dX7_inBins_20 : decode cX7_inBins 20 = .ok (.getfield 11, 3) := by decide +kernel
theorem dX7_inBins_23 : decode cX7_inBins 23 = .ok (.iload_n 3, 1) := by decide +kernel
theorem dX7_inBins_24 : decode cX7_inBins 24 = .ok (.laload, 1) := by decide +kernel
theorem dX7_inBins_25 : decode cX7_inBins 25 = .ok (.iload_n 1, 1) := by decide +kernel
theorem dX7_inBins_26 : decode cX7_inBins 26 = .ok (.invokestatic 45, 3) := by decide +kernel
theorem dX7_inBins_29 : decode cX7_inBins 29 = .ok (.goto 4, 3) := by decide +kernel
theorem dX7_inBins_32 : decode cX7_inBins 32 = .ok (.iconst 0, 1) := by decide +kernel
theorem dX7_inBins_33 : decode cX7_inBins 33 = .ok (.iadd, 1) := by decide +kernel
theorem dX7_inBins_34 : decode cX7_inBins 34 = .ok (.istore_n 2, 1) := by decide +kernel
theorem dX7_inBins_35 : decode cX7_inBins 35 = .ok (.iinc 3 1, 3) := by decide +kernel
theorem dX7_inBins_38 : decode cX7_inBins 38 = .ok (.goto (-34), 3) := by decide +kernel
theorem dX7_inBins_41 : decode cX7_inBins 41 = .ok (.iload_n 2, 1) := by decide +kernel
theorem dX7_inBins_42 : decode cX7_inBins 42 = .ok (.ireturn, 1) := by decide +kernel
theorem dX7_addBin_0 : decode cX7_addBin 0 = .ok (.aload_n 0, 1) := by decide +kernel
theorem dX7_addBin_1 : decode cX7_addBin 1 = .ok (.invokevirtual 41, 3) := by decide +kernel
theorem dX7_addBin_4 : decode cX7_addBin 4 = .ok (.istore_n 3, 1) := by decide +kernel
theorem dX7_addBin_5 : decode cX7_addBin 5 = .ok (.iload_n 3, 1) := by decide +kernel
theorem dX7_addBin_6 : decode cX7_addBin 6 = .ok (.ifCond .lt 27, 3) := by decide +kernel
theorem dX7_addBin_9 : decode cX7_addBin 9 = .ok (.iload_n 3, 1) := by decide +kernel
theorem dX7_addBin_10 : decode cX7_addBin 10 = .ok (.bipush 12, 2) := by decide +kernel
theorem dX7_addBin_12 : decode cX7_addBin 12 = .ok (.if_icmp .ge 21, 3) := by decide +kernel
theorem dX7_addBin_15 : decode cX7_addBin 15 = .ok (.aload_n 0, 1) := by decide +kernel
theorem dX7_addBin_16 : decode cX7_addBin 16 = .ok (.getfield 11, 3) := by decide +kernel
theorem dX7_addBin_19 : decode cX7_addBin 19 = .ok (.iload_n 3, 1) := by decide +kernel
theorem dX7_addBin_20 : decode cX7_addBin 20 = .ok (.lload_n 1, 1) := by decide +kernel
theorem dX7_addBin_21 : decode cX7_addBin 21 = .ok (.lastore, 1) := by decide +kernel
theorem dX7_addBin_22 : decode cX7_addBin 22 = .ok (.aload_n 0, 1) := by decide +kernel
theorem dX7_addBin_23 : decode cX7_addBin 23 = .ok (.getfield 11, 3) := by decide +kernel
theorem dX7_addBin_26 : decode cX7_addBin 26 = .ok (.bipush 13, 2) := by decide +kernel
theorem dX7_addBin_28 : decode cX7_addBin 28 = .ok (.iload_n 3, 1) := by decide +kernel
theorem dX7_addBin_29 : decode cX7_addBin 29 = .ok (.iconst 1, 1) := by decide +kernel
theorem dX7_addBin_30 : decode cX7_addBin 30 = .ok (.iadd, 1) := by decide +kernel
theorem dX7_addBin_31 : decode cX7_addBin 31 = .ok (.i2l, 1) := by decide +kernel
theorem dX7_addBin_32 : decode cX7_addBin 32 = .ok (.lastore, 1) := by decide +kernel
theorem dX7_addBin_33 : decode cX7_addBin 33 = .ok (.return_, 1) := by decide +kernel
theorem dX7_dropBin_0 : decode cX7_dropBin 0 = .ok (.aload_n 0, 1) := by decide +kernel
theorem dX7_dropBin_1 : decode cX7_dropBin 1 = .ok (.iload_n 1, 1) := by decide +kernel
theorem dX7_dropBin_2 : decode cX7_dropBin 2 = .ok (.invokevirtual 53, 3) := by decide +kernel
theorem dX7_dropBin_5 : decode cX7_dropBin 5 = .ok (.ifCond .eq 52, 3) := by decide +kernel
theorem dX7_dropBin_8 : decode cX7_dropBin 8 = .ok (.iload_n 1, 1) := by decide +kernel
theorem dX7_dropBin_9 : decode cX7_dropBin 9 = .ok (.istore_n 2, 1) := by decide +kernel
theorem dX7_dropBin_10 : decode cX7_dropBin 10 = .ok (.iload_n 2, 1) := by decide +kernel
theorem dX7_dropBin_11 : decode cX7_dropBin 11 = .ok (.iconst 1, 1) := by decide +kernel
theorem dX7_dropBin_12 : decode cX7_dropBin 12 = .ok (.iadd, 1) := by decide +kernel
theorem dX7_dropBin_13 : decode cX7_dropBin 13 = .ok (.bipush 12, 2) := by decide +kernel
theorem dX7_dropBin_15 : decode cX7_dropBin 15 = .ok (.if_icmp .ge 23, 3) := by decide +kernel
theorem dX7_dropBin_18 : decode cX7_dropBin 18 = .ok (.aload_n 0, 1) := by decide +kernel
theorem dX7_dropBin_19 : decode cX7_dropBin 19 = .ok (.getfield 11, 3) := by decide +kernel
theorem dX7_dropBin_22 : decode cX7_dropBin 22 = .ok (.iload_n 2, 1) := by decide +kernel
theorem dX7_dropBin_23 : decode cX7_dropBin 23 = .ok (.aload_n 0, 1) := by decide +kernel
theorem dX7_dropBin_24 : decode cX7_dropBin 24 = .ok (.getfield 11, 3) := by decide +kernel
theorem dX7_dropBin_27 : decode cX7_dropBin 27 = .ok (.iload_n 2, 1) := by decide +kernel
theorem dX7_dropBin_28 : decode cX7_dropBin 28 = .ok (.iconst 1, 1) := by decide +kernel
theorem dX7_dropBin_29 : decode cX7_dropBin 29 = .ok (.iadd, 1) := by decide +kernel
theorem dX7_dropBin_30 : decode cX7_dropBin 30 = .ok (.laload, 1) := by decide +kernel
theorem dX7_dropBin_31 : decode cX7_dropBin 31 = .ok (.lastore, 1) := by decide +kernel
theorem dX7_dropBin_32 : decode cX7_dropBin 32 = .ok (.iinc 2 1, 3) := by decide +kernel
theorem dX7_dropBin_35 : decode cX7_dropBin 35 = .ok (.goto (-25), 3) := by decide +kernel
theorem dX7_dropBin_38 : decode cX7_dropBin 38 = .ok (.aload_n 0, 1) := by decide +kernel
theorem dX7_dropBin_39 : decode cX7_dropBin 39 = .ok (.getfield 11, 3) := by decide +kernel
