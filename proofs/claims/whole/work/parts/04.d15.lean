theorem dX10_topStep_7 : decode cX10_topStep 7 = .ok (.bipush 20, 2) := by decide +kernel
theorem dX10_topStep_9 : decode cX10_topStep 9 = .ok (.if_icmp .gt 37, 3) := by decide +kernel
theorem dX10_topStep_12 : decode cX10_topStep 12 = .ok (.aload_n 0, 1) := by decide +kernel
theorem dX10_topStep_13 : decode cX10_topStep 13 = .ok (.aload_n 1, 1) := by decide +kernel
theorem dX10_topStep_14 : decode cX10_topStep 14 = .ok (.iload_n 2, 1) := by decide +kernel
theorem dX10_topStep_15 : decode cX10_topStep 15 = .ok (.iload 4, 2) := by decide +kernel
theorem dX10_topStep_17 : decode cX10_topStep 17 = .ok (.invokevirtual 215, 3) := by decide +kernel
theorem dX10_topStep_20 : decode cX10_topStep 20 = .ok (.istore 5, 2) := by decide +kernel
theorem dX10_topStep_22 : decode cX10_topStep 22 = .ok (.iload 5, 2) := by decide +kernel
theorem dX10_topStep_24 : decode cX10_topStep 24 = .ok (.iload_n 3, 1) := by decide +kernel
theorem dX10_topStep_25 : decode cX10_topStep 25 = .ok (.if_icmp .gt 6, 3) := by decide +kernel
theorem dX10_topStep_28 : decode cX10_topStep 28 = .ok (.goto 12, 3) := by decide +kernel
theorem dX10_topStep_31 : decode cX10_topStep 31 = .ok (.iload 5, 2) := by decide +kernel
theorem dX10_topStep_33 : decode cX10_topStep 33 = .ok (.istore_n 3, 1) := by decide +kernel
theorem dX10_topStep_34 : decode cX10_topStep 34 = .ok (.aload_n 0, 1) := by decide +kernel
theorem dX10_topStep_35 : decode cX10_topStep 35 = .ok (.iload 4, 2) := by decide +kernel
theorem dX10_topStep_37 : decode cX10_topStep 37 = .ok (.putfield 212, 3) := by decide +kernel
theorem dX10_topStep_40 : decode cX10_topStep 40 = .ok (.iinc 4 1, 3) := by decide +kernel
theorem dX10_topStep_43 : decode cX10_topStep 43 = .ok (.goto (-38), 3) := by decide +kernel
theorem dX10_topStep_46 : decode cX10_topStep 46 = .ok (.iload_n 3, 1) := by decide +kernel
theorem dX10_topStep_47 : decode cX10_topStep 47 = .ok (.ireturn, 1) := by decide +kernel
theorem dX10_greater_0 : decode cX10_greater 0 = .ok (.iload_n 0, 1) := by decide +kernel
theorem dX10_greater_1 : decode cX10_greater 1 = .ok (.iload_n 1, 1) := by decide +kernel
theorem dX10_greater_2 : decode cX10_greater 2 = .ok (.if_icmp .le 7, 3) := by decide +kernel
theorem dX10_greater_5 : decode cX10_greater 5 = .ok (.iload_n 0, 1) := by decide +kernel
theorem dX10_greater_6 : decode cX10_greater 6 = .ok (.goto 4, 3) := by decide +kernel
theorem dX10_greater_9 : decode cX10_greater 9 = .ok (.iload_n 1, 1) := by decide +kernel
theorem dX10_greater_10 : decode cX10_greater 10 = .ok (.ireturn, 1) := by decide +kernel
theorem dX10_bounds_0 : decode cX10_bounds 0 = .ok (.aload_n 0, 1) := by decide +kernel
theorem dX10_bounds_1 : decode cX10_bounds 1 = .ok (.aload_n 1, 1) := by decide +kernel
theorem dX10_bounds_2 : decode cX10_bounds 2 = .ok (.iload_n 2, 1) := by decide +kernel
theorem dX10_bounds_3 : decode cX10_bounds 3 = .ok (.invokevirtual 218, 3) := by decide +kernel
theorem dX10_bounds_6 : decode cX10_bounds 6 = .ok (.aload_n 0, 1) := by decide +kernel
theorem dX10_bounds_7 : decode cX10_bounds 7 = .ok (.aload_n 1, 1) := by decide +kernel
theorem dX10_bounds_8 : decode cX10_bounds 8 = .ok (.iload_n 2, 1) := by decide +kernel
theorem dX10_bounds_9 : decode cX10_bounds 9 = .ok (.invokevirtual 222, 3) := by decide +kernel
theorem dX10_bounds_12 : decode cX10_bounds 12 = .ok (.aload_n 0, 1) := by decide +kernel
theorem dX10_bounds_13 : decode cX10_bounds 13 = .ok (.aload_n 1, 1) := by decide +kernel
theorem dX10_bounds_14 : decode cX10_bounds 14 = .ok (.iload_n 2, 1) := by decide +kernel
theorem dX10_bounds_15 : decode cX10_bounds 15 = .ok (.invokevirtual 225, 3) := by decide +kernel
theorem dX10_bounds_18 : decode cX10_bounds 18 = .ok (.invokestatic 228, 3) := by decide +kernel
theorem dX10_bounds_21 : decode cX10_bounds 21 = .ok (.invokestatic 228, 3) := by decide +kernel
theorem dX10_bounds_24 : decode cX10_bounds 24 = .ok (.ireturn, 1) := by decide +kernel
theorem dX10_within0_0 : decode cX10_within0 0 = .ok (.iconst 0, 1) := by decide +kernel
theorem dX10_within0_1 : decode cX10_within0 1 = .ok (.istore_n 2, 1) := by decide +kernel
theorem dX10_within0_2 : decode cX10_within0 2 = .ok (.iconst 0, 1) := by decide +kernel
theorem dX10_within0_3 : decode cX10_within0 3 = .ok (.istore_n 3, 1) := by decide +kernel
theorem dX10_within0_4 : decode cX10_within0 4 = .ok (.iload_n 3, 1) := by decide +kernel
theorem dX10_within0_5 : decode cX10_within0 5 = .ok (.aload_n 0, 1) := by decide +kernel
theorem dX10_within0_6 : decode cX10_within0 6 = .ok (.getfield 172, 3) := by decide +kernel
theorem dX10_within0_9 : decode cX10_within0 9 = .ok (.if_icmp .ge 27, 3) := by decide +kernel
theorem dX10_within0_12 : decode cX10_within0 12 = .ok (.iload_n 2, 1) := by decide +kernel
theorem dX10_within0_13 : decode cX10_within0 13 = .ok (.aload_n 0, 1) := by decide +kernel
theorem dX10_within0_14 : decode cX10_within0 14 = .ok (.getfield 62, 3) := by decide +kernel
theorem dX10_within0_17 : decode cX10_within0 17 = .ok (.iload_n 1, 1) := by decide +kernel
theorem dX10_within0_18 : decode cX10_within0 18 = .ok (.iload_n 3, 1) := by decide +kernel
theorem dX10_within0_19 : decode cX10_within0 19 = .ok (.iadd, 1) := by decide +kernel
theorem dX10_within0_20 : decode cX10_within0 20 = .ok (.iaload, 1) := by decide +kernel
theorem dX10_within0_21 : decode cX10_within0 21 = .ok (.aload_n 0, 1) := by decide +kernel
theorem dX10_within0_22 : decode cX10_within0 22 = .ok (.getfield 44, 3) := by decide +kernel
theorem dX10_within0_25 : decode cX10_within0 25 = .ok (.iload_n 3, 1) := by decide +kernel
theorem dX10_within0_26 : decode cX10_within0 26 = .ok (.iaload, 1) := by decide +kernel
theorem dX10_within0_27 : decode cX10_within0 27 = .ok (.imul, 1) := by decide +kernel
theorem dX10_within0_28 : decode cX10_within0 28 = .ok (.iadd, 1) := by decide +kernel
theorem dX10_within0_29 : decode cX10_within0 29 = .ok (.istore_n 2, 1) := by decide +kernel
theorem dX10_within0_30 : decode cX10_within0 30 = .ok (.iinc 3 1, 3) := by decide +kernel
theorem dX10_within0_33 : decode cX10_within0 33 = .ok (.goto (-29), 3) := by decide +kernel
theorem dX10_within0_36 : decode cX10_within0 36 = .ok (.iload_n 2, 1) := by decide +kernel
theorem dX10_within0_37 : decode cX10_within0 37 = .ok (.ireturn, 1) := by decide +kernel
theorem dX10_fills_0 : decode cX10_fills 0 = .ok (.iload 4, 2) := by decide +kernel
theorem dX10_fills_2 : decode cX10_fills 2 = .ok (.aload_n 0, 1) := by decide +kernel
theorem dX10_fills_3 : decode cX10_fills 3 = .ok (.iload_n 2, 1) := by decide +kernel
theorem dX10_fills_4 : decode cX10_fills 4 = .ok (.invokevirtual 231, 3) := by decide +kernel
theorem dX10_fills_7 : decode cX10_fills 7 = .ok (.isub, 1) := by decide +kernel
theorem dX10_fills_8 : decode cX10_fills 8 = .ok (.istore 5, 2) := by decide +kernel
theorem dX10_fills_10 : decode cX10_fills 10 = .ok (.iload_n 3, 1) := by decide +kernel
theorem dX10_fills_11 : decode cX10_fills 11 = .ok (.istore 6, 2) := by decide +kernel
theorem dX10_fills_13 : decode cX10_fills 13 = .ok (.iload 6, 2) := by decide +kernel
theorem dX10_fills_15 : decode cX10_fills 15 = .ok (.aload_n 0, 1) := by decide +kernel
theorem dX10_fills_16 : decode cX10_fills 16 = .ok (.getfield 172, 3) := by decide +kernel
theorem dX10_fills_19 : decode cX10_fills 19 = .ok (.if_icmp .ge 83, 3) := by decide +kernel
theorem dX10_fills_22 : decode cX10_fills 22 = .ok (.aload_n 0, 1) := by decide +kernel
theorem dX10_fills_23 : decode cX10_fills 23 = .ok (.getfield 47, 3) := by decide +kernel
theorem dX10_fills_26 : decode cX10_fills 26 = .ok (.iload 6, 2) := by decide +kernel
theorem dX10_fills_28 : decode cX10_fills 28 = .ok (.iaload, 1) := by decide +kernel
theorem dX10_fills_29 : decode cX10_fills 29 = .ok (.istore 7, 2) := by decide +kernel
theorem dX10_fills_31 : decode cX10_fills 31 = .ok (.iload 5, 2) := by decide +kernel
theorem dX10_fills_33 : decode cX10_fills 33 = .ok (.aload_n 0, 1) := by decide +kernel
theorem dX10_fills_34 : decode cX10_fills 34 = .ok (.getfield 44, 3) := by decide +kernel
theorem dX10_fills_37 : decode cX10_fills 37 = .ok (.iload 7, 2) := by decide +kernel
theorem dX10_fills_39 : decode cX10_fills 39 = .ok (.iaload, 1) := by decide +kernel
theorem dX10_fills_40 : decode cX10_fills 40 = .ok (.idiv, 1) := by decide +kernel
theorem dX10_fills_41 : decode cX10_fills 41 = .ok (.istore 8, 2) := by decide +kernel
theorem dX10_fills_43 : decode cX10_fills 43 = .ok (.aload_n 0, 1) := by decide +kernel
theorem dX10_fills_44 : decode cX10_fills 44 = .ok (.getfield 62, 3) := by decide +kernel
theorem dX10_fills_47 : decode cX10_fills 47 = .ok (.iload_n 2, 1) := by decide +kernel
theorem dX10_fills_48 : decode cX10_fills 48 = .ok (.iload 7, 2) := by decide +kernel
theorem dX10_fills_50 : decode cX10_fills 50 = .ok (.iadd, 1) := by decide +kernel
theorem dX10_fills_51 : decode cX10_fills 51 = .ok (.iload 8, 2) := by decide +kernel
theorem dX10_fills_53 : decode cX10_fills 53 = .ok (.aload_n 1, 1) := by decide +kernel
theorem dX10_fills_54 : decode cX10_fills 54 = .ok (.iload_n 2, 1) := by decide +kernel
theorem dX10_fills_55 : decode cX10_fills 55 = .ok (.iload 7, 2) := by decide +kernel
theorem dX10_fills_57 : decode cX10_fills 57 = .ok (.iadd, 1) := by decide +kernel
theorem dX10_fills_58 : decode cX10_fills 58 = .ok (.iaload, 1) := by decide +kernel
theorem dX10_fills_59 : decode cX10_fills 59 = .ok (.if_icmp .ge 8, 3) := by decide +kernel
theorem dX10_fills_62 : decode cX10_fills 62 = .ok (.iload 8, 2) := by decide +kernel
theorem dX10_fills_64 : decode cX10_fills 64 = .ok (.goto 9, 3) := by decide +kernel
theorem dX10_fills_67 : decode cX10_fills 67 = .ok (.aload_n 1, 1) := by decide +kernel
theorem dX10_fills_68 : decode cX10_fills 68 = .ok (.iload_n 2, 1) := by decide +kernel
theorem dX10_fills_69 : decode cX10_fills 69 = .ok (.iload 7, 2) := by decide +kernel
theorem dX10_fills_71 : decode cX10_fills 71 = .ok (.iadd, 1) := by decide +kernel
theorem dX10_fills_72 : decode cX10_fills 72 = .ok (.iaload, 1) := by decide +kernel
theorem dX10_fills_73 : decode cX10_fills 73 = .ok (.iastore, 1) := by decide +kernel
theorem dX10_fills_74 : decode cX10_fills 74 = .ok (.iload 5, 2) := by decide +kernel
theorem dX10_fills_76 : decode cX10_fills 76 = .ok (.aload_n 0, 1) := by decide +kernel
theorem dX10_fills_77 : decode cX10_fills 77 = .ok (.getfield 62, 3) := by decide +kernel
theorem dX10_fills_80 : decode cX10_fills 80 = .ok (.iload_n 2, 1) := by decide +kernel
theorem dX10_fills_81 : decode cX10_fills 81 = .ok (.iload 7, 2) := by decide +kernel
theorem dX10_fills_83 : decode cX10_fills 83 = .ok (.iadd, 1) := by decide +kernel
theorem dX10_fills_84 : decode cX10_fills 84 = .ok (.iaload, 1) := by decide +kernel
theorem dX10_fills_85 : decode cX10_fills 85 = .ok (.aload_n 0, 1) := by decide +kernel
theorem dX10_fills_86 : decode cX10_fills 86 = .ok (.getfield 44, 3) := by decide +kernel
theorem dX10_fills_89 : decode cX10_fills 89 = .ok (.iload 7, 2) := by decide +kernel
theorem dX10_fills_91 : decode cX10_fills 91 = .ok (.iaload, 1) := by decide +kernel
theorem dX10_fills_92 : decode cX10_fills 92 = .ok (.imul, 1) := by decide +kernel
theorem dX10_fills_93 : decode cX10_fills 93 = .ok (.isub, 1) := by decide +kernel
theorem dX10_fills_94 : decode cX10_fills 94 = .ok (.istore 5, 2) := by decide +kernel
theorem dX10_fills_96 : decode cX10_fills 96 = .ok (.iinc 6 1, 3) := by decide +kernel
theorem dX10_fills_99 : decode cX10_fills 99 = .ok (.goto (-86), 3) := by decide +kernel
theorem dX10_fills_102 : decode cX10_fills 102 = .ok (.return_, 1) := by decide +kernel
theorem dX10_begins_0 : decode cX10_begins 0 = .ok (.iconst 0, 1) := by decide +kernel
theorem dX10_begins_1 : decode cX10_begins 1 = .ok (.istore 4, 2) := by decide +kernel
theorem dX10_begins_3 : decode cX10_begins 3 = .ok (.iload 4, 2) := by decide +kernel
theorem dX10_begins_5 : decode cX10_begins 5 = .ok (.bipush 6, 2) := by decide +kernel
theorem dX10_begins_7 : decode cX10_begins 7 = .ok (.if_icmp .ge 19, 3) := by decide +kernel
theorem dX10_begins_10 : decode cX10_begins 10 = .ok (.aload_n 0, 1) := by decide +kernel
theorem dX10_begins_11 : decode cX10_begins 11 = .ok (.getfield 62, 3) := by decide +kernel
theorem dX10_begins_14 : decode cX10_begins 14 = .ok (.iload_n 2, 1) := by decide +kernel
theorem dX10_begins_15 : decode cX10_begins 15 = .ok (.iload 4, 2) := by decide +kernel
theorem dX10_begins_17 : decode cX10_begins 17 = .ok (.iadd, 1) := by decide +kernel
theorem dX10_begins_18 : decode cX10_begins 18 = .ok (.iconst 0, 1) := by decide +kernel
theorem dX10_begins_19 : decode cX10_begins 19 = .ok (.iastore, 1) := by decide +kernel
theorem dX10_begins_20 : decode cX10_begins 20 = .ok (.iinc 4 1, 3) := by decide +kernel
theorem dX10_begins_23 : decode cX10_begins 23 = .ok (.goto (-20), 3) := by decide +kernel
theorem dX10_begins_26 : decode cX10_begins 26 = .ok (.aload_n 0, 1) := by decide +kernel
theorem dX10_begins_27 : decode cX10_begins 27 = .ok (.aload_n 1, 1) := by decide +kernel
theorem dX10_begins_28 : decode cX10_begins 28 = .ok (.iload_n 2, 1) := by decide +kernel
theorem dX10_begins_29 : decode cX10_begins 29 = .ok (.iconst 0, 1) := by decide +kernel
theorem dX10_begins_30 : decode cX10_begins 30 = .ok (.iload_n 3, 1) := by decide +kernel
theorem dX10_begins_31 : decode cX10_begins 31 = .ok (.invokevirtual 234, 3) := by decide +kernel
theorem dX10_begins_34 : decode cX10_begins 34 = .ok (.return_, 1) := by decide +kernel
theorem dX10_steps_0 : decode cX10_steps 0 = .ok (.aload_n 0, 1) := by decide +kernel
theorem dX10_steps_1 : decode cX10_steps 1 = .ok (.getfield 172, 3) := by decide +kernel
theorem dX10_steps_4 : decode cX10_steps 4 = .ok (.iconst 1, 1) := by decide +kernel
theorem dX10_steps_5 : decode cX10_steps 5 = .ok (.isub, 1) := by decide +kernel
theorem dX10_steps_6 : decode cX10_steps 6 = .ok (.istore 4, 2) := by decide +kernel
theorem dX10_steps_8 : decode cX10_steps 8 = .ok (.iload 4, 2) := by decide +kernel
theorem dX10_steps_10 : decode cX10_steps 10 = .ok (.ifCond .lt 26, 3) := by decide +kernel
theorem dX10_steps_13 : decode cX10_steps 13 = .ok (.aload_n 0, 1) := by decide +kernel
theorem dX10_steps_14 : decode cX10_steps 14 = .ok (.getfield 62, 3) := by decide +kernel
theorem dX10_steps_17 : decode cX10_steps 17 = .ok (.iload_n 2, 1) := by decide +kernel
theorem dX10_steps_18 : decode cX10_steps 18 = .ok (.aload_n 0, 1) := by decide +kernel
theorem dX10_steps_19 : decode cX10_steps 19 = .ok (.getfield 47, 3) := by decide +kernel
theorem dX10_steps_22 : decode cX10_steps 22 = .ok (.iload 4, 2) := by decide +kernel
theorem dX10_steps_24 : decode cX10_steps 24 = .ok (.iaload, 1) := by decide +kernel
theorem dX10_steps_25 : decode cX10_steps 25 = .ok (.iadd, 1) := by decide +kernel
theorem dX10_steps_26 : decode cX10_steps 26 = .ok (.iaload, 1) := by decide +kernel
theorem dX10_steps_27 : decode cX10_steps 27 = .ok (.ifCond .ne 9, 3) := by decide +kernel
theorem dX10_steps_30 : decode cX10_steps 30 = .ok (.iinc 4 (-1), 3) := by decide +kernel
theorem dX10_steps_33 : decode cX10_steps 33 = .ok (.goto (-25), 3) := by decide +kernel
theorem dX10_steps_36 : decode cX10_steps 36 = .ok (.iload 4, 2) := by decide +kernel
theorem dX10_steps_38 : decode cX10_steps 38 = .ok (.ifCond .ge 5, 3) := by decide +kernel
theorem dX10_steps_41 : decode cX10_steps 41 = .ok (.iconst 0, 1) := by decide +kernel
theorem dX10_steps_42 : decode cX10_steps 42 = .ok (.ireturn, 1) := by decide +kernel
theorem dX10_steps_43 : decode cX10_steps 43 = .ok (.aload_n 0, 1) := by decide +kernel
theorem dX10_steps_44 : decode cX10_steps 44 = .ok (.getfield 62, 3) := by decide +kernel
theorem dX10_steps_47 : decode cX10_steps 47 = .ok (.iload_n 2, 1) := by decide +kernel
theorem dX10_steps_48 : decode cX10_steps 48 = .ok (.aload_n 0, 1) := by decide +kernel
theorem dX10_steps_49 : decode cX10_steps 49 = .ok (.getfield 47, 3) := by decide +kernel
theorem dX10_steps_52 : decode cX10_steps 52 = .ok (.iload 4, 2) := by decide +kernel
theorem dX10_steps_54 : decode cX10_steps 54 = .ok (.iaload, 1) := by decide +kernel
theorem dX10_steps_55 : decode cX10_steps 55 = .ok (.iadd, 1) := by decide +kernel
theorem dX10_steps_56 : decode cX10_steps 56 = .ok (.dup2, 1) := by decide +kernel
theorem dX10_steps_57 : decode cX10_steps 57 = .ok (.iaload, 1) := by decide +kernel
theorem dX10_steps_58 : decode cX10_steps 58 = .ok (.iconst 1, 1) := by decide +kernel
theorem dX10_steps_59 : decode cX10_steps 59 = .ok (.isub, 1) := by decide +kernel
theorem dX10_steps_60 : decode cX10_steps 60 = .ok (.iastore, 1) := by decide +kernel
theorem dX10_steps_61 : decode cX10_steps 61 = .ok (.iload 4, 2) := by decide +kernel
theorem dX10_steps_63 : decode cX10_steps 63 = .ok (.iconst 1, 1) := by decide +kernel
theorem dX10_steps_64 : decode cX10_steps 64 = .ok (.iadd, 1) := by decide +kernel
theorem dX10_steps_65 : decode cX10_steps 65 = .ok (.istore 5, 2) := by decide +kernel
theorem dX10_steps_67 : decode cX10_steps 67 = .ok (.iload 5, 2) := by decide +kernel
theorem dX10_steps_69 : decode cX10_steps 69 = .ok (.aload_n 0, 1) := by decide +kernel
theorem dX10_steps_70 : decode cX10_steps 70 = .ok (.getfield 172, 3) := by decide +kernel
theorem dX10_steps_73 : decode cX10_steps 73 = .ok (.if_icmp .ge 24, 3) := by decide +kernel
theorem dX10_steps_76 : decode cX10_steps 76 = .ok (.aload_n 0, 1) := by decide +kernel
theorem dX10_steps_77 : decode cX10_steps 77 = .ok (.getfield 62, 3) := by decide +kernel
theorem dX10_steps_80 : decode cX10_steps 80 = .ok (.iload_n 2, 1) := by decide +kernel
theorem dX10_steps_81 : decode cX10_steps 81 = .ok (.aload_n 0, 1) := by decide +kernel
theorem dX10_steps_82 : decode cX10_steps 82 = .ok (.getfield 47, 3) := by decide +kernel
theorem dX10_steps_85 : decode cX10_steps 85 = .ok (.iload 5, 2) := by decide +kernel
theorem dX10_steps_87 : decode cX10_steps 87 = .ok (.iaload, 1) := by decide +kernel
theorem dX10_steps_88 : decode cX10_steps 88 = .ok (.iadd, 1) := by decide +kernel
theorem dX10_steps_89 : decode cX10_steps 89 = .ok (.iconst 0, 1) := by decide +kernel
theorem dX10_steps_90 : decode cX10_steps 90 = .ok (.iastore, 1) := by decide +kernel
theorem dX10_steps_91 : decode cX10_steps 91 = .ok (.iinc 5 1, 3) := by decide +kernel
theorem dX10_steps_94 : decode cX10_steps 94 = .ok (.goto (-27), 3) := by decide +kernel
theorem dX10_steps_97 : decode cX10_steps 97 = .ok (.aload_n 0, 1) := by decide +kernel
theorem dX10_steps_98 : decode cX10_steps 98 = .ok (.aload_n 1, 1) := by decide +kernel
theorem dX10_steps_99 : decode cX10_steps 99 = .ok (.iload_n 2, 1) := by decide +kernel
theorem dX10_steps_100 : decode cX10_steps 100 = .ok (.iload 4, 2) := by decide +kernel
theorem dX10_steps_102 : decode cX10_steps 102 = .ok (.iconst 1, 1) := by decide +kernel
theorem dX10_steps_103 : decode cX10_steps 103 = .ok (.iadd, 1) := by decide +kernel
theorem dX10_steps_104 : decode cX10_steps 104 = .ok (.iload_n 3, 1) := by decide +kernel
theorem dX10_steps_105 : decode cX10_steps 105 = .ok (.invokevirtual 234, 3) := by decide +kernel
theorem dX10_steps_108 : decode cX10_steps 108 = .ok (.iconst 1, 1) := by decide +kernel
theorem dX10_steps_109 : decode cX10_steps 109 = .ok (.ireturn, 1) := by decide +kernel
theorem dX10_isMaximal_0 : decode cX10_isMaximal 0 = .ok (.iload_n 3, 1) := by decide +kernel
theorem dX10_isMaximal_1 : decode cX10_isMaximal 1 = .ok (.aload_n 0, 1) := by decide +kernel
theorem dX10_isMaximal_2 : decode cX10_isMaximal 2 = .ok (.iload_n 2, 1) := by decide +kernel
theorem dX10_isMaximal_3 : decode cX10_isMaximal 3 = .ok (.invokevirtual 231, 3) := by decide +kernel
theorem dX10_isMaximal_6 : decode cX10_isMaximal 6 = .ok (.isub, 1) := by decide +kernel
theorem dX10_isMaximal_7 : decode cX10_isMaximal 7 = .ok (.istore 4, 2) := by decide +kernel
theorem dX10_isMaximal_9 : decode cX10_isMaximal 9 = .ok (.iconst 0, 1) := by decide +kernel
theorem dX10_isMaximal_10 : decode cX10_isMaximal 10 = .ok (.istore 5, 2) := by decide +kernel
theorem dX10_isMaximal_12 : decode cX10_isMaximal 12 = .ok (.iload 5, 2) := by decide +kernel
theorem dX10_isMaximal_14 : decode cX10_isMaximal 14 = .ok (.aload_n 0, 1) := by decide +kernel
theorem dX10_isMaximal_15 : decode cX10_isMaximal 15 = .ok (.getfield 172, 3) := by decide +kernel
theorem dX10_isMaximal_18 : decode cX10_isMaximal 18 = .ok (.if_icmp .ge 41, 3) := by decide +kernel
theorem dX10_isMaximal_21 : decode cX10_isMaximal 21 = .ok (.aload_n 0, 1) := by decide +kernel
theorem dX10_isMaximal_22 : decode cX10_isMaximal 22 = .ok (.getfield 62, 3) := by decide +kernel
theorem dX10_isMaximal_25 : decode cX10_isMaximal 25 = .ok (.iload_n 2, 1) := by decide +kernel
theorem dX10_isMaximal_26 : decode cX10_isMaximal 26 = .ok (.iload 5, 2) := by decide +kernel
theorem dX10_isMaximal_28 : decode cX10_isMaximal 28 = .ok (.iadd, 1) := by decide +kernel
theorem dX10_isMaximal_29 : decode cX10_isMaximal 29 = .ok (.iaload, 1) := by decide +kernel
theorem dX10_isMaximal_30 : decode cX10_isMaximal 30 = .ok (.aload_n 1, 1) := by decide +kernel
theorem dX10_isMaximal_31 : decode cX10_isMaximal 31 = .ok (.iload_n 2, 1) := by decide +kernel
theorem dX10_isMaximal_32 : decode cX10_isMaximal 32 = .ok (.iload 5, 2) := by decide +kernel
theorem dX10_isMaximal_34 : decode cX10_isMaximal 34 = .ok (.iadd, 1) := by decide +kernel
theorem dX10_isMaximal_35 : decode cX10_isMaximal 35 = .ok (.iaload, 1) := by decide +kernel
theorem dX10_isMaximal_36 : decode cX10_isMaximal 36 = .ok (.if_icmp .ge 17, 3) := by decide +kernel
theorem dX10_isMaximal_39 : decode cX10_isMaximal 39 = .ok (.aload_n 0, 1) := by decide +kernel
theorem dX10_isMaximal_40 : decode cX10_isMaximal 40 = .ok (.getfield 44, 3) := by decide +kernel
theorem dX10_isMaximal_43 : decode cX10_isMaximal 43 = .ok (.iload 5, 2) := by decide +kernel
theorem dX10_isMaximal_45 : decode cX10_isMaximal 45 = .ok (.iaload, 1) := by decide +kernel
theorem dX10_isMaximal_46 : decode cX10_isMaximal 46 = .ok (.iload 4, 2) := by decide +kernel
theorem dX10_isMaximal_48 : decode cX10_isMaximal 48 = .ok (.if_icmp .gt 5, 3) := by decide +kernel
theorem dX10_isMaximal_51 : decode cX10_isMaximal 51 = .ok (.iconst 0, 1) := by decide +kernel
theorem dX10_isMaximal_52 : decode cX10_isMaximal 52 = .ok (.ireturn, 1) := by decide +kernel
theorem dX10_isMaximal_53 : decode cX10_isMaximal 53 = .ok (.iinc 5 1, 3) := by decide +kernel
theorem dX10_isMaximal_56 : decode cX10_isMaximal 56 = .ok (.goto (-44), 3) := by decide +kernel
theorem dX10_isMaximal_59 : decode cX10_isMaximal 59 = .ok (.iconst 1, 1) := by decide +kernel
theorem dX10_isMaximal_60 : decode cX10_isMaximal 60 = .ok (.ireturn, 1) := by decide +kernel
theorem dX10_firstLeft_0 : decode cX10_firstLeft 0 = .ok (.iconst 0, 1) := by decide +kernel
theorem dX10_firstLeft_1 : decode cX10_firstLeft 1 = .ok (.istore_n 2, 1) := by decide +kernel
theorem dX10_firstLeft_2 : decode cX10_firstLeft 2 = .ok (.iload_n 2, 1) := by decide +kernel
theorem dX10_firstLeft_3 : decode cX10_firstLeft 3 = .ok (.aload_n 0, 1) := by decide +kernel
theorem dX10_firstLeft_4 : decode cX10_firstLeft 4 = .ok (.getfield 172, 3) := by decide +kernel
theorem dX10_firstLeft_7 : decode cX10_firstLeft 7 = .ok (.if_icmp .ge 32, 3) := by decide +kernel
theorem dX10_firstLeft_10 : decode cX10_firstLeft 10 = .ok (.aload_n 0, 1) := by decide +kernel
theorem dX10_firstLeft_11 : decode cX10_firstLeft 11 = .ok (.getfield 59, 3) := by decide +kernel
theorem dX10_firstLeft_14 : decode cX10_firstLeft 14 = .ok (.iload_n 1, 1) := by decide +kernel
theorem dX10_firstLeft_15 : decode cX10_firstLeft 15 = .ok (.aload_n 0, 1) := by decide +kernel
theorem dX10_firstLeft_16 : decode cX10_firstLeft 16 = .ok (.getfield 47, 3) := by decide +kernel
theorem dX10_firstLeft_19 : decode cX10_firstLeft 19 = .ok (.iload_n 2, 1) := by decide +kernel
theorem dX10_firstLeft_20 : decode cX10_firstLeft 20 = .ok (.iaload, 1) := by decide +kernel
theorem dX10_firstLeft_21 : decode cX10_firstLeft 21 = .ok (.iadd, 1) := by decide +kernel
theorem dX10_firstLeft_22 : decode cX10_firstLeft 22 = .ok (.iaload, 1) := by decide +kernel
theorem dX10_firstLeft_23 : decode cX10_firstLeft 23 = .ok (.ifCond .le 10, 3) := by decide +kernel
theorem dX10_firstLeft_26 : decode cX10_firstLeft 26 = .ok (.aload_n 0, 1) := by decide +kernel
theorem dX10_firstLeft_27 : decode cX10_firstLeft 27 = .ok (.getfield 47, 3) := by decide +kernel
theorem dX10_firstLeft_30 : decode cX10_firstLeft 30 = .ok (.iload_n 2, 1) := by decide +kernel
theorem dX10_firstLeft_31 : decode cX10_firstLeft 31 = .ok (.iaload, 1) := by decide +kernel
theorem dX10_firstLeft_32 : decode cX10_firstLeft 32 = .ok (.ireturn, 1) := by decide +kernel
theorem dX10_firstLeft_33 : decode cX10_firstLeft 33 = .ok (.iinc 2 1, 3) := by decide +kernel
theorem dX10_firstLeft_36 : decode cX10_firstLeft 36 = .ok (.goto (-34), 3) := by decide +kernel
theorem dX10_firstLeft_39 : decode cX10_firstLeft 39 = .ok (.iconst (-1), 1) := by decide +kernel
theorem dX10_firstLeft_40 : decode cX10_firstLeft 40 = .ok (.ireturn, 1) := by decide +kernel
theorem dX10_meets_0 : decode cX10_meets 0 = .ok (.aload_n 0, 1) := by decide +kernel
theorem dX10_meets_1 : decode cX10_meets 1 = .ok (.aload_n 0, 1) := by decide +kernel
theorem dX10_meets_2 : decode cX10_meets 2 = .ok (.getfield 238, 3) := by decide +kernel
theorem dX10_meets_5 : decode cX10_meets 5 = .ok (.bipush 60, 2) := by decide +kernel
theorem dX10_meets_7 : decode cX10_meets 7 = .ok (.if_icmp .ne 7, 3) := by decide +kernel
theorem dX10_meets_10 : decode cX10_meets 10 = .ok (.iconst 1, 1) := by decide +kernel
theorem dX10_meets_11 : decode cX10_meets 11 = .ok (.goto 4, 3) := by decide +kernel
theorem dX10_meets_14 : decode cX10_meets 14 = .ok (.iconst 0, 1) := by decide +kernel
theorem dX10_meets_15 : decode cX10_meets 15 = .ok (.putfield 241, 3) := by decide +kernel
theorem dX10_meets_18 : decode cX10_meets 18 = .ok (.aload_n 0, 1) := by decide +kernel
theorem dX10_meets_19 : decode cX10_meets 19 = .ok (.getfield 241, 3) := by decide +kernel
theorem dX10_meets_22 : decode cX10_meets 22 = .ok (.ifCond .eq 5, 3) := by decide +kernel
theorem dX10_meets_25 : decode cX10_meets 25 = .ok (.iconst 0, 1) := by decide +kernel
theorem dX10_meets_26 : decode cX10_meets 26 = .ok (.ireturn, 1) := by decide +kernel
theorem dX10_meets_27 : decode cX10_meets 27 = .ok (.aload_n 0, 1) := by decide +kernel
theorem dX10_meets_28 : decode cX10_meets 28 = .ok (.dup, 1) := by decide +kernel
theorem dX10_meets_29 : decode cX10_meets 29 = .ok (.getfield 238, 3) := by decide +kernel
theorem dX10_meets_32 : decode cX10_meets 32 = .ok (.iconst 1, 1) := by decide +kernel
theorem dX10_meets_33 : decode cX10_meets 33 = .ok (.iadd, 1) := by decide +kernel
theorem dX10_meets_34 : decode cX10_meets 34 = .ok (.putfield 238, 3) := by decide +kernel
theorem dX10_meets_37 : decode cX10_meets 37 = .ok (.aload_n 0, 1) := by decide +kernel
theorem dX10_meets_38 : decode cX10_meets 38 = .ok (.aload_n 0, 1) := by decide +kernel
theorem dX10_meets_39 : decode cX10_meets 39 = .ok (.getfield 245, 3) := by decide +kernel
theorem dX10_meets_42 : decode cX10_meets 42 = .ok (.iload_n 1, 1) := by decide +kernel
theorem dX10_meets_43 : decode cX10_meets 43 = .ok (.invokestatic 228, 3) := by decide +kernel
theorem dX10_meets_46 : decode cX10_meets 46 = .ok (.putfield 245, 3) := by decide +kernel
theorem dX10_meets_49 : decode cX10_meets 49 = .ok (.bipush 6, 2) := by decide +kernel
theorem dX10_meets_51 : decode cX10_meets 51 = .ok (.iload_n 1, 1) := by decide +kernel
theorem dX10_meets_52 : decode cX10_meets 52 = .ok (.imul, 1) := by decide +kernel
theorem dX10_meets_53 : decode cX10_meets 53 = .ok (.istore_n 2, 1) := by decide +kernel
theorem dX10_meets_54 : decode cX10_meets 54 = .ok (.aload_n 0, 1) := by decide +kernel
theorem dX10_meets_55 : decode cX10_meets 55 = .ok (.iload_n 2, 1) := by decide +kernel
theorem dX10_meets_56 : decode cX10_meets 56 = .ok (.invokevirtual 248, 3) := by decide +kernel
theorem dX10_meets_59 : decode cX10_meets 59 = .ok (.iconst (-1), 1) := by decide +kernel
theorem dX10_meets_60 : decode cX10_meets 60 = .ok (.if_icmp .ne 55, 3) := by decide +kernel
theorem dX10_meets_63 : decode cX10_meets 63 = .ok (.iload_n 1, 1) := by decide +kernel
theorem dX10_meets_64 : decode cX10_meets 64 = .ok (.aload_n 0, 1) := by decide +kernel
theorem dX10_meets_65 : decode cX10_meets 65 = .ok (.getfield 251, 3) := by decide +kernel
theorem dX10_meets_68 : decode cX10_meets 68 = .ok (.if_icmp .lt 5, 3) := by decide +kernel
theorem dX10_meets_71 : decode cX10_meets 71 = .ok (.iconst 0, 1) := by decide +kernel
theorem dX10_meets_72 : decode cX10_meets 72 = .ok (.ireturn, 1) := by decide +kernel
theorem dX10_meets_73 : decode cX10_meets 73 = .ok (.aload_n 0, 1) := by decide +kernel
theorem dX10_meets_74 : decode cX10_meets 74 = .ok (.iload_n 1, 1) := by decide +kernel
theorem dX10_meets_75 : decode cX10_meets 75 = .ok (.putfield 251, 3) := by decide +kernel
theorem dX10_meets_78 : decode cX10_meets 78 = .ok (.aload_n 0, 1) := by decide +kernel
theorem dX10_meets_79 : decode cX10_meets 79 = .ok (.dup, 1) := by decide +kernel
theorem dX10_meets_80 : decode cX10_meets 80 = .ok (.getfield 254, 3) := by decide +kernel
theorem dX10_meets_83 : decode cX10_meets 83 = .ok (.iconst 1, 1) := by decide +kernel
theorem dX10_meets_84 : decode cX10_meets 84 = .ok (.iadd, 1) := by decide +kernel
theorem dX10_meets_85 : decode cX10_meets 85 = .ok (.putfield 254, 3) := by decide +kernel
theorem dX10_meets_88 : decode cX10_meets 88 = .ok (.iconst 0, 1) := by decide +kernel
theorem dX10_meets_89 : decode cX10_meets 89 = .ok (.istore_n 3, 1) := by decide +kernel
theorem dX10_meets_90 : decode cX10_meets 90 = .ok (.iload_n 3, 1) := by decide +kernel
theorem dX10_meets_91 : decode cX10_meets 91 = .ok (.iload_n 2, 1) := by decide +kernel
theorem dX10_meets_92 : decode cX10_meets 92 = .ok (.if_icmp .ge 21, 3) := by decide +kernel
theorem dX10_meets_95 : decode cX10_meets 95 = .ok (.aload_n 0, 1) := by decide +kernel
theorem dX10_meets_96 : decode cX10_meets 96 = .ok (.getfield 65, 3) := by decide +kernel
theorem dX10_meets_99 : decode cX10_meets 99 = .ok (.iload_n 3, 1) := by decide +kernel
theorem dX10_meets_100 : decode cX10_meets 100 = .ok (.aload_n 0, 1) := by decide +kernel
theorem dX10_meets_101 : decode cX10_meets 101 = .ok (.getfield 62, 3) := by decide +kernel
theorem dX10_meets_104 : decode cX10_meets 104 = .ok (.iload_n 3, 1) := by decide +kernel
theorem dX10_meets_105 : decode cX10_meets 105 = .ok (.iaload, 1) := by decide +kernel
theorem dX10_meets_106 : decode cX10_meets 106 = .ok (.iastore, 1) := by decide +kernel
theorem dX10_meets_107 : decode cX10_meets 107 = .ok (.iinc 3 1, 3) := by decide +kernel
theorem dX10_meets_110 : decode cX10_meets 110 = .ok (.goto (-20), 3) := by decide +kernel
theorem dX10_meets_113 : decode cX10_meets 113 = .ok (.iconst 0, 1) := by decide +kernel
theorem dX10_meets_114 : decode cX10_meets 114 = .ok (.ireturn, 1) := by decide +kernel
theorem dX10_meets_115 : decode cX10_meets 115 = .ok (.iload_n 1, 1) := by decide +kernel
theorem dX10_meets_116 : decode cX10_meets 116 = .ok (.aload_n 0, 1) := by decide +kernel
theorem dX10_meets_117 : decode cX10_meets 117 = .ok (.aload_n 0, 1) := by decide +kernel
theorem dX10_meets_118 : decode cX10_meets 118 = .ok (.getfield 59, 3) := by decide +kernel
theorem dX10_meets_121 : decode cX10_meets 121 = .ok (.iload_n 2, 1) := by decide +kernel
theorem dX10_meets_122 : decode cX10_meets 122 = .ok (.invokevirtual 257, 3) := by decide +kernel
theorem dX10_meets_125 : decode cX10_meets 125 = .ok (.iadd, 1) := by decide +kernel
theorem dX10_meets_126 : decode cX10_meets 126 = .ok (.aload_n 0, 1) := by decide +kernel
theorem dX10_meets_127 : decode cX10_meets 127 = .ok (.getfield 251, 3) := by decide +kernel
theorem dX10_meets_130 : decode cX10_meets 130 = .ok (.if_icmp .lt 15, 3) := by decide +kernel
theorem dX10_meets_133 : decode cX10_meets 133 = .ok (.aload_n 0, 1) := by decide +kernel
theorem dX10_meets_134 : decode cX10_meets 134 = .ok (.dup, 1) := by decide +kernel
theorem dX10_meets_135 : decode cX10_meets 135 = .ok (.getfield 260, 3) := by decide +kernel
theorem dX10_meets_138 : decode cX10_meets 138 = .ok (.iconst 1, 1) := by decide +kernel
theorem dX10_meets_139 : decode cX10_meets 139 = .ok (.iadd, 1) := by decide +kernel
theorem dX10_meets_140 : decode cX10_meets 140 = .ok (.putfield 260, 3) := by decide +kernel
theorem dX10_meets_143 : decode cX10_meets 143 = .ok (.iconst 0, 1) := by decide +kernel
theorem dX10_meets_144 : decode cX10_meets 144 = .ok (.ireturn, 1) := by decide +kernel
theorem dX10_meets_145 : decode cX10_meets 145 = .ok (.aload_n 0, 1) := by decide +kernel
theorem dX10_meets_146 : decode cX10_meets 146 = .ok (.getfield 68, 3) := by decide +kernel
theorem dX10_meets_149 : decode cX10_meets 149 = .ok (.iload_n 1, 1) := by decide +kernel
theorem dX10_meets_150 : decode cX10_meets 150 = .ok (.iconst 0, 1) := by decide +kernel
theorem dX10_meets_151 : decode cX10_meets 151 = .ok (.bastore, 1) := by decide +kernel
theorem dX10_meets_152 : decode cX10_meets 152 = .ok (.iconst 1, 1) := by decide +kernel
theorem dX10_meets_153 : decode cX10_meets 153 = .ok (.ireturn, 1) := by decide +kernel
theorem dX10_chooses_0 : decode cX10_chooses 0 = .ok (.bipush 6, 2) := by decide +kernel
theorem dX10_chooses_2 : decode cX10_chooses 2 = .ok (.iload_n 1, 1) := by decide +kernel
theorem dX10_chooses_3 : decode cX10_chooses 3 = .ok (.imul, 1) := by decide +kernel
theorem dX10_chooses_4 : decode cX10_chooses 4 = .ok (.istore_n 2, 1) := by decide +kernel
theorem dX10_chooses_5 : decode cX10_chooses 5 = .ok (.aload_n 0, 1) := by decide +kernel
theorem dX10_chooses_6 : decode cX10_chooses 6 = .ok (.iload_n 2, 1) := by decide +kernel
theorem dX10_chooses_7 : decode cX10_chooses 7 = .ok (.invokevirtual 248, 3) := by decide +kernel
theorem dX10_chooses_10 : decode cX10_chooses 10 = .ok (.istore_n 3, 1) := by decide +kernel
theorem dX10_chooses_11 : decode cX10_chooses 11 = .ok (.iconst 1, 1) := by decide +kernel
theorem dX10_chooses_12 : decode cX10_chooses 12 = .ok (.istore 4, 2) := by decide +kernel
theorem dX10_chooses_14 : decode cX10_chooses 14 = .ok (.aload_n 0, 1) := by decide +kernel
theorem dX10_chooses_15 : decode cX10_chooses 15 = .ok (.getfield 68, 3) := by decide +kernel
theorem dX10_chooses_18 : decode cX10_chooses 18 = .ok (.iload_n 1, 1) := by decide +kernel
theorem dX10_chooses_19 : decode cX10_chooses 19 = .ok (.baload, 1) := by decide +kernel
theorem dX10_chooses_20 : decode cX10_chooses 20 = .ok (.ifCond .eq 21, 3) := by decide +kernel
theorem dX10_chooses_23 : decode cX10_chooses 23 = .ok (.aload_n 0, 1) := by decide +kernel
theorem dX10_chooses_24 : decode cX10_chooses 24 = .ok (.aload_n 0, 1) := by decide +kernel
theorem dX10_chooses_25 : decode cX10_chooses 25 = .ok (.getfield 59, 3) := by decide +kernel
theorem dX10_chooses_28 : decode cX10_chooses 28 = .ok (.iload_n 2, 1) := by decide +kernel
theorem dX10_chooses_29 : decode cX10_chooses 29 = .ok (.aload_n 0, 1) := by decide +kernel
theorem dX10_chooses_30 : decode cX10_chooses 30 = .ok (.getfield 187, 3) := by decide +kernel
theorem dX10_chooses_33 : decode cX10_chooses 33 = .ok (.invokevirtual 263, 3) := by decide +kernel
theorem dX10_chooses_36 : decode cX10_chooses 36 = .ok (.istore 4, 2) := by decide +kernel
theorem dX10_chooses_38 : decode cX10_chooses 38 = .ok (.goto 16, 3) := by decide +kernel
theorem dX10_chooses_41 : decode cX10_chooses 41 = .ok (.aload_n 0, 1) := by decide +kernel
theorem dX10_chooses_42 : decode cX10_chooses 42 = .ok (.aload_n 0, 1) := by decide +kernel
theorem dX10_chooses_43 : decode cX10_chooses 43 = .ok (.getfield 59, 3) := by decide +kernel
theorem dX10_chooses_46 : decode cX10_chooses 46 = .ok (.iload_n 2, 1) := by decide +kernel
theorem dX10_chooses_47 : decode cX10_chooses 47 = .ok (.aload_n 0, 1) := by decide +kernel
theorem dX10_chooses_48 : decode cX10_chooses 48 = .ok (.getfield 187, 3) := by decide +kernel
theorem dX10_chooses_51 : decode cX10_chooses 51 = .ok (.invokevirtual 267, 3) := by decide +kernel
theorem dX10_chooses_54 : decode cX10_chooses 54 = .ok (.aload_n 0, 1) := by decide +kernel
theorem dX10_chooses_55 : decode cX10_chooses 55 = .ok (.getfield 68, 3) := by decide +kernel
theorem dX10_chooses_58 : decode cX10_chooses 58 = .ok (.iload_n 1, 1) := by decide +kernel
theorem dX10_chooses_59 : decode cX10_chooses 59 = .ok (.iconst 1, 1) := by decide +kernel
theorem dX10_chooses_60 : decode cX10_chooses 60 = .ok (.bastore, 1) := by decide +kernel
theorem dX10_chooses_61 : decode cX10_chooses 61 = .ok (.iload 4, 2) := by decide +kernel
theorem dX10_chooses_63 : decode cX10_chooses 63 = .ok (.ifCond .eq 48, 3) := by decide +kernel
theorem dX10_chooses_66 : decode cX10_chooses 66 = .ok (.aload_n 0, 1) := by decide +kernel
theorem dX10_chooses_67 : decode cX10_chooses 67 = .ok (.getfield 62, 3) := by decide +kernel
theorem dX10_chooses_70 : decode cX10_chooses 70 = .ok (.iload_n 2, 1) := by decide +kernel
theorem dX10_chooses_71 : decode cX10_chooses 71 = .ok (.iload_n 3, 1) := by decide +kernel
theorem dX10_chooses_72 : decode cX10_chooses 72 = .ok (.iadd, 1) := by decide +kernel
theorem dX10_chooses_73 : decode cX10_chooses 73 = .ok (.iaload, 1) := by decide +kernel
theorem dX10_chooses_74 : decode cX10_chooses 74 = .ok (.ifCond .le 37, 3) := by decide +kernel
theorem dX10_chooses_77 : decode cX10_chooses 77 = .ok (.aload_n 0, 1) := by decide +kernel
theorem dX10_chooses_78 : decode cX10_chooses 78 = .ok (.aload_n 0, 1) := by decide +kernel
theorem dX10_chooses_79 : decode cX10_chooses 79 = .ok (.getfield 59, 3) := by decide +kernel
theorem dX10_chooses_82 : decode cX10_chooses 82 = .ok (.iload_n 2, 1) := by decide +kernel
theorem dX10_chooses_83 : decode cX10_chooses 83 = .ok (.aload_n 0, 1) := by decide +kernel
theorem dX10_chooses_84 : decode cX10_chooses 84 = .ok (.getfield 187, 3) := by decide +kernel
theorem dX10_chooses_87 : decode cX10_chooses 87 = .ok (.invokevirtual 271, 3) := by decide +kernel
theorem dX10_chooses_90 : decode cX10_chooses 90 = .ok (.ifCond .ne 21, 3) := by decide +kernel
theorem dX10_chooses_93 : decode cX10_chooses 93 = .ok (.aload_n 0, 1) := by decide +kernel
theorem dX10_chooses_94 : decode cX10_chooses 94 = .ok (.aload_n 0, 1) := by decide +kernel
theorem dX10_chooses_95 : decode cX10_chooses 95 = .ok (.getfield 59, 3) := by decide +kernel
theorem dX10_chooses_98 : decode cX10_chooses 98 = .ok (.iload_n 2, 1) := by decide +kernel
theorem dX10_chooses_99 : decode cX10_chooses 99 = .ok (.aload_n 0, 1) := by decide +kernel
theorem dX10_chooses_100 : decode cX10_chooses 100 = .ok (.getfield 187, 3) := by decide +kernel
theorem dX10_chooses_103 : decode cX10_chooses 103 = .ok (.invokevirtual 263, 3) := by decide +kernel
theorem dX10_chooses_106 : decode cX10_chooses 106 = .ok (.istore 4, 2) := by decide +kernel
theorem dX10_chooses_108 : decode cX10_chooses 108 = .ok (.goto (-47), 3) := by decide +kernel
theorem dX10_chooses_111 : decode cX10_chooses 111 = .ok (.iload 4, 2) := by decide +kernel
theorem dX10_chooses_113 : decode cX10_chooses 113 = .ok (.ifCond .eq 18, 3) := by decide +kernel
theorem dX10_chooses_116 : decode cX10_chooses 116 = .ok (.aload_n 0, 1) := by decide +kernel
theorem dX10_chooses_117 : decode cX10_chooses 117 = .ok (.getfield 62, 3) := by decide +kernel
theorem dX10_chooses_120 : decode cX10_chooses 120 = .ok (.iload_n 2, 1) := by decide +kernel
theorem dX10_chooses_121 : decode cX10_chooses 121 = .ok (.iload_n 3, 1) := by decide +kernel
theorem dX10_chooses_122 : decode cX10_chooses 122 = .ok (.iadd, 1) := by decide +kernel
theorem dX10_chooses_123 : decode cX10_chooses 123 = .ok (.iaload, 1) := by decide +kernel
theorem dX10_chooses_124 : decode cX10_chooses 124 = .ok (.ifCond .le 7, 3) := by decide +kernel
theorem dX10_chooses_127 : decode cX10_chooses 127 = .ok (.iconst 1, 1) := by decide +kernel
theorem dX10_chooses_128 : decode cX10_chooses 128 = .ok (.goto 4, 3) := by decide +kernel
theorem dX10_chooses_131 : decode cX10_chooses 131 = .ok (.iconst 0, 1) := by decide +kernel
theorem dX10_chooses_132 : decode cX10_chooses 132 = .ok (.ireturn, 1) := by decide +kernel
theorem dX10_proves_0 : decode cX10_proves 0 = .ok (.aload_n 0, 1) := by decide +kernel
theorem dX10_proves_1 : decode cX10_proves 1 = .ok (.aload_n 0, 1) := by decide +kernel
theorem dX10_proves_2 : decode cX10_proves 2 = .ok (.iconst 5, 1) := by decide +kernel
theorem dX10_proves_3 : decode cX10_proves 3 = .ok (.invokevirtual 274, 3) := by decide +kernel
theorem dX10_proves_6 : decode cX10_proves 6 = .ok (.putfield 251, 3) := by decide +kernel
theorem dX10_proves_9 : decode cX10_proves 9 = .ok (.iconst 0, 1) := by decide +kernel
theorem dX10_proves_10 : decode cX10_proves 10 = .ok (.istore_n 1, 1) := by decide +kernel
theorem dX10_proves_11 : decode cX10_proves 11 = .ok (.iload_n 1, 1) := by decide +kernel
theorem dX10_proves_12 : decode cX10_proves 12 = .ok (.bipush 6, 2) := by decide +kernel
theorem dX10_proves_14 : decode cX10_proves 14 = .ok (.aload_n 0, 1) := by decide +kernel
theorem dX10_proves_15 : decode cX10_proves 15 = .ok (.getfield 251, 3) := by decide +kernel
theorem dX10_proves_18 : decode cX10_proves 18 = .ok (.imul, 1) := by decide +kernel
theorem dX10_proves_19 : decode cX10_proves 19 = .ok (.if_icmp .ge 16, 3) := by decide +kernel
theorem dX10_proves_22 : decode cX10_proves 22 = .ok (.aload_n 0, 1) := by decide +kernel
theorem dX10_proves_23 : decode cX10_proves 23 = .ok (.getfield 65, 3) := by decide +kernel
theorem dX10_proves_26 : decode cX10_proves 26 = .ok (.iload_n 1, 1) := by decide +kernel
theorem dX10_proves_27 : decode cX10_proves 27 = .ok (.iconst 0, 1) := by decide +kernel
theorem dX10_proves_28 : decode cX10_proves 28 = .ok (.iastore, 1) := by decide +kernel
theorem dX10_proves_29 : decode cX10_proves 29 = .ok (.iinc 1 1, 3) := by decide +kernel
theorem dX10_proves_32 : decode cX10_proves 32 = .ok (.goto (-21), 3) := by decide +kernel
theorem dX10_proves_35 : decode cX10_proves 35 = .ok (.iconst 0, 1) := by decide +kernel
theorem dX10_proves_36 : decode cX10_proves 36 = .ok (.istore_n 1, 1) := by decide +kernel
theorem dX10_proves_37 : decode cX10_proves 37 = .ok (.iload_n 1, 1) := by decide +kernel
theorem dX10_proves_38 : decode cX10_proves 38 = .ok (.aload_n 0, 1) := by decide +kernel
theorem dX10_proves_39 : decode cX10_proves 39 = .ok (.getfield 199, 3) := by decide +kernel
theorem dX10_proves_42 : decode cX10_proves 42 = .ok (.if_icmp .ge 34, 3) := by decide +kernel
theorem dX10_proves_45 : decode cX10_proves 45 = .ok (.aload_n 0, 1) := by decide +kernel
theorem dX10_proves_46 : decode cX10_proves 46 = .ok (.getfield 65, 3) := by decide +kernel
theorem dX10_proves_49 : decode cX10_proves 49 = .ok (.bipush 6, 2) := by decide +kernel
theorem dX10_proves_51 : decode cX10_proves 51 = .ok (.aload_n 0, 1) := by decide +kernel
theorem dX10_proves_52 : decode cX10_proves 52 = .ok (.getfield 53, 3) := by decide +kernel
theorem dX10_proves_55 : decode cX10_proves 55 = .ok (.iload_n 1, 1) := by decide +kernel
theorem dX10_proves_56 : decode cX10_proves 56 = .ok (.iaload, 1) := by decide +kernel
theorem dX10_proves_57 : decode cX10_proves 57 = .ok (.imul, 1) := by decide +kernel
theorem dX10_proves_58 : decode cX10_proves 58 = .ok (.aload_n 0, 1) := by decide +kernel
theorem dX10_proves_59 : decode cX10_proves 59 = .ok (.getfield 50, 3) := by decide +kernel
theorem dX10_proves_62 : decode cX10_proves 62 = .ok (.iload_n 1, 1) := by decide +kernel
theorem dX10_proves_63 : decode cX10_proves 63 = .ok (.iaload, 1) := by decide +kernel
theorem dX10_proves_64 : decode cX10_proves 64 = .ok (.iadd, 1) := by decide +kernel
theorem dX10_proves_65 : decode cX10_proves 65 = .ok (.dup2, 1) := by decide +kernel
theorem dX10_proves_66 : decode cX10_proves 66 = .ok (.iaload, 1) := by decide +kernel
theorem dX10_proves_67 : decode cX10_proves 67 = .ok (.iconst 1, 1) := by decide +kernel
theorem dX10_proves_68 : decode cX10_proves 68 = .ok (.iadd, 1) := by decide +kernel
theorem dX10_proves_69 : decode cX10_proves 69 = .ok (.iastore, 1) := by decide +kernel
theorem dX10_proves_70 : decode cX10_proves 70 = .ok (.iinc 1 1, 3) := by decide +kernel
theorem dX10_proves_73 : decode cX10_proves 73 = .ok (.goto (-36), 3) := by decide +kernel
theorem dX10_proves_76 : decode cX10_proves 76 = .ok (.aload_n 0, 1) := by decide +kernel
theorem dX10_proves_77 : decode cX10_proves 77 = .ok (.aload_n 0, 1) := by decide +kernel
theorem dX10_proves_78 : decode cX10_proves 78 = .ok (.aload_n 0, 1) := by decide +kernel
theorem dX10_proves_79 : decode cX10_proves 79 = .ok (.aload_n 0, 1) := by decide +kernel
theorem dX10_proves_80 : decode cX10_proves 80 = .ok (.iconst 0, 1) := by decide +kernel
theorem dX10_proves_81 : decode cX10_proves 81 = .ok (.dup_x1, 1) := by decide +kernel
theorem dX10_proves_82 : decode cX10_proves 82 = .ok (.putfield 245, 3) := by decide +kernel
theorem dX10_proves_85 : decode cX10_proves 85 = .ok (.dup_x1, 1) := by decide +kernel
theorem dX10_proves_86 : decode cX10_proves 86 = .ok (.putfield 254, 3) := by decide +kernel
theorem dX10_proves_89 : decode cX10_proves 89 = .ok (.dup_x1, 1) := by decide +kernel
theorem dX10_proves_90 : decode cX10_proves 90 = .ok (.putfield 260, 3) := by decide +kernel
theorem dX10_proves_93 : decode cX10_proves 93 = .ok (.putfield 238, 3) := by decide +kernel
theorem dX10_proves_96 : decode cX10_proves 96 = .ok (.aload_n 0, 1) := by decide +kernel
theorem dX10_proves_97 : decode cX10_proves 97 = .ok (.iconst 0, 1) := by decide +kernel
theorem dX10_proves_98 : decode cX10_proves 98 = .ok (.putfield 241, 3) := by decide +kernel
theorem dX10_proves_101 : decode cX10_proves 101 = .ok (.iconst 0, 1) := by decide +kernel
theorem dX10_proves_102 : decode cX10_proves 102 = .ok (.istore_n 1, 1) := by decide +kernel
theorem dX10_proves_103 : decode cX10_proves 103 = .ok (.iload_n 1, 1) := by decide +kernel
theorem dX10_proves_104 : decode cX10_proves 104 = .ok (.bipush 6, 2) := by decide +kernel
theorem dX10_proves_106 : decode cX10_proves 106 = .ok (.if_icmp .ge 21, 3) := by decide +kernel
theorem dX10_proves_109 : decode cX10_proves 109 = .ok (.aload_n 0, 1) := by decide +kernel
theorem dX10_proves_110 : decode cX10_proves 110 = .ok (.getfield 59, 3) := by decide +kernel
theorem dX10_proves_113 : decode cX10_proves 113 = .ok (.iload_n 1, 1) := by decide +kernel
theorem dX10_proves_114 : decode cX10_proves 114 = .ok (.aload_n 0, 1) := by decide +kernel
theorem dX10_proves_115 : decode cX10_proves 115 = .ok (.getfield 41, 3) := by decide +kernel
theorem dX10_proves_118 : decode cX10_proves 118 = .ok (.iload_n 1, 1) := by decide +kernel
theorem dX10_proves_119 : decode cX10_proves 119 = .ok (.iaload, 1) := by decide +kernel
theorem dX10_proves_120 : decode cX10_proves 120 = .ok (.iastore, 1) := by decide +kernel
theorem dX10_proves_121 : decode cX10_proves 121 = .ok (.iinc 1 1, 3) := by decide +kernel
theorem dX10_proves_124 : decode cX10_proves 124 = .ok (.goto (-21), 3) := by decide +kernel
theorem dX10_proves_127 : decode cX10_proves 127 = .ok (.aload_n 0, 1) := by decide +kernel
theorem dX10_proves_128 : decode cX10_proves 128 = .ok (.iconst 0, 1) := by decide +kernel
theorem dX10_proves_129 : decode cX10_proves 129 = .ok (.invokevirtual 277, 3) := by decide +kernel
theorem dX10_proves_132 : decode cX10_proves 132 = .ok (.ifCond .eq 7, 3) := by decide +kernel
theorem dX10_proves_135 : decode cX10_proves 135 = .ok (.iconst 0, 1) := by decide +kernel
theorem dX10_proves_136 : decode cX10_proves 136 = .ok (.goto 4, 3) := by decide +kernel
theorem dX10_proves_139 : decode cX10_proves 139 = .ok (.iconst (-1), 1) := by decide +kernel
theorem dX10_proves_140 : decode cX10_proves 140 = .ok (.istore_n 1, 1) := by decide +kernel
theorem dX10_proves_141 : decode cX10_proves 141 = .ok (.iload_n 1, 1) := by decide +kernel
theorem dX10_proves_142 : decode cX10_proves 142 = .ok (.ifCond .lt 87, 3) := by decide +kernel
theorem dX10_proves_145 : decode cX10_proves 145 = .ok (.aload_n 0, 1) := by decide +kernel
theorem dX10_proves_146 : decode cX10_proves 146 = .ok (.getfield 241, 3) := by decide +kernel
theorem dX10_proves_149 : decode cX10_proves 149 = .ok (.ifCond .ne 80, 3) := by decide +kernel
theorem dX10_proves_152 : decode cX10_proves 152 = .ok (.aload_n 0, 1) := by decide +kernel
theorem dX10_proves_153 : decode cX10_proves 153 = .ok (.iload_n 1, 1) := by decide +kernel
theorem dX10_proves_154 : decode cX10_proves 154 = .ok (.invokevirtual 280, 3) := by decide +kernel
theorem dX10_proves_157 : decode cX10_proves 157 = .ok (.ifCond .ne 9, 3) := by decide +kernel
theorem dX10_proves_160 : decode cX10_proves 160 = .ok (.iinc 1 (-1), 3) := by decide +kernel
theorem dX10_proves_163 : decode cX10_proves 163 = .ok (.goto (-22), 3) := by decide +kernel
theorem dX10_proves_166 : decode cX10_proves 166 = .ok (.bipush 6, 2) := by decide +kernel
theorem dX10_proves_168 : decode cX10_proves 168 = .ok (.iload_n 1, 1) := by decide +kernel
theorem dX10_proves_169 : decode cX10_proves 169 = .ok (.imul, 1) := by decide +kernel
theorem dX10_proves_170 : decode cX10_proves 170 = .ok (.istore_n 2, 1) := by decide +kernel
theorem dX10_proves_171 : decode cX10_proves 171 = .ok (.iconst 0, 1) := by decide +kernel
theorem dX10_proves_172 : decode cX10_proves 172 = .ok (.istore_n 3, 1) := by decide +kernel
theorem dX10_proves_173 : decode cX10_proves 173 = .ok (.iload_n 3, 1) := by decide +kernel
theorem dX10_proves_174 : decode cX10_proves 174 = .ok (.bipush 6, 2) := by decide +kernel
theorem dX10_proves_176 : decode cX10_proves 176 = .ok (.if_icmp .ge 37, 3) := by decide +kernel
theorem dX10_proves_179 : decode cX10_proves 179 = .ok (.aload_n 0, 1) := by decide +kernel
theorem dX10_proves_180 : decode cX10_proves 180 = .ok (.getfield 59, 3) := by decide +kernel
theorem dX10_proves_183 : decode cX10_proves 183 = .ok (.iload_n 2, 1) := by decide +kernel
theorem dX10_proves_184 : decode cX10_proves 184 = .ok (.bipush 6, 2) := by decide +kernel
theorem dX10_proves_186 : decode cX10_proves 186 = .ok (.iadd, 1) := by decide +kernel
theorem dX10_proves_187 : decode cX10_proves 187 = .ok (.iload_n 3, 1) := by decide +kernel
theorem dX10_proves_188 : decode cX10_proves 188 = .ok (.iadd, 1) := by decide +kernel
theorem dX10_proves_189 : decode cX10_proves 189 = .ok (.aload_n 0, 1) := by decide +kernel
theorem dX10_proves_190 : decode cX10_proves 190 = .ok (.getfield 59, 3) := by decide +kernel
theorem dX10_proves_193 : decode cX10_proves 193 = .ok (.iload_n 2, 1) := by decide +kernel
theorem dX10_proves_194 : decode cX10_proves 194 = .ok (.iload_n 3, 1) := by decide +kernel
theorem dX10_proves_195 : decode cX10_proves 195 = .ok (.iadd, 1) := by decide +kernel
theorem dX10_proves_196 : decode cX10_proves 196 = .ok (.iaload, 1) := by decide +kernel
theorem dX10_proves_197 : decode cX10_proves 197 = .ok (.aload_n 0, 1) := by decide +kernel
theorem dX10_proves_198 : decode cX10_proves 198 = .ok (.getfield 62, 3) := by decide +kernel
theorem dX10_proves_201 : decode cX10_proves 201 = .ok (.iload_n 2, 1) := by decide +kernel
theorem dX10_proves_202 : decode cX10_proves 202 = .ok (.iload_n 3, 1) := by decide +kernel
theorem dX10_proves_203 : decode cX10_proves 203 = .ok (.iadd, 1) := by decide +kernel
theorem dX10_proves_204 : decode cX10_proves 204 = .ok (.iaload, 1) := by decide +kernel
theorem dX10_proves_205 : decode cX10_proves 205 = .ok (.isub, 1) := by decide +kernel
theorem dX10_proves_206 : decode cX10_proves 206 = .ok (.iastore, 1) := by decide +kernel
theorem dX10_proves_207 : decode cX10_proves 207 = .ok (.iinc 3 1, 3) := by decide +kernel
theorem dX10_proves_210 : decode cX10_proves 210 = .ok (.goto (-37), 3) := by decide +kernel
theorem dX10_proves_213 : decode cX10_proves 213 = .ok (.aload_n 0, 1) := by decide +kernel
theorem dX10_proves_214 : decode cX10_proves 214 = .ok (.iload_n 1, 1) := by decide +kernel
theorem dX10_proves_215 : decode cX10_proves 215 = .ok (.iconst 1, 1) := by decide +kernel
theorem dX10_proves_216 : decode cX10_proves 216 = .ok (.iadd, 1) := by decide +kernel
theorem dX10_proves_217 : decode cX10_proves 217 = .ok (.invokevirtual 277, 3) := by decide +kernel
theorem dX10_proves_220 : decode cX10_proves 220 = .ok (.ifCond .eq 6, 3) := by decide +kernel
theorem dX10_proves_223 : decode cX10_proves 223 = .ok (.iinc 1 1, 3) := by decide +kernel
theorem dX10_proves_226 : decode cX10_proves 226 = .ok (.goto (-85), 3) := by decide +kernel
theorem dX10_proves_229 : decode cX10_proves 229 = .ok (.aload_n 0, 1) := by decide +kernel
theorem dX10_proves_230 : decode cX10_proves 230 = .ok (.getfield 251, 3) := by decide +kernel
theorem dX10_proves_233 : decode cX10_proves 233 = .ok (.ireturn, 1) := by decide +kernel
theorem dX10_fewestNow_0 : decode cX10_fewestNow 0 = .ok (.aload_n 0, 1) := by decide +kernel
theorem dX10_fewestNow_1 : decode cX10_fewestNow 1 = .ok (.invokevirtual 283, 3) := by decide +kernel
theorem dX10_fewestNow_4 : decode cX10_fewestNow 4 = .ok (.aload_n 0, 1) := by decide +kernel
theorem dX10_fewestNow_5 : decode cX10_fewestNow 5 = .ok (.invokevirtual 286, 3) := by decide +kernel
theorem dX10_fewestNow_8 : decode cX10_fewestNow 8 = .ok (.ireturn, 1) := by decide +kernel
theorem dX10_laysNet_0 : decode cX10_laysNet 0 = .ok (.aload_n 0, 1) := by decide +kernel
theorem dX10_laysNet_1 : decode cX10_laysNet 1 = .ok (.invokevirtual 283, 3) := by decide +kernel
theorem dX10_laysNet_4 : decode cX10_laysNet 4 = .ok (.aload_n 0, 1) := by decide +kernel
theorem dX10_laysNet_5 : decode cX10_laysNet 5 = .ok (.iconst 0, 1) := by decide +kernel
theorem dX10_laysNet_6 : decode cX10_laysNet 6 = .ok (.putfield 289, 3) := by decide +kernel
theorem dX10_laysNet_9 : decode cX10_laysNet 9 = .ok (.iconst 0, 1) := by decide +kernel
theorem dX10_laysNet_10 : decode cX10_laysNet 10 = .ok (.istore_n 1, 1) := by decide +kernel
theorem dX10_laysNet_11 : decode cX10_laysNet 11 = .ok (.iload_n 1, 1) := by decide +kernel
theorem dX10_laysNet_12 : decode cX10_laysNet 12 = .ok (.aload_n 0, 1) := by decide +kernel
theorem dX10_laysNet_13 : decode cX10_laysNet 13 = .ok (.getfield 172, 3) := by decide +kernel
theorem dX10_laysNet_16 : decode cX10_laysNet 16 = .ok (.if_icmp .ge 51, 3) := by decide +kernel
theorem dX10_laysNet_19 : decode cX10_laysNet 19 = .ok (.aload_n 0, 1) := by decide +kernel
theorem dX10_laysNet_20 : decode cX10_laysNet 20 = .ok (.getfield 41, 3) := by decide +kernel
theorem dX10_laysNet_23 : decode cX10_laysNet 23 = .ok (.aload_n 0, 1) := by decide +kernel
theorem dX10_laysNet_24 : decode cX10_laysNet 24 = .ok (.getfield 47, 3) := by decide +kernel
theorem dX10_laysNet_27 : decode cX10_laysNet 27 = .ok (.iload_n 1, 1) := by decide +kernel
theorem dX10_laysNet_28 : decode cX10_laysNet 28 = .ok (.iaload, 1) := by decide +kernel
theorem dX10_laysNet_29 : decode cX10_laysNet 29 = .ok (.iaload, 1) := by decide +kernel
theorem dX10_laysNet_30 : decode cX10_laysNet 30 = .ok (.ifCond .ne 6, 3) := by decide +kernel
theorem dX10_laysNet_33 : decode cX10_laysNet 33 = .ok (.goto 28, 3) := by decide +kernel
theorem dX10_laysNet_36 : decode cX10_laysNet 36 = .ok (.aload_n 0, 1) := by decide +kernel
theorem dX10_laysNet_37 : decode cX10_laysNet 37 = .ok (.getfield 72, 3) := by decide +kernel
theorem dX10_laysNet_40 : decode cX10_laysNet 40 = .ok (.aload_n 0, 1) := by decide +kernel
theorem dX10_laysNet_41 : decode cX10_laysNet 41 = .ok (.getfield 289, 3) := by decide +kernel
theorem dX10_laysNet_44 : decode cX10_laysNet 44 = .ok (.aload_n 0, 1) := by decide +kernel
theorem dX10_laysNet_45 : decode cX10_laysNet 45 = .ok (.getfield 47, 3) := by decide +kernel
theorem dX10_laysNet_48 : decode cX10_laysNet 48 = .ok (.iload_n 1, 1) := by decide +kernel
theorem dX10_laysNet_49 : decode cX10_laysNet 49 = .ok (.iaload, 1) := by decide +kernel
theorem dX10_laysNet_50 : decode cX10_laysNet 50 = .ok (.iastore, 1) := by decide +kernel
theorem dX10_laysNet_51 : decode cX10_laysNet 51 = .ok (.aload_n 0, 1) := by decide +kernel
theorem dX10_laysNet_52 : decode cX10_laysNet 52 = .ok (.dup, 1) := by decide +kernel
theorem dX10_laysNet_53 : decode cX10_laysNet 53 = .ok (.getfield 289, 3) := by decide +kernel
theorem dX10_laysNet_56 : decode cX10_laysNet 56 = .ok (.iconst 1, 1) := by decide +kernel
theorem dX10_laysNet_57 : decode cX10_laysNet 57 = .ok (.iadd, 1) := by decide +kernel
theorem dX10_laysNet_58 : decode cX10_laysNet 58 = .ok (.putfield 289, 3) := by decide +kernel
theorem dX10_laysNet_61 : decode cX10_laysNet 61 = .ok (.iinc 1 1, 3) := by decide +kernel
theorem dX10_laysNet_64 : decode cX10_laysNet 64 = .ok (.goto (-53), 3) := by decide +kernel
theorem dX10_laysNet_67 : decode cX10_laysNet 67 = .ok (.iconst 0, 1) := by decide +kernel
theorem dX10_laysNet_68 : decode cX10_laysNet 68 = .ok (.istore_n 1, 1) := by decide +kernel
theorem dX10_laysNet_69 : decode cX10_laysNet 69 = .ok (.iload_n 1, 1) := by decide +kernel
theorem dX10_laysNet_70 : decode cX10_laysNet 70 = .ok (.sipush 700, 3) := by decide +kernel
theorem dX10_laysNet_73 : decode cX10_laysNet 73 = .ok (.if_icmp .ge 16, 3) := by decide +kernel
theorem dX10_laysNet_76 : decode cX10_laysNet 76 = .ok (.aload_n 0, 1) := by decide +kernel
theorem dX10_laysNet_77 : decode cX10_laysNet 77 = .ok (.getfield 75, 3) := by decide +kernel
theorem dX10_laysNet_80 : decode cX10_laysNet 80 = .ok (.iload_n 1, 1) := by decide +kernel
theorem dX10_laysNet_81 : decode cX10_laysNet 81 = .ok (.iconst 0, 1) := by decide +kernel
theorem dX10_laysNet_82 : decode cX10_laysNet 82 = .ok (.iastore, 1) := by decide +kernel
theorem dX10_laysNet_83 : decode cX10_laysNet 83 = .ok (.iinc 1 1, 3) := by decide +kernel
theorem dX10_laysNet_86 : decode cX10_laysNet 86 = .ok (.goto (-17), 3) := by decide +kernel
theorem dX10_laysNet_89 : decode cX10_laysNet 89 = .ok (.aload_n 0, 1) := by decide +kernel
theorem dX10_laysNet_90 : decode cX10_laysNet 90 = .ok (.getfield 75, 3) := by decide +kernel
theorem dX10_laysNet_93 : decode cX10_laysNet 93 = .ok (.iconst 0, 1) := by decide +kernel
theorem dX10_laysNet_94 : decode cX10_laysNet 94 = .ok (.iconst 1, 1) := by decide +kernel
theorem dX10_laysNet_95 : decode cX10_laysNet 95 = .ok (.iastore, 1) := by decide +kernel
theorem dX10_laysNet_96 : decode cX10_laysNet 96 = .ok (.iconst 0, 1) := by decide +kernel
theorem dX10_laysNet_97 : decode cX10_laysNet 97 = .ok (.istore_n 1, 1) := by decide +kernel
theorem dX10_laysNet_98 : decode cX10_laysNet 98 = .ok (.iload_n 1, 1) := by decide +kernel
theorem dX10_laysNet_99 : decode cX10_laysNet 99 = .ok (.aload_n 0, 1) := by decide +kernel
theorem dX10_laysNet_100 : decode cX10_laysNet 100 = .ok (.getfield 289, 3) := by decide +kernel
theorem dX10_laysNet_103 : decode cX10_laysNet 103 = .ok (.if_icmp .ge 111, 3) := by decide +kernel
theorem dX10_laysNet_106 : decode cX10_laysNet 106 = .ok (.iconst 0, 1) := by decide +kernel
theorem dX10_laysNet_107 : decode cX10_laysNet 107 = .ok (.istore_n 2, 1) := by decide +kernel
theorem dX10_laysNet_108 : decode cX10_laysNet 108 = .ok (.iload_n 2, 1) := by decide +kernel
theorem dX10_laysNet_109 : decode cX10_laysNet 109 = .ok (.aload_n 0, 1) := by decide +kernel
theorem dX10_laysNet_110 : decode cX10_laysNet 110 = .ok (.getfield 187, 3) := by decide +kernel
theorem dX10_laysNet_113 : decode cX10_laysNet 113 = .ok (.if_icmp .gt 95, 3) := by decide +kernel
theorem dX10_laysNet_116 : decode cX10_laysNet 116 = .ok (.iconst 0, 1) := by decide +kernel
theorem dX10_laysNet_117 : decode cX10_laysNet 117 = .ok (.istore_n 3, 1) := by decide +kernel
theorem dX10_laysNet_118 : decode cX10_laysNet 118 = .ok (.iload_n 3, 1) := by decide +kernel
theorem dX10_laysNet_119 : decode cX10_laysNet 119 = .ok (.aload_n 0, 1) := by decide +kernel
theorem dX10_laysNet_120 : decode cX10_laysNet 120 = .ok (.getfield 41, 3) := by decide +kernel
theorem dX10_laysNet_123 : decode cX10_laysNet 123 = .ok (.aload_n 0, 1) := by decide +kernel
theorem dX10_laysNet_124 : decode cX10_laysNet 124 = .ok (.getfield 72, 3) := by decide +kernel
theorem dX10_laysNet_127 : decode cX10_laysNet 127 = .ok (.iload_n 1, 1) := by decide +kernel
theorem dX10_laysNet_128 : decode cX10_laysNet 128 = .ok (.iaload, 1) := by decide +kernel
theorem dX10_laysNet_129 : decode cX10_laysNet 129 = .ok (.iaload, 1) := by decide +kernel
theorem dX10_laysNet_130 : decode cX10_laysNet 130 = .ok (.if_icmp .gt 72, 3) := by decide +kernel
theorem dX10_laysNet_133 : decode cX10_laysNet 133 = .ok (.iload_n 2, 1) := by decide +kernel
theorem dX10_laysNet_134 : decode cX10_laysNet 134 = .ok (.iload_n 3, 1) := by decide +kernel
theorem dX10_laysNet_135 : decode cX10_laysNet 135 = .ok (.aload_n 0, 1) := by decide +kernel
theorem dX10_laysNet_136 : decode cX10_laysNet 136 = .ok (.getfield 44, 3) := by decide +kernel
theorem dX10_laysNet_139 : decode cX10_laysNet 139 = .ok (.aload_n 0, 1) := by decide +kernel
theorem dX10_laysNet_140 : decode cX10_laysNet 140 = .ok (.getfield 72, 3) := by decide +kernel
theorem dX10_laysNet_143 : decode cX10_laysNet 143 = .ok (.iload_n 1, 1) := by decide +kernel
theorem dX10_laysNet_144 : decode cX10_laysNet 144 = .ok (.iaload, 1) := by decide +kernel
theorem dX10_laysNet_145 : decode cX10_laysNet 145 = .ok (.iaload, 1) := by decide +kernel
theorem dX10_laysNet_146 : decode cX10_laysNet 146 = .ok (.imul, 1) := by decide +kernel
theorem dX10_laysNet_147 : decode cX10_laysNet 147 = .ok (.iadd, 1) := by decide +kernel
theorem dX10_laysNet_148 : decode cX10_laysNet 148 = .ok (.aload_n 0, 1) := by decide +kernel
theorem dX10_laysNet_149 : decode cX10_laysNet 149 = .ok (.getfield 187, 3) := by decide +kernel
theorem dX10_laysNet_152 : decode cX10_laysNet 152 = .ok (.if_icmp .gt 50, 3) := by decide +kernel
theorem dX10_laysNet_155 : decode cX10_laysNet 155 = .ok (.aload_n 0, 1) := by decide +kernel
theorem dX10_laysNet_156 : decode cX10_laysNet 156 = .ok (.getfield 75, 3) := by decide +kernel
theorem dX10_laysNet_159 : decode cX10_laysNet 159 = .ok (.bipush 100, 2) := by decide +kernel
theorem dX10_laysNet_161 : decode cX10_laysNet 161 = .ok (.iload_n 1, 1) := by decide +kernel
theorem dX10_laysNet_162 : decode cX10_laysNet 162 = .ok (.iconst 1, 1) := by decide +kernel
theorem dX10_laysNet_163 : decode cX10_laysNet 163 = .ok (.iadd, 1) := by decide +kernel
theorem dX10_laysNet_164 : decode cX10_laysNet 164 = .ok (.imul, 1) := by decide +kernel
theorem dX10_laysNet_165 : decode cX10_laysNet 165 = .ok (.iload_n 2, 1) := by decide +kernel
theorem dX10_laysNet_166 : decode cX10_laysNet 166 = .ok (.iadd, 1) := by decide +kernel
theorem dX10_laysNet_167 : decode cX10_laysNet 167 = .ok (.iload_n 3, 1) := by decide +kernel
theorem dX10_laysNet_168 : decode cX10_laysNet 168 = .ok (.aload_n 0, 1) := by decide +kernel
theorem dX10_laysNet_169 : decode cX10_laysNet 169 = .ok (.getfield 44, 3) := by decide +kernel
theorem dX10_laysNet_172 : decode cX10_laysNet 172 = .ok (.aload_n 0, 1) := by decide +kernel
theorem dX10_laysNet_173 : decode cX10_laysNet 173 = .ok (.getfield 72, 3) := by decide +kernel
theorem dX10_laysNet_176 : decode cX10_laysNet 176 = .ok (.iload_n 1, 1) := by decide +kernel
theorem dX10_laysNet_177 : decode cX10_laysNet 177 = .ok (.iaload, 1) := by decide +kernel
theorem dX10_laysNet_178 : decode cX10_laysNet 178 = .ok (.iaload, 1) := by decide +kernel
theorem dX10_laysNet_179 : decode cX10_laysNet 179 = .ok (.imul, 1) := by decide +kernel
theorem dX10_laysNet_180 : decode cX10_laysNet 180 = .ok (.iadd, 1) := by decide +kernel
theorem dX10_laysNet_181 : decode cX10_laysNet 181 = .ok (.dup2, 1) := by decide +kernel
theorem dX10_laysNet_182 : decode cX10_laysNet 182 = .ok (.iaload, 1) := by decide +kernel
theorem dX10_laysNet_183 : decode cX10_laysNet 183 = .ok (.aload_n 0, 1) := by decide +kernel
theorem dX10_laysNet_184 : decode cX10_laysNet 184 = .ok (.getfield 75, 3) := by decide +kernel
theorem dX10_laysNet_187 : decode cX10_laysNet 187 = .ok (.bipush 100, 2) := by decide +kernel
theorem dX10_laysNet_189 : decode cX10_laysNet 189 = .ok (.iload_n 1, 1) := by decide +kernel
theorem dX10_laysNet_190 : decode cX10_laysNet 190 = .ok (.imul, 1) := by decide +kernel
theorem dX10_laysNet_191 : decode cX10_laysNet 191 = .ok (.iload_n 2, 1) := by decide +kernel
theorem dX10_laysNet_192 : decode cX10_laysNet 192 = .ok (.iadd, 1) := by decide +kernel
theorem dX10_laysNet_193 : decode cX10_laysNet 193 = .ok (.iaload, 1) := by decide +kernel
theorem dX10_laysNet_194 : decode cX10_laysNet 194 = .ok (.iadd, 1) := by decide +kernel
theorem dX10_laysNet_195 : decode cX10_laysNet 195 = .ok (.iastore, 1) := by decide +kernel
theorem dX10_laysNet_196 : decode cX10_laysNet 196 = .ok (.iinc 3 1, 3) := by decide +kernel
theorem dX10_laysNet_199 : decode cX10_laysNet 199 = .ok (.goto (-81), 3) := by decide +kernel
theorem dX10_laysNet_202 : decode cX10_laysNet 202 = .ok (.iinc 2 1, 3) := by decide +kernel
theorem dX10_laysNet_205 : decode cX10_laysNet 205 = .ok (.goto (-97), 3) := by decide +kernel
theorem dX10_laysNet_208 : decode cX10_laysNet 208 = .ok (.iinc 1 1, 3) := by decide +kernel
theorem dX10_laysNet_211 : decode cX10_laysNet 211 = .ok (.goto (-113), 3) := by decide +kernel
theorem dX10_laysNet_214 : decode cX10_laysNet 214 = .ok (.iconst 0, 1) := by decide +kernel
theorem dX10_laysNet_215 : decode cX10_laysNet 215 = .ok (.istore_n 1, 1) := by decide +kernel
theorem dX10_laysNet_216 : decode cX10_laysNet 216 = .ok (.iload_n 1, 1) := by decide +kernel
theorem dX10_laysNet_217 : decode cX10_laysNet 217 = .ok (.aload_n 0, 1) := by decide +kernel
theorem dX10_laysNet_218 : decode cX10_laysNet 218 = .ok (.getfield 187, 3) := by decide +kernel
theorem dX10_laysNet_221 : decode cX10_laysNet 221 = .ok (.if_icmp .gt 27, 3) := by decide +kernel
theorem dX10_laysNet_224 : decode cX10_laysNet 224 = .ok (.aload_n 0, 1) := by decide +kernel
theorem dX10_laysNet_225 : decode cX10_laysNet 225 = .ok (.getfield 78, 3) := by decide +kernel
theorem dX10_laysNet_228 : decode cX10_laysNet 228 = .ok (.bipush 100, 2) := by decide +kernel
theorem dX10_laysNet_230 : decode cX10_laysNet 230 = .ok (.aload_n 0, 1) := by decide +kernel
theorem dX10_laysNet_231 : decode cX10_laysNet 231 = .ok (.getfield 289, 3) := by decide +kernel
theorem dX10_laysNet_234 : decode cX10_laysNet 234 = .ok (.imul, 1) := by decide +kernel
theorem dX10_laysNet_235 : decode cX10_laysNet 235 = .ok (.iload_n 1, 1) := by decide +kernel
theorem dX10_laysNet_236 : decode cX10_laysNet 236 = .ok (.iadd, 1) := by decide +kernel
theorem dX10_laysNet_237 : decode cX10_laysNet 237 = .ok (.aload_n 0, 1) := by decide +kernel
theorem dX10_laysNet_238 : decode cX10_laysNet 238 = .ok (.getfield 187, 3) := by decide +kernel
theorem dX10_laysNet_241 : decode cX10_laysNet 241 = .ok (.iastore, 1) := by decide +kernel
theorem dX10_laysNet_242 : decode cX10_laysNet 242 = .ok (.iinc 1 1, 3) := by decide +kernel
theorem dX10_laysNet_245 : decode cX10_laysNet 245 = .ok (.goto (-29), 3) := by decide +kernel
theorem dX10_laysNet_248 : decode cX10_laysNet 248 = .ok (.aload_n 0, 1) := by decide +kernel
theorem dX10_laysNet_249 : decode cX10_laysNet 249 = .ok (.getfield 289, 3) := by decide +kernel
theorem dX10_laysNet_252 : decode cX10_laysNet 252 = .ok (.iconst 1, 1) := by decide +kernel
theorem dX10_laysNet_253 : decode cX10_laysNet 253 = .ok (.isub, 1) := by decide +kernel
theorem dX10_laysNet_254 : decode cX10_laysNet 254 = .ok (.istore_n 1, 1) := by decide +kernel
theorem dX10_laysNet_255 : decode cX10_laysNet 255 = .ok (.iload_n 1, 1) := by decide +kernel
theorem dX10_laysNet_256 : decode cX10_laysNet 256 = .ok (.ifCond .lt 144, 3) := by decide +kernel
theorem dX10_laysNet_259 : decode cX10_laysNet 259 = .ok (.iconst 0, 1) := by decide +kernel
theorem dX10_laysNet_260 : decode cX10_laysNet 260 = .ok (.istore_n 2, 1) := by decide +kernel
theorem dX10_laysNet_261 : decode cX10_laysNet 261 = .ok (.iload_n 2, 1) := by decide +kernel
theorem dX10_laysNet_262 : decode cX10_laysNet 262 = .ok (.aload_n 0, 1) := by decide +kernel
theorem dX10_laysNet_263 : decode cX10_laysNet 263 = .ok (.getfield 187, 3) := by decide +kernel
theorem dX10_laysNet_266 : decode cX10_laysNet 266 = .ok (.if_icmp .gt 128, 3) := by decide +kernel
theorem dX10_laysNet_269 : decode cX10_laysNet 269 = .ok (.aload_n 0, 1) := by decide +kernel
theorem dX10_laysNet_270 : decode cX10_laysNet 270 = .ok (.getfield 187, 3) := by decide +kernel
theorem dX10_laysNet_273 : decode cX10_laysNet 273 = .ok (.istore_n 3, 1) := by decide +kernel
theorem dX10_laysNet_274 : decode cX10_laysNet 274 = .ok (.iconst 0, 1) := by decide +kernel
theorem dX10_laysNet_275 : decode cX10_laysNet 275 = .ok (.istore 4, 2) := by decide +kernel
theorem dX10_laysNet_277 : decode cX10_laysNet 277 = .ok (.iload 4, 2) := by decide +kernel
theorem dX10_laysNet_279 : decode cX10_laysNet 279 = .ok (.aload_n 0, 1) := by decide +kernel
theorem dX10_laysNet_280 : decode cX10_laysNet 280 = .ok (.getfield 41, 3) := by decide +kernel
theorem dX10_laysNet_283 : decode cX10_laysNet 283 = .ok (.aload_n 0, 1) := by decide +kernel
theorem dX10_laysNet_284 : decode cX10_laysNet 284 = .ok (.getfield 72, 3) := by decide +kernel
theorem dX10_laysNet_287 : decode cX10_laysNet 287 = .ok (.iload_n 1, 1) := by decide +kernel
theorem dX10_laysNet_288 : decode cX10_laysNet 288 = .ok (.iaload, 1) := by decide +kernel
theorem dX10_laysNet_289 : decode cX10_laysNet 289 = .ok (.iaload, 1) := by decide +kernel
theorem dX10_laysNet_290 : decode cX10_laysNet 290 = .ok (.if_icmp .gt 86, 3) := by decide +kernel
theorem dX10_laysNet_293 : decode cX10_laysNet 293 = .ok (.iload_n 2, 1) := by decide +kernel
theorem dX10_laysNet_294 : decode cX10_laysNet 294 = .ok (.iload 4, 2) := by decide +kernel
theorem dX10_laysNet_296 : decode cX10_laysNet 296 = .ok (.aload_n 0, 1) := by decide +kernel
theorem dX10_laysNet_297 : decode cX10_laysNet 297 = .ok (.getfield 44, 3) := by decide +kernel
theorem dX10_laysNet_300 : decode cX10_laysNet 300 = .ok (.aload_n 0, 1) := by decide +kernel
theorem dX10_laysNet_301 : decode cX10_laysNet 301 = .ok (.getfield 72, 3) := by decide +kernel
theorem dX10_laysNet_304 : decode cX10_laysNet 304 = .ok (.iload_n 1, 1) := by decide +kernel
theorem dX10_laysNet_305 : decode cX10_laysNet 305 = .ok (.iaload, 1) := by decide +kernel
theorem dX10_laysNet_306 : decode cX10_laysNet 306 = .ok (.iaload, 1) := by decide +kernel
theorem dX10_laysNet_307 : decode cX10_laysNet 307 = .ok (.imul, 1) := by decide +kernel
theorem dX10_laysNet_308 : decode cX10_laysNet 308 = .ok (.iadd, 1) := by decide +kernel
theorem dX10_laysNet_309 : decode cX10_laysNet 309 = .ok (.aload_n 0, 1) := by decide +kernel
theorem dX10_laysNet_310 : decode cX10_laysNet 310 = .ok (.getfield 187, 3) := by decide +kernel
theorem dX10_laysNet_313 : decode cX10_laysNet 313 = .ok (.if_icmp .gt 63, 3) := by decide +kernel
theorem dX10_laysNet_316 : decode cX10_laysNet 316 = .ok (.aload_n 0, 1) := by decide +kernel
theorem dX10_laysNet_317 : decode cX10_laysNet 317 = .ok (.getfield 78, 3) := by decide +kernel
theorem dX10_laysNet_320 : decode cX10_laysNet 320 = .ok (.bipush 100, 2) := by decide +kernel
theorem dX10_laysNet_322 : decode cX10_laysNet 322 = .ok (.iload_n 1, 1) := by decide +kernel
theorem dX10_laysNet_323 : decode cX10_laysNet 323 = .ok (.iconst 1, 1) := by decide +kernel
theorem dX10_laysNet_324 : decode cX10_laysNet 324 = .ok (.iadd, 1) := by decide +kernel
theorem dX10_laysNet_325 : decode cX10_laysNet 325 = .ok (.imul, 1) := by decide +kernel
theorem dX10_laysNet_326 : decode cX10_laysNet 326 = .ok (.iload_n 2, 1) := by decide +kernel
theorem dX10_laysNet_327 : decode cX10_laysNet 327 = .ok (.iadd, 1) := by decide +kernel
theorem dX10_laysNet_328 : decode cX10_laysNet 328 = .ok (.iload 4, 2) := by decide +kernel
theorem dX10_laysNet_330 : decode cX10_laysNet 330 = .ok (.aload_n 0, 1) := by decide +kernel
theorem dX10_laysNet_331 : decode cX10_laysNet 331 = .ok (.getfield 44, 3) := by decide +kernel
theorem dX10_laysNet_334 : decode cX10_laysNet 334 = .ok (.aload_n 0, 1) := by decide +kernel
theorem dX10_laysNet_335 : decode cX10_laysNet 335 = .ok (.getfield 72, 3) := by decide +kernel
theorem dX10_laysNet_338 : decode cX10_laysNet 338 = .ok (.iload_n 1, 1) := by decide +kernel
theorem dX10_laysNet_339 : decode cX10_laysNet 339 = .ok (.iaload, 1) := by decide +kernel
theorem dX10_laysNet_340 : decode cX10_laysNet 340 = .ok (.iaload, 1) := by decide +kernel
theorem dX10_laysNet_341 : decode cX10_laysNet 341 = .ok (.imul, 1) := by decide +kernel
theorem dX10_laysNet_342 : decode cX10_laysNet 342 = .ok (.iadd, 1) := by decide +kernel
theorem dX10_laysNet_343 : decode cX10_laysNet 343 = .ok (.iaload, 1) := by decide +kernel
theorem dX10_laysNet_344 : decode cX10_laysNet 344 = .ok (.iload 4, 2) := by decide +kernel
theorem dX10_laysNet_346 : decode cX10_laysNet 346 = .ok (.aload_n 0, 1) := by decide +kernel
theorem dX10_laysNet_347 : decode cX10_laysNet 347 = .ok (.getfield 44, 3) := by decide +kernel
theorem dX10_laysNet_350 : decode cX10_laysNet 350 = .ok (.aload_n 0, 1) := by decide +kernel
theorem dX10_laysNet_351 : decode cX10_laysNet 351 = .ok (.getfield 72, 3) := by decide +kernel
theorem dX10_laysNet_354 : decode cX10_laysNet 354 = .ok (.iload_n 1, 1) := by decide +kernel
theorem dX10_laysNet_355 : decode cX10_laysNet 355 = .ok (.iaload, 1) := by decide +kernel
theorem dX10_laysNet_356 : decode cX10_laysNet 356 = .ok (.iaload, 1) := by decide +kernel
theorem dX10_laysNet_357 : decode cX10_laysNet 357 = .ok (.imul, 1) := by decide +kernel
theorem dX10_laysNet_358 : decode cX10_laysNet 358 = .ok (.isub, 1) := by decide +kernel
theorem dX10_laysNet_359 : decode cX10_laysNet 359 = .ok (.istore 5, 2) := by decide +kernel
theorem dX10_laysNet_361 : decode cX10_laysNet 361 = .ok (.iload 5, 2) := by decide +kernel
theorem dX10_laysNet_363 : decode cX10_laysNet 363 = .ok (.iload_n 3, 1) := by decide +kernel
theorem dX10_laysNet_364 : decode cX10_laysNet 364 = .ok (.if_icmp .ge 6, 3) := by decide +kernel
theorem dX10_laysNet_367 : decode cX10_laysNet 367 = .ok (.iload 5, 2) := by decide +kernel
theorem dX10_laysNet_369 : decode cX10_laysNet 369 = .ok (.istore_n 3, 1) := by decide +kernel
theorem dX10_laysNet_370 : decode cX10_laysNet 370 = .ok (.iinc 4 1, 3) := by decide +kernel
theorem dX10_laysNet_373 : decode cX10_laysNet 373 = .ok (.goto (-96), 3) := by decide +kernel
theorem dX10_laysNet_376 : decode cX10_laysNet 376 = .ok (.aload_n 0, 1) := by decide +kernel
theorem dX10_laysNet_377 : decode cX10_laysNet 377 = .ok (.getfield 78, 3) := by decide +kernel
theorem dX10_laysNet_380 : decode cX10_laysNet 380 = .ok (.bipush 100, 2) := by decide +kernel
theorem dX10_laysNet_382 : decode cX10_laysNet 382 = .ok (.iload_n 1, 1) := by decide +kernel
theorem dX10_laysNet_383 : decode cX10_laysNet 383 = .ok (.imul, 1) := by decide +kernel
theorem dX10_laysNet_384 : decode cX10_laysNet 384 = .ok (.iload_n 2, 1) := by decide +kernel
theorem dX10_laysNet_385 : decode cX10_laysNet 385 = .ok (.iadd, 1) := by decide +kernel
theorem dX10_laysNet_386 : decode cX10_laysNet 386 = .ok (.iload_n 3, 1) := by decide +kernel
theorem dX10_laysNet_387 : decode cX10_laysNet 387 = .ok (.iastore, 1) := by decide +kernel
theorem dX10_laysNet_388 : decode cX10_laysNet 388 = .ok (.iinc 2 1, 3) := by decide +kernel
theorem dX10_laysNet_391 : decode cX10_laysNet 391 = .ok (.goto (-130), 3) := by decide +kernel
theorem dX10_laysNet_394 : decode cX10_laysNet 394 = .ok (.iinc 1 (-1), 3) := by decide +kernel
theorem dX10_laysNet_397 : decode cX10_laysNet 397 = .ok (.goto (-142), 3) := by decide +kernel
theorem dX10_laysNet_400 : decode cX10_laysNet 400 = .ok (.return_, 1) := by decide +kernel
theorem dX10_isPoint_0 : decode cX10_isPoint 0 = .ok (.aload_n 0, 1) := by decide +kernel
theorem dX10_isPoint_1 : decode cX10_isPoint 1 = .ok (.getfield 75, 3) := by decide +kernel
theorem dX10_isPoint_4 : decode cX10_isPoint 4 = .ok (.bipush 100, 2) := by decide +kernel
theorem dX10_isPoint_6 : decode cX10_isPoint 6 = .ok (.iload_n 1, 1) := by decide +kernel
theorem dX10_isPoint_7 : decode cX10_isPoint 7 = .ok (.imul, 1) := by decide +kernel
theorem dX10_isPoint_8 : decode cX10_isPoint 8 = .ok (.iload_n 2, 1) := by decide +kernel
theorem dX10_isPoint_9 : decode cX10_isPoint 9 = .ok (.iadd, 1) := by decide +kernel
theorem dX10_isPoint_10 : decode cX10_isPoint 10 = .ok (.iaload, 1) := by decide +kernel
theorem dX10_isPoint_11 : decode cX10_isPoint 11 = .ok (.ifCond .le 7, 3) := by decide +kernel
theorem dX10_isPoint_14 : decode cX10_isPoint 14 = .ok (.iconst 1, 1) := by decide +kernel
theorem dX10_isPoint_15 : decode cX10_isPoint 15 = .ok (.goto 4, 3) := by decide +kernel
theorem dX10_isPoint_18 : decode cX10_isPoint 18 = .ok (.iconst 0, 1) := by decide +kernel
theorem dX10_isPoint_19 : decode cX10_isPoint 19 = .ok (.ireturn, 1) := by decide +kernel
theorem dX10_isFirstHigh_0 : decode cX10_isFirstHigh 0 = .ok (.iconst 0, 1) := by decide +kernel
theorem dX10_isFirstHigh_1 : decode cX10_isFirstHigh 1 = .ok (.istore_n 3, 1) := by decide +kernel
theorem dX10_isFirstHigh_2 : decode cX10_isFirstHigh 2 = .ok (.iload_n 3, 1) := by decide +kernel
theorem dX10_isFirstHigh_3 : decode cX10_isFirstHigh 3 = .ok (.iload_n 2, 1) := by decide +kernel
theorem dX10_isFirstHigh_4 : decode cX10_isFirstHigh 4 = .ok (.if_icmp .ge 45, 3) := by decide +kernel
theorem dX10_isFirstHigh_7 : decode cX10_isFirstHigh 7 = .ok (.aload_n 0, 1) := by decide +kernel
theorem dX10_isFirstHigh_8 : decode cX10_isFirstHigh 8 = .ok (.iload_n 1, 1) := by decide +kernel
theorem dX10_isFirstHigh_9 : decode cX10_isFirstHigh 9 = .ok (.iload_n 3, 1) := by decide +kernel
theorem dX10_isFirstHigh_10 : decode cX10_isFirstHigh 10 = .ok (.invokevirtual 292, 3) := by decide +kernel
theorem dX10_isFirstHigh_13 : decode cX10_isFirstHigh 13 = .ok (.ifCond .eq 30, 3) := by decide +kernel
theorem dX10_isFirstHigh_16 : decode cX10_isFirstHigh 16 = .ok (.aload_n 0, 1) := by decide +kernel
theorem dX10_isFirstHigh_17 : decode cX10_isFirstHigh 17 = .ok (.getfield 78, 3) := by decide +kernel
theorem dX10_isFirstHigh_20 : decode cX10_isFirstHigh 20 = .ok (.bipush 100, 2) := by decide +kernel
theorem dX10_isFirstHigh_22 : decode cX10_isFirstHigh 22 = .ok (.iload_n 1, 1) := by decide +kernel
theorem dX10_isFirstHigh_23 : decode cX10_isFirstHigh 23 = .ok (.imul, 1) := by decide +kernel
theorem dX10_isFirstHigh_24 : decode cX10_isFirstHigh 24 = .ok (.iload_n 3, 1) := by decide +kernel
theorem dX10_isFirstHigh_25 : decode cX10_isFirstHigh 25 = .ok (.iadd, 1) := by decide +kernel
theorem dX10_isFirstHigh_26 : decode cX10_isFirstHigh 26 = .ok (.iaload, 1) := by decide +kernel
theorem dX10_isFirstHigh_27 : decode cX10_isFirstHigh 27 = .ok (.aload_n 0, 1) := by decide +kernel
theorem dX10_isFirstHigh_28 : decode cX10_isFirstHigh 28 = .ok (.getfield 78, 3) := by decide +kernel
theorem dX10_isFirstHigh_31 : decode cX10_isFirstHigh 31 = .ok (.bipush 100, 2) := by decide +kernel
theorem dX10_isFirstHigh_33 : decode cX10_isFirstHigh 33 = .ok (.iload_n 1, 1) := by decide +kernel
theorem dX10_isFirstHigh_34 : decode cX10_isFirstHigh 34 = .ok (.imul, 1) := by decide +kernel
theorem dX10_isFirstHigh_35 : decode cX10_isFirstHigh 35 = .ok (.iload_n 2, 1) := by decide +kernel
theorem dX10_isFirstHigh_36 : decode cX10_isFirstHigh 36 = .ok (.iadd, 1) := by decide +kernel
theorem dX10_isFirstHigh_37 : decode cX10_isFirstHigh 37 = .ok (.iaload, 1) := by decide +kernel
theorem dX10_isFirstHigh_38 : decode cX10_isFirstHigh 38 = .ok (.if_icmp .ne 5, 3) := by decide +kernel
theorem dX10_isFirstHigh_41 : decode cX10_isFirstHigh 41 = .ok (.iconst 0, 1) := by decide +kernel
theorem dX10_isFirstHigh_42 : decode cX10_isFirstHigh 42 = .ok (.ireturn, 1) := by decide +kernel
theorem dX10_isFirstHigh_43 : decode cX10_isFirstHigh 43 = .ok (.iinc 3 1, 3) := by decide +kernel
theorem dX10_isFirstHigh_46 : decode cX10_isFirstHigh 46 = .ok (.goto (-44), 3) := by decide +kernel
theorem dX10_isFirstHigh_49 : decode cX10_isFirstHigh 49 = .ok (.iconst 1, 1) := by decide +kernel
theorem dX10_isFirstHigh_50 : decode cX10_isFirstHigh 50 = .ok (.ireturn, 1) := by decide +kernel
theorem dX10_points_0 : decode cX10_points 0 = .ok (.iconst 0, 1) := by decide +kernel
theorem dX10_points_1 : decode cX10_points 1 = .ok (.istore_n 2, 1) := by decide +kernel
theorem dX10_points_2 : decode cX10_points 2 = .ok (.iconst 0, 1) := by decide +kernel
theorem dX10_points_3 : decode cX10_points 3 = .ok (.istore_n 3, 1) := by decide +kernel
theorem dX10_points_4 : decode cX10_points 4 = .ok (.iload_n 3, 1) := by decide +kernel
theorem dX10_points_5 : decode cX10_points 5 = .ok (.aload_n 0, 1) := by decide +kernel
theorem dX10_points_6 : decode cX10_points 6 = .ok (.getfield 289, 3) := by decide +kernel
theorem dX10_points_9 : decode cX10_points 9 = .ok (.if_icmp .gt 54, 3) := by decide +kernel
theorem dX10_points_12 : decode cX10_points 12 = .ok (.iconst 0, 1) := by decide +kernel
theorem dX10_points_13 : decode cX10_points 13 = .ok (.istore 4, 2) := by decide +kernel
theorem dX10_points_15 : decode cX10_points 15 = .ok (.iload 4, 2) := by decide +kernel
theorem dX10_points_17 : decode cX10_points 17 = .ok (.aload_n 0, 1) := by decide +kernel
theorem dX10_points_18 : decode cX10_points 18 = .ok (.getfield 187, 3) := by decide +kernel
theorem dX10_points_21 : decode cX10_points 21 = .ok (.if_icmp .gt 36, 3) := by decide +kernel
theorem dX10_points_24 : decode cX10_points 24 = .ok (.aload_n 0, 1) := by decide +kernel
theorem dX10_points_25 : decode cX10_points 25 = .ok (.iload_n 3, 1) := by decide +kernel
theorem dX10_points_26 : decode cX10_points 26 = .ok (.iload 4, 2) := by decide +kernel
theorem dX10_points_28 : decode cX10_points 28 = .ok (.invokevirtual 292, 3) := by decide +kernel
theorem dX10_points_31 : decode cX10_points 31 = .ok (.ifCond .eq 20, 3) := by decide +kernel
theorem dX10_points_34 : decode cX10_points 34 = .ok (.iload_n 1, 1) := by decide +kernel
theorem dX10_points_35 : decode cX10_points 35 = .ok (.ifCond .eq 13, 3) := by decide +kernel
theorem dX10_points_38 : decode cX10_points 38 = .ok (.aload_n 0, 1) := by decide +kernel
theorem dX10_points_39 : decode cX10_points 39 = .ok (.iload_n 3, 1) := by decide +kernel
theorem dX10_points_40 : decode cX10_points 40 = .ok (.iload 4, 2) := by decide +kernel
theorem dX10_points_42 : decode cX10_points 42 = .ok (.invokevirtual 296, 3) := by decide +kernel
theorem dX10_points_45 : decode cX10_points 45 = .ok (.ifCond .eq 6, 3) := by decide +kernel
theorem dX10_points_48 : decode cX10_points 48 = .ok (.iinc 2 1, 3) := by decide +kernel
theorem dX10_points_51 : decode cX10_points 51 = .ok (.iinc 4 1, 3) := by decide +kernel
theorem dX10_points_54 : decode cX10_points 54 = .ok (.goto (-39), 3) := by decide +kernel
theorem dX10_points_57 : decode cX10_points 57 = .ok (.iinc 3 1, 3) := by decide +kernel
theorem dX10_points_60 : decode cX10_points 60 = .ok (.goto (-56), 3) := by decide +kernel
theorem dX10_points_63 : decode cX10_points 63 = .ok (.iload_n 2, 1) := by decide +kernel
theorem dX10_points_64 : decode cX10_points 64 = .ok (.ireturn, 1) := by decide +kernel
theorem dX10_arcs_0 : decode cX10_arcs 0 = .ok (.iconst 0, 1) := by decide +kernel
theorem dX10_arcs_1 : decode cX10_arcs 1 = .ok (.istore_n 2, 1) := by decide +kernel
theorem dX10_arcs_2 : decode cX10_arcs 2 = .ok (.iconst 0, 1) := by decide +kernel
theorem dX10_arcs_3 : decode cX10_arcs 3 = .ok (.istore_n 3, 1) := by decide +kernel
theorem dX10_arcs_4 : decode cX10_arcs 4 = .ok (.iload_n 3, 1) := by decide +kernel
theorem dX10_arcs_5 : decode cX10_arcs 5 = .ok (.aload_n 0, 1) := by decide +kernel
theorem dX10_arcs_6 : decode cX10_arcs 6 = .ok (.getfield 289, 3) := by decide +kernel
theorem dX10_arcs_9 : decode cX10_arcs 9 = .ok (.if_icmp .ge 106, 3) := by decide +kernel
theorem dX10_arcs_12 : decode cX10_arcs 12 = .ok (.iconst 0, 1) := by decide +kernel
theorem dX10_arcs_13 : decode cX10_arcs 13 = .ok (.istore 4, 2) := by decide +kernel
theorem dX10_arcs_15 : decode cX10_arcs 15 = .ok (.iload 4, 2) := by decide +kernel
theorem dX10_arcs_17 : decode cX10_arcs 17 = .ok (.aload_n 0, 1) := by decide +kernel
theorem dX10_arcs_18 : decode cX10_arcs 18 = .ok (.getfield 187, 3) := by decide +kernel
theorem dX10_arcs_21 : decode cX10_arcs 21 = .ok (.if_icmp .gt 88, 3) := by decide +kernel
theorem dX10_arcs_24 : decode cX10_arcs 24 = .ok (.aload_n 0, 1) := by decide +kernel
theorem dX10_arcs_25 : decode cX10_arcs 25 = .ok (.iload_n 3, 1) := by decide +kernel
theorem dX10_arcs_26 : decode cX10_arcs 26 = .ok (.iload 4, 2) := by decide +kernel
theorem dX10_arcs_28 : decode cX10_arcs 28 = .ok (.invokevirtual 292, 3) := by decide +kernel
theorem dX10_arcs_31 : decode cX10_arcs 31 = .ok (.ifCond .eq 72, 3) := by decide +kernel
theorem dX10_arcs_34 : decode cX10_arcs 34 = .ok (.iload_n 1, 1) := by decide +kernel
theorem dX10_arcs_35 : decode cX10_arcs 35 = .ok (.ifCond .eq 16, 3) := by decide +kernel
theorem dX10_arcs_38 : decode cX10_arcs 38 = .ok (.aload_n 0, 1) := by decide +kernel
theorem dX10_arcs_39 : decode cX10_arcs 39 = .ok (.iload_n 3, 1) := by decide +kernel
theorem dX10_arcs_40 : decode cX10_arcs 40 = .ok (.iload 4, 2) := by decide +kernel
theorem dX10_arcs_42 : decode cX10_arcs 42 = .ok (.invokevirtual 296, 3) := by decide +kernel
theorem dX10_arcs_45 : decode cX10_arcs 45 = .ok (.ifCond .ne 6, 3) := by decide +kernel
theorem dX10_arcs_48 : decode cX10_arcs 48 = .ok (.goto 55, 3) := by decide +kernel
theorem dX10_arcs_51 : decode cX10_arcs 51 = .ok (.iconst 0, 1) := by decide +kernel
theorem dX10_arcs_52 : decode cX10_arcs 52 = .ok (.istore 5, 2) := by decide +kernel
theorem dX10_arcs_54 : decode cX10_arcs 54 = .ok (.iload 5, 2) := by decide +kernel
theorem dX10_arcs_56 : decode cX10_arcs 56 = .ok (.aload_n 0, 1) := by decide +kernel
theorem dX10_arcs_57 : decode cX10_arcs 57 = .ok (.getfield 41, 3) := by decide +kernel
theorem dX10_arcs_60 : decode cX10_arcs 60 = .ok (.aload_n 0, 1) := by decide +kernel
theorem dX10_arcs_61 : decode cX10_arcs 61 = .ok (.getfield 72, 3) := by decide +kernel
theorem dX10_arcs_64 : decode cX10_arcs 64 = .ok (.iload_n 3, 1) := by decide +kernel
theorem dX10_arcs_65 : decode cX10_arcs 65 = .ok (.iaload, 1) := by decide +kernel
theorem dX10_arcs_66 : decode cX10_arcs 66 = .ok (.iaload, 1) := by decide +kernel
theorem dX10_arcs_67 : decode cX10_arcs 67 = .ok (.if_icmp .gt 36, 3) := by decide +kernel
theorem dX10_arcs_70 : decode cX10_arcs 70 = .ok (.iload 4, 2) := by decide +kernel
theorem dX10_arcs_72 : decode cX10_arcs 72 = .ok (.iload 5, 2) := by decide +kernel
theorem dX10_arcs_74 : decode cX10_arcs 74 = .ok (.aload_n 0, 1) := by decide +kernel
theorem dX10_arcs_75 : decode cX10_arcs 75 = .ok (.getfield 44, 3) := by decide +kernel
theorem dX10_arcs_78 : decode cX10_arcs 78 = .ok (.aload_n 0, 1) := by decide +kernel
theorem dX10_arcs_79 : decode cX10_arcs 79 = .ok (.getfield 72, 3) := by decide +kernel
theorem dX10_arcs_82 : decode cX10_arcs 82 = .ok (.iload_n 3, 1) := by decide +kernel
theorem dX10_arcs_83 : decode cX10_arcs 83 = .ok (.iaload, 1) := by decide +kernel
theorem dX10_arcs_84 : decode cX10_arcs 84 = .ok (.iaload, 1) := by decide +kernel
theorem dX10_arcs_85 : decode cX10_arcs 85 = .ok (.imul, 1) := by decide +kernel
theorem dX10_arcs_86 : decode cX10_arcs 86 = .ok (.iadd, 1) := by decide +kernel
theorem dX10_arcs_87 : decode cX10_arcs 87 = .ok (.aload_n 0, 1) := by decide +kernel
theorem dX10_arcs_88 : decode cX10_arcs 88 = .ok (.getfield 187, 3) := by decide +kernel
theorem dX10_arcs_91 : decode cX10_arcs 91 = .ok (.if_icmp .gt 12, 3) := by decide +kernel
theorem dX10_arcs_94 : decode cX10_arcs 94 = .ok (.iinc 2 1, 3) := by decide +kernel
theorem dX10_arcs_97 : decode cX10_arcs 97 = .ok (.iinc 5 1, 3) := by decide +kernel
theorem dX10_arcs_100 : decode cX10_arcs 100 = .ok (.goto (-46), 3) := by decide +kernel
theorem dX10_arcs_103 : decode cX10_arcs 103 = .ok (.iinc 4 1, 3) := by decide +kernel
theorem dX10_arcs_106 : decode cX10_arcs 106 = .ok (.goto (-91), 3) := by decide +kernel
theorem dX10_arcs_109 : decode cX10_arcs 109 = .ok (.iinc 3 1, 3) := by decide +kernel
theorem dX10_arcs_112 : decode cX10_arcs 112 = .ok (.goto (-108), 3) := by decide +kernel
theorem dX10_arcs_115 : decode cX10_arcs 115 = .ok (.iload_n 2, 1) := by decide +kernel
theorem dX10_arcs_116 : decode cX10_arcs 116 = .ok (.ireturn, 1) := by decide +kernel
theorem dX10_paths_0 : decode cX10_paths 0 = .ok (.iconst 0, 1) := by decide +kernel
theorem dX10_paths_1 : decode cX10_paths 1 = .ok (.istore_n 1, 1) := by decide +kernel
theorem dX10_paths_2 : decode cX10_paths 2 = .ok (.iconst 0, 1) := by decide +kernel
theorem dX10_paths_3 : decode cX10_paths 3 = .ok (.istore_n 2, 1) := by decide +kernel
theorem dX10_paths_4 : decode cX10_paths 4 = .ok (.iload_n 2, 1) := by decide +kernel
theorem dX10_paths_5 : decode cX10_paths 5 = .ok (.aload_n 0, 1) := by decide +kernel
theorem dX10_paths_6 : decode cX10_paths 6 = .ok (.getfield 187, 3) := by decide +kernel
theorem dX10_paths_9 : decode cX10_paths 9 = .ok (.if_icmp .gt 26, 3) := by decide +kernel
theorem dX10_paths_12 : decode cX10_paths 12 = .ok (.iload_n 1, 1) := by decide +kernel
theorem dX10_paths_13 : decode cX10_paths 13 = .ok (.aload_n 0, 1) := by decide +kernel
theorem dX10_paths_14 : decode cX10_paths 14 = .ok (.getfield 75, 3) := by decide +kernel
theorem dX10_paths_17 : decode cX10_paths 17 = .ok (.bipush 100, 2) := by decide +kernel
theorem dX10_paths_19 : decode cX10_paths 19 = .ok (.aload_n 0, 1) := by decide +kernel
theorem dX10_paths_20 : decode cX10_paths 20 = .ok (.getfield 289, 3) := by decide +kernel
theorem dX10_paths_23 : decode cX10_paths 23 = .ok (.imul, 1) := by decide +kernel
theorem dX10_paths_24 : decode cX10_paths 24 = .ok (.iload_n 2, 1) := by decide +kernel
theorem dX10_paths_25 : decode cX10_paths 25 = .ok (.iadd, 1) := by decide +kernel
theorem dX10_paths_26 : decode cX10_paths 26 = .ok (.iaload, 1) := by decide +kernel
theorem dX10_paths_27 : decode cX10_paths 27 = .ok (.iadd, 1) := by decide +kernel
theorem dX10_paths_28 : decode cX10_paths 28 = .ok (.istore_n 1, 1) := by decide +kernel
theorem dX10_paths_29 : decode cX10_paths 29 = .ok (.iinc 2 1, 3) := by decide +kernel
theorem dX10_paths_32 : decode cX10_paths 32 = .ok (.goto (-28), 3) := by decide +kernel
theorem dX10_paths_35 : decode cX10_paths 35 = .ok (.iload_n 1, 1) := by decide +kernel
theorem dX10_paths_36 : decode cX10_paths 36 = .ok (.ireturn, 1) := by decide +kernel
theorem dX10_squeezedPaths_0 : decode cX10_squeezedPaths 0 = .ok (.iconst 0, 1) := by decide +kernel
theorem dX10_squeezedPaths_1 : decode cX10_squeezedPaths 1 = .ok (.istore_n 1, 1) := by decide +kernel
theorem dX10_squeezedPaths_2 : decode cX10_squeezedPaths 2 = .ok (.iload_n 1, 1) := by decide +kernel
theorem dX10_squeezedPaths_3 : decode cX10_squeezedPaths 3 = .ok (.sipush 700, 3) := by decide +kernel
theorem dX10_squeezedPaths_6 : decode cX10_squeezedPaths 6 = .ok (.if_icmp .ge 16, 3) := by decide +kernel
theorem dX10_squeezedPaths_9 : decode cX10_squeezedPaths 9 = .ok (.aload_n 0, 1) := by decide +kernel
theorem dX10_squeezedPaths_10 : decode cX10_squeezedPaths 10 = .ok (.getfield 81, 3) := by decide +kernel
theorem dX10_squeezedPaths_13 : decode cX10_squeezedPaths 13 = .ok (.iload_n 1, 1) := by decide +kernel
theorem dX10_squeezedPaths_14 : decode cX10_squeezedPaths 14 = .ok (.iconst 0, 1) := by decide +kernel
theorem dX10_squeezedPaths_15 : decode cX10_squeezedPaths 15 = .ok (.iastore, 1) := by decide +kernel
theorem dX10_squeezedPaths_16 : decode cX10_squeezedPaths 16 = .ok (.iinc 1 1, 3) := by decide +kernel
theorem dX10_squeezedPaths_19 : decode cX10_squeezedPaths 19 = .ok (.goto (-17), 3) := by decide +kernel
theorem dX10_squeezedPaths_22 : decode cX10_squeezedPaths 22 = .ok (.aload_n 0, 1) := by decide +kernel
theorem dX10_squeezedPaths_23 : decode cX10_squeezedPaths 23 = .ok (.getfield 81, 3) := by decide +kernel
theorem dX10_squeezedPaths_26 : decode cX10_squeezedPaths 26 = .ok (.aload_n 0, 1) := by decide +kernel
theorem dX10_squeezedPaths_27 : decode cX10_squeezedPaths 27 = .ok (.getfield 78, 3) := by decide +kernel
theorem dX10_squeezedPaths_30 : decode cX10_squeezedPaths 30 = .ok (.iconst 0, 1) := by decide +kernel
theorem dX10_squeezedPaths_31 : decode cX10_squeezedPaths 31 = .ok (.iaload, 1) := by decide +kernel
theorem dX10_squeezedPaths_32 : decode cX10_squeezedPaths 32 = .ok (.iconst 1, 1) := by decide +kernel
theorem dX10_squeezedPaths_33 : decode cX10_squeezedPaths 33 = .ok (.iastore, 1) := by decide +kernel
theorem dX10_squeezedPaths_34 : decode cX10_squeezedPaths 34 = .ok (.iconst 0, 1) := by decide +kernel
theorem dX10_squeezedPaths_35 : decode cX10_squeezedPaths 35 = .ok (.istore_n 1, 1) := by decide +kernel
theorem dX10_squeezedPaths_36 : decode cX10_squeezedPaths 36 = .ok (.iload_n 1, 1) := by decide +kernel
theorem dX10_squeezedPaths_37 : decode cX10_squeezedPaths 37 = .ok (.aload_n 0, 1) := by decide +kernel
theorem dX10_squeezedPaths_38 : decode cX10_squeezedPaths 38 = .ok (.getfield 289, 3) := by decide +kernel
theorem dX10_squeezedPaths_41 : decode cX10_squeezedPaths 41 = .ok (.if_icmp .ge 160, 3) := by decide +kernel
theorem dX10_squeezedPaths_44 : decode cX10_squeezedPaths 44 = .ok (.iconst 0, 1) := by decide +kernel
theorem dX10_squeezedPaths_45 : decode cX10_squeezedPaths 45 = .ok (.istore_n 2, 1) := by decide +kernel
theorem dX10_squeezedPaths_46 : decode cX10_squeezedPaths 46 = .ok (.iload_n 2, 1) := by decide +kernel
theorem dX10_squeezedPaths_47 : decode cX10_squeezedPaths 47 = .ok (.aload_n 0, 1) := by decide +kernel
theorem dX10_squeezedPaths_48 : decode cX10_squeezedPaths 48 = .ok (.getfield 187, 3) := by decide +kernel
theorem dX10_squeezedPaths_51 : decode cX10_squeezedPaths 51 = .ok (.if_icmp .gt 144, 3) := by decide +kernel
theorem dX10_squeezedPaths_54 : decode cX10_squeezedPaths 54 = .ok (.aload_n 0, 1) := by decide +kernel
theorem dX10_squeezedPaths_55 : decode cX10_squeezedPaths 55 = .ok (.iload_n 1, 1) := by decide +kernel
theorem dX10_squeezedPaths_56 : decode cX10_squeezedPaths 56 = .ok (.iload_n 2, 1) := by decide +kernel
theorem dX10_squeezedPaths_57 : decode cX10_squeezedPaths 57 = .ok (.invokevirtual 292, 3) := by decide +kernel
theorem dX10_squeezedPaths_60 : decode cX10_squeezedPaths 60 = .ok (.ifCond .eq 129, 3) := by decide +kernel
theorem dX10_squeezedPaths_63 : decode cX10_squeezedPaths 63 = .ok (.aload_n 0, 1) := by decide +kernel
theorem dX10_squeezedPaths_64 : decode cX10_squeezedPaths 64 = .ok (.iload_n 1, 1) := by decide +kernel
theorem dX10_squeezedPaths_65 : decode cX10_squeezedPaths 65 = .ok (.iload_n 2, 1) := by decide +kernel
theorem dX10_squeezedPaths_66 : decode cX10_squeezedPaths 66 = .ok (.invokevirtual 296, 3) := by decide +kernel
theorem dX10_squeezedPaths_69 : decode cX10_squeezedPaths 69 = .ok (.ifCond .ne 6, 3) := by decide +kernel
theorem dX10_squeezedPaths_72 : decode cX10_squeezedPaths 72 = .ok (.goto 117, 3) := by decide +kernel
theorem dX10_squeezedPaths_75 : decode cX10_squeezedPaths 75 = .ok (.aload_n 0, 1) := by decide +kernel
theorem dX10_squeezedPaths_76 : decode cX10_squeezedPaths 76 = .ok (.getfield 81, 3) := by decide +kernel
theorem dX10_squeezedPaths_79 : decode cX10_squeezedPaths 79 = .ok (.bipush 100, 2) := by decide +kernel
theorem dX10_squeezedPaths_81 : decode cX10_squeezedPaths 81 = .ok (.iload_n 1, 1) := by decide +kernel
theorem dX10_squeezedPaths_82 : decode cX10_squeezedPaths 82 = .ok (.imul, 1) := by decide +kernel
theorem dX10_squeezedPaths_83 : decode cX10_squeezedPaths 83 = .ok (.aload_n 0, 1) := by decide +kernel
theorem dX10_squeezedPaths_84 : decode cX10_squeezedPaths 84 = .ok (.getfield 78, 3) := by decide +kernel
theorem dX10_squeezedPaths_87 : decode cX10_squeezedPaths 87 = .ok (.bipush 100, 2) := by decide +kernel
theorem dX10_squeezedPaths_89 : decode cX10_squeezedPaths 89 = .ok (.iload_n 1, 1) := by decide +kernel
theorem dX10_squeezedPaths_90 : decode cX10_squeezedPaths 90 = .ok (.imul, 1) := by decide +kernel
theorem dX10_squeezedPaths_91 : decode cX10_squeezedPaths 91 = .ok (.iload_n 2, 1) := by decide +kernel
theorem dX10_squeezedPaths_92 : decode cX10_squeezedPaths 92 = .ok (.iadd, 1) := by decide +kernel
theorem dX10_squeezedPaths_93 : decode cX10_squeezedPaths 93 = .ok (.iaload, 1) := by decide +kernel
theorem dX10_squeezedPaths_94 : decode cX10_squeezedPaths 94 = .ok (.iadd, 1) := by decide +kernel
theorem dX10_squeezedPaths_95 : decode cX10_squeezedPaths 95 = .ok (.iaload, 1) := by decide +kernel
theorem dX10_squeezedPaths_96 : decode cX10_squeezedPaths 96 = .ok (.istore_n 3, 1) := by decide +kernel
theorem dX10_squeezedPaths_97 : decode cX10_squeezedPaths 97 = .ok (.iconst 0, 1) := by decide +kernel
theorem dX10_squeezedPaths_98 : decode cX10_squeezedPaths 98 = .ok (.istore 4, 2) := by decide +kernel
theorem dX10_squeezedPaths_100 : decode cX10_squeezedPaths 100 = .ok (.iload 4, 2) := by decide +kernel
theorem dX10_squeezedPaths_102 : decode cX10_squeezedPaths 102 = .ok (.aload_n 0, 1) := by decide +kernel
theorem dX10_squeezedPaths_103 : decode cX10_squeezedPaths 103 = .ok (.getfield 41, 3) := by decide +kernel
theorem dX10_squeezedPaths_106 : decode cX10_squeezedPaths 106 = .ok (.aload_n 0, 1) := by decide +kernel
theorem dX10_squeezedPaths_107 : decode cX10_squeezedPaths 107 = .ok (.getfield 72, 3) := by decide +kernel
theorem dX10_squeezedPaths_110 : decode cX10_squeezedPaths 110 = .ok (.iload_n 1, 1) := by decide +kernel
theorem dX10_squeezedPaths_111 : decode cX10_squeezedPaths 111 = .ok (.iaload, 1) := by decide +kernel
theorem dX10_squeezedPaths_112 : decode cX10_squeezedPaths 112 = .ok (.iaload, 1) := by decide +kernel
theorem dX10_squeezedPaths_113 : decode cX10_squeezedPaths 113 = .ok (.if_icmp .gt 76, 3) := by decide +kernel
theorem dX10_squeezedPaths_116 : decode cX10_squeezedPaths 116 = .ok (.iload_n 2, 1) := by decide +kernel
theorem dX10_squeezedPaths_117 : decode cX10_squeezedPaths 117 = .ok (.iload 4, 2) := by decide +kernel
theorem dX10_squeezedPaths_119 : decode cX10_squeezedPaths 119 = .ok (.aload_n 0, 1) := by decide +kernel
theorem dX10_squeezedPaths_120 : decode cX10_squeezedPaths 120 = .ok (.getfield 44, 3) := by decide +kernel
theorem dX10_squeezedPaths_123 : decode cX10_squeezedPaths 123 = .ok (.aload_n 0, 1) := by decide +kernel
theorem dX10_squeezedPaths_124 : decode cX10_squeezedPaths 124 = .ok (.getfield 72, 3) := by decide +kernel
theorem dX10_squeezedPaths_127 : decode cX10_squeezedPaths 127 = .ok (.iload_n 1, 1) := by decide +kernel
theorem dX10_squeezedPaths_128 : decode cX10_squeezedPaths 128 = .ok (.iaload, 1) := by decide +kernel
theorem dX10_squeezedPaths_129 : decode cX10_squeezedPaths 129 = .ok (.iaload, 1) := by decide +kernel
theorem dX10_squeezedPaths_130 : decode cX10_squeezedPaths 130 = .ok (.imul, 1) := by decide +kernel
theorem dX10_squeezedPaths_131 : decode cX10_squeezedPaths 131 = .ok (.iadd, 1) := by decide +kernel
theorem dX10_squeezedPaths_132 : decode cX10_squeezedPaths 132 = .ok (.aload_n 0, 1) := by decide +kernel
theorem dX10_squeezedPaths_133 : decode cX10_squeezedPaths 133 = .ok (.getfield 187, 3) := by decide +kernel
theorem dX10_squeezedPaths_136 : decode cX10_squeezedPaths 136 = .ok (.if_icmp .gt 53, 3) := by decide +kernel
theorem dX10_squeezedPaths_139 : decode cX10_squeezedPaths 139 = .ok (.aload_n 0, 1) := by decide +kernel
theorem dX10_squeezedPaths_140 : decode cX10_squeezedPaths 140 = .ok (.getfield 81, 3) := by decide +kernel
theorem dX10_squeezedPaths_143 : decode cX10_squeezedPaths 143 = .ok (.bipush 100, 2) := by decide +kernel
theorem dX10_squeezedPaths_145 : decode cX10_squeezedPaths 145 = .ok (.iload_n 1, 1) := by decide +kernel
theorem dX10_squeezedPaths_146 : decode cX10_squeezedPaths 146 = .ok (.iconst 1, 1) := by decide +kernel
theorem dX10_squeezedPaths_147 : decode cX10_squeezedPaths 147 = .ok (.iadd, 1) := by decide +kernel
theorem dX10_squeezedPaths_148 : decode cX10_squeezedPaths 148 = .ok (.imul, 1) := by decide +kernel
theorem dX10_squeezedPaths_149 : decode cX10_squeezedPaths 149 = .ok (.aload_n 0, 1) := by decide +kernel
theorem dX10_squeezedPaths_150 : decode cX10_squeezedPaths 150 = .ok (.getfield 78, 3) := by decide +kernel
theorem dX10_squeezedPaths_153 : decode cX10_squeezedPaths 153 = .ok (.bipush 100, 2) := by decide +kernel
theorem dX10_squeezedPaths_155 : decode cX10_squeezedPaths 155 = .ok (.iload_n 1, 1) := by decide +kernel
theorem dX10_squeezedPaths_156 : decode cX10_squeezedPaths 156 = .ok (.iconst 1, 1) := by decide +kernel
theorem dX10_squeezedPaths_157 : decode cX10_squeezedPaths 157 = .ok (.iadd, 1) := by decide +kernel
theorem dX10_squeezedPaths_158 : decode cX10_squeezedPaths 158 = .ok (.imul, 1) := by decide +kernel
theorem dX10_squeezedPaths_159 : decode cX10_squeezedPaths 159 = .ok (.iload_n 2, 1) := by decide +kernel
theorem dX10_squeezedPaths_160 : decode cX10_squeezedPaths 160 = .ok (.iadd, 1) := by decide +kernel
theorem dX10_squeezedPaths_161 : decode cX10_squeezedPaths 161 = .ok (.iload 4, 2) := by decide +kernel
theorem dX10_squeezedPaths_163 : decode cX10_squeezedPaths 163 = .ok (.aload_n 0, 1) := by decide +kernel
theorem dX10_squeezedPaths_164 : decode cX10_squeezedPaths 164 = .ok (.getfield 44, 3) := by decide +kernel
theorem dX10_squeezedPaths_167 : decode cX10_squeezedPaths 167 = .ok (.aload_n 0, 1) := by decide +kernel
theorem dX10_squeezedPaths_168 : decode cX10_squeezedPaths 168 = .ok (.getfield 72, 3) := by decide +kernel
theorem dX10_squeezedPaths_171 : decode cX10_squeezedPaths 171 = .ok (.iload_n 1, 1) := by decide +kernel
theorem dX10_squeezedPaths_172 : decode cX10_squeezedPaths 172 = .ok (.iaload, 1) := by decide +kernel
theorem dX10_squeezedPaths_173 : decode cX10_squeezedPaths 173 = .ok (.iaload, 1) := by decide +kernel
theorem dX10_squeezedPaths_174 : decode cX10_squeezedPaths 174 = .ok (.imul, 1) := by decide +kernel
theorem dX10_squeezedPaths_175 : decode cX10_squeezedPaths 175 = .ok (.iadd, 1) := by decide +kernel
theorem dX10_squeezedPaths_176 : decode cX10_squeezedPaths 176 = .ok (.iaload, 1) := by decide +kernel
theorem dX10_squeezedPaths_177 : decode cX10_squeezedPaths 177 = .ok (.iadd, 1) := by decide +kernel
theorem dX10_squeezedPaths_178 : decode cX10_squeezedPaths 178 = .ok (.dup2, 1) := by decide +kernel
theorem dX10_squeezedPaths_179 : decode cX10_squeezedPaths 179 = .ok (.iaload, 1) := by decide +kernel
theorem dX10_squeezedPaths_180 : decode cX10_squeezedPaths 180 = .ok (.iload_n 3, 1) := by decide +kernel
theorem dX10_squeezedPaths_181 : decode cX10_squeezedPaths 181 = .ok (.iadd, 1) := by decide +kernel
theorem dX10_squeezedPaths_182 : decode cX10_squeezedPaths 182 = .ok (.iastore, 1) := by decide +kernel
theorem dX10_squeezedPaths_183 : decode cX10_squeezedPaths 183 = .ok (.iinc 4 1, 3) := by decide +kernel
theorem dX10_squeezedPaths_186 : decode cX10_squeezedPaths 186 = .ok (.goto (-86), 3) := by decide +kernel
theorem dX10_squeezedPaths_189 : decode cX10_squeezedPaths 189 = .ok (.iinc 2 1, 3) := by decide +kernel
theorem dX10_squeezedPaths_192 : decode cX10_squeezedPaths 192 = .ok (.goto (-146), 3) := by decide +kernel
theorem dX10_squeezedPaths_195 : decode cX10_squeezedPaths 195 = .ok (.iinc 1 1, 3) := by decide +kernel
theorem dX10_squeezedPaths_198 : decode cX10_squeezedPaths 198 = .ok (.goto (-162), 3) := by decide +kernel
theorem dX10_squeezedPaths_201 : decode cX10_squeezedPaths 201 = .ok (.iconst 0, 1) := by decide +kernel
theorem dX10_squeezedPaths_202 : decode cX10_squeezedPaths 202 = .ok (.istore_n 1, 1) := by decide +kernel
theorem dX10_squeezedPaths_203 : decode cX10_squeezedPaths 203 = .ok (.iconst 0, 1) := by decide +kernel
theorem dX10_squeezedPaths_204 : decode cX10_squeezedPaths 204 = .ok (.istore_n 2, 1) := by decide +kernel
theorem dX10_squeezedPaths_205 : decode cX10_squeezedPaths 205 = .ok (.iload_n 2, 1) := by decide +kernel
theorem dX10_squeezedPaths_206 : decode cX10_squeezedPaths 206 = .ok (.aload_n 0, 1) := by decide +kernel
theorem dX10_squeezedPaths_207 : decode cX10_squeezedPaths 207 = .ok (.getfield 187, 3) := by decide +kernel
theorem dX10_squeezedPaths_210 : decode cX10_squeezedPaths 210 = .ok (.if_icmp .gt 26, 3) := by decide +kernel
theorem dX10_squeezedPaths_213 : decode cX10_squeezedPaths 213 = .ok (.iload_n 1, 1) := by decide +kernel
theorem dX10_squeezedPaths_214 : decode cX10_squeezedPaths 214 = .ok (.aload_n 0, 1) := by decide +kernel
theorem dX10_squeezedPaths_215 : decode cX10_squeezedPaths 215 = .ok (.getfield 81, 3) := by decide +kernel
theorem dX10_squeezedPaths_218 : decode cX10_squeezedPaths 218 = .ok (.bipush 100, 2) := by decide +kernel
theorem dX10_squeezedPaths_220 : decode cX10_squeezedPaths 220 = .ok (.aload_n 0, 1) := by decide +kernel
theorem dX10_squeezedPaths_221 : decode cX10_squeezedPaths 221 = .ok (.getfield 289, 3) := by decide +kernel
theorem dX10_squeezedPaths_224 : decode cX10_squeezedPaths 224 = .ok (.imul, 1) := by decide +kernel
theorem dX10_squeezedPaths_225 : decode cX10_squeezedPaths 225 = .ok (.iload_n 2, 1) := by decide +kernel
theorem dX10_squeezedPaths_226 : decode cX10_squeezedPaths 226 = .ok (.iadd, 1) := by decide +kernel
theorem dX10_squeezedPaths_227 : decode cX10_squeezedPaths 227 = .ok (.iaload, 1) := by decide +kernel
theorem dX10_squeezedPaths_228 : decode cX10_squeezedPaths 228 = .ok (.iadd, 1) := by decide +kernel
theorem dX10_squeezedPaths_229 : decode cX10_squeezedPaths 229 = .ok (.istore_n 1, 1) := by decide +kernel
theorem dX10_squeezedPaths_230 : decode cX10_squeezedPaths 230 = .ok (.iinc 2 1, 3) := by decide +kernel
theorem dX10_squeezedPaths_233 : decode cX10_squeezedPaths 233 = .ok (.goto (-28), 3) := by decide +kernel
theorem dX10_squeezedPaths_236 : decode cX10_squeezedPaths 236 = .ok (.iload_n 1, 1) := by decide +kernel
theorem dX10_squeezedPaths_237 : decode cX10_squeezedPaths 237 = .ok (.ireturn, 1) := by decide +kernel
theorem dX10_restMany_0 : decode cX10_restMany 0 = .ok (.iconst 0, 1) := by decide +kernel
theorem dX10_restMany_1 : decode cX10_restMany 1 = .ok (.istore_n 1, 1) := by decide +kernel
theorem dX10_restMany_2 : decode cX10_restMany 2 = .ok (.iconst 0, 1) := by decide +kernel
theorem dX10_restMany_3 : decode cX10_restMany 3 = .ok (.istore_n 2, 1) := by decide +kernel
theorem dX10_restMany_4 : decode cX10_restMany 4 = .ok (.iload_n 2, 1) := by decide +kernel
theorem dX10_restMany_5 : decode cX10_restMany 5 = .ok (.aload_n 0, 1) := by decide +kernel
theorem dX10_restMany_6 : decode cX10_restMany 6 = .ok (.getfield 172, 3) := by decide +kernel
theorem dX10_restMany_9 : decode cX10_restMany 9 = .ok (.if_icmp .ge 18, 3) := by decide +kernel
theorem dX10_restMany_12 : decode cX10_restMany 12 = .ok (.iload_n 1, 1) := by decide +kernel
theorem dX10_restMany_13 : decode cX10_restMany 13 = .ok (.aload_n 0, 1) := by decide +kernel
theorem dX10_restMany_14 : decode cX10_restMany 14 = .ok (.getfield 9, 3) := by decide +kernel
theorem dX10_restMany_17 : decode cX10_restMany 17 = .ok (.iload_n 2, 1) := by decide +kernel
theorem dX10_restMany_18 : decode cX10_restMany 18 = .ok (.iaload, 1) := by decide +kernel
theorem dX10_restMany_19 : decode cX10_restMany 19 = .ok (.iadd, 1) := by decide +kernel
theorem dX10_restMany_20 : decode cX10_restMany 20 = .ok (.istore_n 1, 1) := by decide +kernel
theorem dX10_restMany_21 : decode cX10_restMany 21 = .ok (.iinc 2 1, 3) := by decide +kernel
theorem dX10_restMany_24 : decode cX10_restMany 24 = .ok (.goto (-20), 3) := by decide +kernel
theorem dX10_restMany_27 : decode cX10_restMany 27 = .ok (.iload_n 1, 1) := by decide +kernel
theorem dX10_restMany_28 : decode cX10_restMany 28 = .ok (.ireturn, 1) := by decide +kernel
theorem dX10_bins_0 : decode cX10_bins 0 = .ok (.aload_n 0, 1) := by decide +kernel
theorem dX10_bins_1 : decode cX10_bins 1 = .ok (.getfield 9, 3) := by decide +kernel
theorem dX10_bins_4 : decode cX10_bins 4 = .ok (.bipush 6, 2) := by decide +kernel
theorem dX10_bins_6 : decode cX10_bins 6 = .ok (.iaload, 1) := by decide +kernel
theorem dX10_bins_7 : decode cX10_bins 7 = .ok (.ireturn, 1) := by decide +kernel
theorem dX10_binAt_0 : decode cX10_binAt 0 = .ok (.bipush 7, 2) := by decide +kernel
theorem dX10_binAt_2 : decode cX10_binAt 2 = .ok (.bipush 6, 2) := by decide +kernel
theorem dX10_binAt_4 : decode cX10_binAt 4 = .ok (.iload_n 0, 1) := by decide +kernel
theorem dX10_binAt_5 : decode cX10_binAt 5 = .ok (.imul, 1) := by decide +kernel
theorem dX10_binAt_6 : decode cX10_binAt 6 = .ok (.iadd, 1) := by decide +kernel
theorem dX10_binAt_7 : decode cX10_binAt 7 = .ok (.ireturn, 1) := by decide +kernel
theorem dX10_fullOf_0 : decode cX10_fullOf 0 = .ok (.iconst 0, 1) := by decide +kernel
theorem dX10_fullOf_1 : decode cX10_fullOf 1 = .ok (.istore_n 2, 1) := by decide +kernel
theorem dX10_fullOf_2 : decode cX10_fullOf 2 = .ok (.iconst 0, 1) := by decide +kernel
theorem dX10_fullOf_3 : decode cX10_fullOf 3 = .ok (.istore_n 3, 1) := by decide +kernel
theorem dX10_fullOf_4 : decode cX10_fullOf 4 = .ok (.iload_n 3, 1) := by decide +kernel
theorem dX10_fullOf_5 : decode cX10_fullOf 5 = .ok (.aload_n 0, 1) := by decide +kernel
theorem dX10_fullOf_6 : decode cX10_fullOf 6 = .ok (.getfield 172, 3) := by decide +kernel
theorem dX10_fullOf_9 : decode cX10_fullOf 9 = .ok (.if_icmp .ge 30, 3) := by decide +kernel
theorem dX10_fullOf_12 : decode cX10_fullOf 12 = .ok (.iload_n 2, 1) := by decide +kernel
theorem dX10_fullOf_13 : decode cX10_fullOf 13 = .ok (.aload_n 0, 1) := by decide +kernel
theorem dX10_fullOf_14 : decode cX10_fullOf 14 = .ok (.getfield 9, 3) := by decide +kernel
theorem dX10_fullOf_17 : decode cX10_fullOf 17 = .ok (.iload_n 1, 1) := by decide +kernel
theorem dX10_fullOf_18 : decode cX10_fullOf 18 = .ok (.invokestatic 299, 3) := by decide +kernel
theorem dX10_fullOf_21 : decode cX10_fullOf 21 = .ok (.iload_n 3, 1) := by decide +kernel
theorem dX10_fullOf_22 : decode cX10_fullOf 22 = .ok (.iadd, 1) := by decide +kernel
theorem dX10_fullOf_23 : decode cX10_fullOf 23 = .ok (.iaload, 1) := by decide +kernel
theorem dX10_fullOf_24 : decode cX10_fullOf 24 = .ok (.aload_n 0, 1) := by decide +kernel
theorem dX10_fullOf_25 : decode cX10_fullOf 25 = .ok (.getfield 13, 3) := by decide +kernel
theorem dX10_fullOf_28 : decode cX10_fullOf 28 = .ok (.iload_n 3, 1) := by decide +kernel
theorem dX10_fullOf_29 : decode cX10_fullOf 29 = .ok (.iaload, 1) := by decide +kernel
theorem dX10_fullOf_30 : decode cX10_fullOf 30 = .ok (.imul, 1) := by decide +kernel
theorem dX10_fullOf_31 : decode cX10_fullOf 31 = .ok (.iadd, 1) := by decide +kernel
theorem dX10_fullOf_32 : decode cX10_fullOf 32 = .ok (.istore_n 2, 1) := by decide +kernel
theorem dX10_fullOf_33 : decode cX10_fullOf 33 = .ok (.iinc 3 1, 3) := by decide +kernel
theorem dX10_fullOf_36 : decode cX10_fullOf 36 = .ok (.goto (-32), 3) := by decide +kernel
theorem dX10_fullOf_39 : decode cX10_fullOf 39 = .ok (.iload_n 2, 1) := by decide +kernel
theorem dX10_fullOf_40 : decode cX10_fullOf 40 = .ok (.ireturn, 1) := by decide +kernel
theorem dX10_inBins_0 : decode cX10_inBins 0 = .ok (.iconst 0, 1) := by decide +kernel
theorem dX10_inBins_1 : decode cX10_inBins 1 = .ok (.istore_n 2, 1) := by decide +kernel
theorem dX10_inBins_2 : decode cX10_inBins 2 = .ok (.iconst 0, 1) := by decide +kernel
theorem dX10_inBins_3 : decode cX10_inBins 3 = .ok (.istore_n 3, 1) := by decide +kernel
