theorem dX10_rest_63 : decode cX10_rest 63 = .ok (.istore_n 3, 1) := by decide +kernel
theorem dX10_rest_64 : decode cX10_rest 64 = .ok (.aload_n 0, 1) := by decide +kernel
theorem dX10_rest_65 : decode cX10_rest 65 = .ok (.getfield 9, 3) := by decide +kernel
theorem dX10_rest_68 : decode cX10_rest 68 = .ok (.iload_n 1, 1) := by decide +kernel
theorem dX10_rest_69 : decode cX10_rest 69 = .ok (.iload_n 2, 1) := by decide +kernel
theorem dX10_rest_70 : decode cX10_rest 70 = .ok (.iastore, 1) := by decide +kernel
theorem dX10_rest_71 : decode cX10_rest 71 = .ok (.iload_n 3, 1) := by decide +kernel
theorem dX10_rest_72 : decode cX10_rest 72 = .ok (.ireturn, 1) := by decide +kernel
theorem dX10_load_0 : decode cX10_load 0 = .ok (.aload_n 0, 1) := by decide +kernel
theorem dX10_load_1 : decode cX10_load 1 = .ok (.iconst 0, 1) := by decide +kernel
theorem dX10_load_2 : decode cX10_load 2 = .ok (.putfield 90, 3) := by decide +kernel
theorem dX10_load_5 : decode cX10_load 5 = .ok (.aload_n 0, 1) := by decide +kernel
theorem dX10_load_6 : decode cX10_load 6 = .ok (.invokevirtual 311, 3) := by decide +kernel
theorem dX10_load_9 : decode cX10_load 9 = .ok (.ifCond .eq 12, 3) := by decide +kernel
theorem dX10_load_12 : decode cX10_load 12 = .ok (.aload_n 0, 1) := by decide +kernel
theorem dX10_load_13 : decode cX10_load 13 = .ok (.invokevirtual 302, 3) := by decide +kernel
theorem dX10_load_16 : decode cX10_load 16 = .ok (.bipush 12, 2) := by decide +kernel
theorem dX10_load_18 : decode cX10_load 18 = .ok (.if_icmp .ne 9, 3) := by decide +kernel
theorem dX10_load_21 : decode cX10_load 21 = .ok (.aload_n 0, 1) := by decide +kernel
theorem dX10_load_22 : decode cX10_load 22 = .ok (.iconst 1, 1) := by decide +kernel
theorem dX10_load_23 : decode cX10_load 23 = .ok (.invokevirtual 361, 3) := by decide +kernel
theorem dX10_load_26 : decode cX10_load 26 = .ok (.ireturn, 1) := by decide +kernel
theorem dX10_load_27 : decode cX10_load 27 = .ok (.aload_n 0, 1) := by decide +kernel
theorem dX10_load_28 : decode cX10_load 28 = .ok (.invokevirtual 308, 3) := by decide +kernel
theorem dX10_load_31 : decode cX10_load 31 = .ok (.pop, 1) := by decide +kernel
theorem dX10_load_32 : decode cX10_load 32 = .ok (.aload_n 0, 1) := by decide +kernel
theorem dX10_load_33 : decode cX10_load 33 = .ok (.invokevirtual 367, 3) := by decide +kernel
theorem dX10_load_36 : decode cX10_load 36 = .ok (.aload_n 0, 1) := by decide +kernel
theorem dX10_load_37 : decode cX10_load 37 = .ok (.invokevirtual 302, 3) := by decide +kernel
theorem dX10_load_40 : decode cX10_load 40 = .ok (.istore_n 1, 1) := by decide +kernel
theorem dX10_load_41 : decode cX10_load 41 = .ok (.iconst 0, 1) := by decide +kernel
theorem dX10_load_42 : decode cX10_load 42 = .ok (.istore_n 2, 1) := by decide +kernel
theorem dX10_load_43 : decode cX10_load 43 = .ok (.iload_n 2, 1) := by decide +kernel
theorem dX10_load_44 : decode cX10_load 44 = .ok (.bipush 6, 2) := by decide +kernel
theorem dX10_load_46 : decode cX10_load 46 = .ok (.if_icmp .ge 61, 3) := by decide +kernel
theorem dX10_load_49 : decode cX10_load 49 = .ok (.aload_n 0, 1) := by decide +kernel
theorem dX10_load_50 : decode cX10_load 50 = .ok (.getfield 9, 3) := by decide +kernel
theorem dX10_load_53 : decode cX10_load 53 = .ok (.iload_n 1, 1) := by decide +kernel
theorem dX10_load_54 : decode cX10_load 54 = .ok (.invokestatic 299, 3) := by decide +kernel
theorem dX10_load_57 : decode cX10_load 57 = .ok (.iload_n 2, 1) := by decide +kernel
theorem dX10_load_58 : decode cX10_load 58 = .ok (.iadd, 1) := by decide +kernel
theorem dX10_load_59 : decode cX10_load 59 = .ok (.iload_n 2, 1) := by decide +kernel
theorem dX10_load_60 : decode cX10_load 60 = .ok (.aload_n 0, 1) := by decide +kernel
theorem dX10_load_61 : decode cX10_load 61 = .ok (.getfield 172, 3) := by decide +kernel
theorem dX10_load_64 : decode cX10_load 64 = .ok (.if_icmp .ge 12, 3) := by decide +kernel
theorem dX10_load_67 : decode cX10_load 67 = .ok (.aload_n 0, 1) := by decide +kernel
theorem dX10_load_68 : decode cX10_load 68 = .ok (.getfield 65, 3) := by decide +kernel
theorem dX10_load_71 : decode cX10_load 71 = .ok (.iload_n 2, 1) := by decide +kernel
theorem dX10_load_72 : decode cX10_load 72 = .ok (.iaload, 1) := by decide +kernel
theorem dX10_load_73 : decode cX10_load 73 = .ok (.goto 4, 3) := by decide +kernel
theorem dX10_load_76 : decode cX10_load 76 = .ok (.iconst 0, 1) := by decide +kernel
theorem dX10_load_77 : decode cX10_load 77 = .ok (.iastore, 1) := by decide +kernel
theorem dX10_load_78 : decode cX10_load 78 = .ok (.iload_n 2, 1) := by decide +kernel
theorem dX10_load_79 : decode cX10_load 79 = .ok (.aload_n 0, 1) := by decide +kernel
theorem dX10_load_80 : decode cX10_load 80 = .ok (.getfield 172, 3) := by decide +kernel
theorem dX10_load_83 : decode cX10_load 83 = .ok (.if_icmp .ge 18, 3) := by decide +kernel
theorem dX10_load_86 : decode cX10_load 86 = .ok (.aload_n 0, 1) := by decide +kernel
theorem dX10_load_87 : decode cX10_load 87 = .ok (.getfield 9, 3) := by decide +kernel
theorem dX10_load_90 : decode cX10_load 90 = .ok (.iload_n 2, 1) := by decide +kernel
theorem dX10_load_91 : decode cX10_load 91 = .ok (.dup2, 1) := by decide +kernel
theorem dX10_load_92 : decode cX10_load 92 = .ok (.iaload, 1) := by decide +kernel
theorem dX10_load_93 : decode cX10_load 93 = .ok (.aload_n 0, 1) := by decide +kernel
theorem dX10_load_94 : decode cX10_load 94 = .ok (.getfield 65, 3) := by decide +kernel
theorem dX10_load_97 : decode cX10_load 97 = .ok (.iload_n 2, 1) := by decide +kernel
theorem dX10_load_98 : decode cX10_load 98 = .ok (.iaload, 1) := by decide +kernel
theorem dX10_load_99 : decode cX10_load 99 = .ok (.isub, 1) := by decide +kernel
theorem dX10_load_100 : decode cX10_load 100 = .ok (.iastore, 1) := by decide +kernel
theorem dX10_load_101 : decode cX10_load 101 = .ok (.iinc 2 1, 3) := by decide +kernel
theorem dX10_load_104 : decode cX10_load 104 = .ok (.goto (-61), 3) := by decide +kernel
theorem dX10_load_107 : decode cX10_load 107 = .ok (.aload_n 0, 1) := by decide +kernel
theorem dX10_load_108 : decode cX10_load 108 = .ok (.getfield 9, 3) := by decide +kernel
theorem dX10_load_111 : decode cX10_load 111 = .ok (.bipush 6, 2) := by decide +kernel
theorem dX10_load_113 : decode cX10_load 113 = .ok (.dup2, 1) := by decide +kernel
theorem dX10_load_114 : decode cX10_load 114 = .ok (.iaload, 1) := by decide +kernel
theorem dX10_load_115 : decode cX10_load 115 = .ok (.iconst 1, 1) := by decide +kernel
theorem dX10_load_116 : decode cX10_load 116 = .ok (.iadd, 1) := by decide +kernel
theorem dX10_load_117 : decode cX10_load 117 = .ok (.iastore, 1) := by decide +kernel
theorem dX10_load_118 : decode cX10_load 118 = .ok (.aload_n 0, 1) := by decide +kernel
theorem dX10_load_119 : decode cX10_load 119 = .ok (.iload_n 1, 1) := by decide +kernel
theorem dX10_load_120 : decode cX10_load 120 = .ok (.invokevirtual 305, 3) := by decide +kernel
theorem dX10_load_123 : decode cX10_load 123 = .ok (.ireturn, 1) := by decide +kernel
theorem dX10_join_0 : decode cX10_join 0 = .ok (.aload_n 0, 1) := by decide +kernel
theorem dX10_join_1 : decode cX10_join 1 = .ok (.iconst 0, 1) := by decide +kernel
theorem dX10_join_2 : decode cX10_join 2 = .ok (.putfield 90, 3) := by decide +kernel
theorem dX10_join_5 : decode cX10_join 5 = .ok (.iload_n 1, 1) := by decide +kernel
theorem dX10_join_6 : decode cX10_join 6 = .ok (.iconst 0, 1) := by decide +kernel
theorem dX10_join_7 : decode cX10_join 7 = .ok (.aload_n 0, 1) := by decide +kernel
theorem dX10_join_8 : decode cX10_join 8 = .ok (.invokevirtual 302, 3) := by decide +kernel
theorem dX10_join_11 : decode cX10_join 11 = .ok (.iconst 1, 1) := by decide +kernel
theorem dX10_join_12 : decode cX10_join 12 = .ok (.isub, 1) := by decide +kernel
theorem dX10_join_13 : decode cX10_join 13 = .ok (.invokestatic 134, 3) := by decide +kernel
theorem dX10_join_16 : decode cX10_join 16 = .ok (.ifCond .eq 40, 3) := by decide +kernel
theorem dX10_join_19 : decode cX10_join 19 = .ok (.iload_n 2, 1) := by decide +kernel
theorem dX10_join_20 : decode cX10_join 20 = .ok (.iconst 0, 1) := by decide +kernel
theorem dX10_join_21 : decode cX10_join 21 = .ok (.aload_n 0, 1) := by decide +kernel
theorem dX10_join_22 : decode cX10_join 22 = .ok (.invokevirtual 302, 3) := by decide +kernel
theorem dX10_join_25 : decode cX10_join 25 = .ok (.iconst 1, 1) := by decide +kernel
theorem dX10_join_26 : decode cX10_join 26 = .ok (.isub, 1) := by decide +kernel
theorem dX10_join_27 : decode cX10_join 27 = .ok (.invokestatic 134, 3) := by decide +kernel
theorem dX10_join_30 : decode cX10_join 30 = .ok (.ifCond .eq 26, 3) := by decide +kernel
theorem dX10_join_33 : decode cX10_join 33 = .ok (.iload_n 1, 1) := by decide +kernel
theorem dX10_join_34 : decode cX10_join 34 = .ok (.iload_n 2, 1) := by decide +kernel
theorem dX10_join_35 : decode cX10_join 35 = .ok (.if_icmp .eq 21, 3) := by decide +kernel
theorem dX10_join_38 : decode cX10_join 38 = .ok (.aload_n 0, 1) := by decide +kernel
theorem dX10_join_39 : decode cX10_join 39 = .ok (.iload_n 1, 1) := by decide +kernel
theorem dX10_join_40 : decode cX10_join 40 = .ok (.invokevirtual 305, 3) := by decide +kernel
theorem dX10_join_43 : decode cX10_join 43 = .ok (.aload_n 0, 1) := by decide +kernel
theorem dX10_join_44 : decode cX10_join 44 = .ok (.iload_n 2, 1) := by decide +kernel
theorem dX10_join_45 : decode cX10_join 45 = .ok (.invokevirtual 305, 3) := by decide +kernel
theorem dX10_join_48 : decode cX10_join 48 = .ok (.iadd, 1) := by decide +kernel
theorem dX10_join_49 : decode cX10_join 49 = .ok (.aload_n 0, 1) := by decide +kernel
theorem dX10_join_50 : decode cX10_join 50 = .ok (.getfield 25, 3) := by decide +kernel
theorem dX10_join_53 : decode cX10_join 53 = .ok (.if_icmp .le 9, 3) := by decide +kernel
theorem dX10_join_56 : decode cX10_join 56 = .ok (.aload_n 0, 1) := by decide +kernel
theorem dX10_join_57 : decode cX10_join 57 = .ok (.iconst 1, 1) := by decide +kernel
theorem dX10_join_58 : decode cX10_join 58 = .ok (.invokevirtual 361, 3) := by decide +kernel
theorem dX10_join_61 : decode cX10_join 61 = .ok (.ireturn, 1) := by decide +kernel
theorem dX10_join_62 : decode cX10_join 62 = .ok (.aload_n 0, 1) := by decide +kernel
theorem dX10_join_63 : decode cX10_join 63 = .ok (.invokevirtual 367, 3) := by decide +kernel
theorem dX10_join_66 : decode cX10_join 66 = .ok (.aload_n 0, 1) := by decide +kernel
theorem dX10_join_67 : decode cX10_join 67 = .ok (.getfield 25, 3) := by decide +kernel
theorem dX10_join_70 : decode cX10_join 70 = .ok (.aload_n 0, 1) := by decide +kernel
theorem dX10_join_71 : decode cX10_join 71 = .ok (.iload_n 1, 1) := by decide +kernel
theorem dX10_join_72 : decode cX10_join 72 = .ok (.invokevirtual 305, 3) := by decide +kernel
theorem dX10_join_75 : decode cX10_join 75 = .ok (.isub, 1) := by decide +kernel
theorem dX10_join_76 : decode cX10_join 76 = .ok (.aload_n 0, 1) := by decide +kernel
theorem dX10_join_77 : decode cX10_join 77 = .ok (.iload_n 2, 1) := by decide +kernel
theorem dX10_join_78 : decode cX10_join 78 = .ok (.invokevirtual 305, 3) := by decide +kernel
theorem dX10_join_81 : decode cX10_join 81 = .ok (.isub, 1) := by decide +kernel
theorem dX10_join_82 : decode cX10_join 82 = .ok (.istore_n 3, 1) := by decide +kernel
theorem dX10_join_83 : decode cX10_join 83 = .ok (.iconst 0, 1) := by decide +kernel
theorem dX10_join_84 : decode cX10_join 84 = .ok (.istore 4, 2) := by decide +kernel
theorem dX10_join_86 : decode cX10_join 86 = .ok (.iload 4, 2) := by decide +kernel
theorem dX10_join_88 : decode cX10_join 88 = .ok (.bipush 6, 2) := by decide +kernel
theorem dX10_join_90 : decode cX10_join 90 = .ok (.if_icmp .ge 36, 3) := by decide +kernel
theorem dX10_join_93 : decode cX10_join 93 = .ok (.aload_n 0, 1) := by decide +kernel
theorem dX10_join_94 : decode cX10_join 94 = .ok (.getfield 9, 3) := by decide +kernel
theorem dX10_join_97 : decode cX10_join 97 = .ok (.iload_n 1, 1) := by decide +kernel
theorem dX10_join_98 : decode cX10_join 98 = .ok (.invokestatic 299, 3) := by decide +kernel
theorem dX10_join_101 : decode cX10_join 101 = .ok (.iload 4, 2) := by decide +kernel
theorem dX10_join_103 : decode cX10_join 103 = .ok (.iadd, 1) := by decide +kernel
theorem dX10_join_104 : decode cX10_join 104 = .ok (.dup2, 1) := by decide +kernel
theorem dX10_join_105 : decode cX10_join 105 = .ok (.iaload, 1) := by decide +kernel
theorem dX10_join_106 : decode cX10_join 106 = .ok (.aload_n 0, 1) := by decide +kernel
theorem dX10_join_107 : decode cX10_join 107 = .ok (.getfield 9, 3) := by decide +kernel
theorem dX10_join_110 : decode cX10_join 110 = .ok (.iload_n 2, 1) := by decide +kernel
theorem dX10_join_111 : decode cX10_join 111 = .ok (.invokestatic 299, 3) := by decide +kernel
theorem dX10_join_114 : decode cX10_join 114 = .ok (.iload 4, 2) := by decide +kernel
theorem dX10_join_116 : decode cX10_join 116 = .ok (.iadd, 1) := by decide +kernel
theorem dX10_join_117 : decode cX10_join 117 = .ok (.iaload, 1) := by decide +kernel
theorem dX10_join_118 : decode cX10_join 118 = .ok (.iadd, 1) := by decide +kernel
theorem dX10_join_119 : decode cX10_join 119 = .ok (.iastore, 1) := by decide +kernel
theorem dX10_join_120 : decode cX10_join 120 = .ok (.iinc 4 1, 3) := by decide +kernel
theorem dX10_join_123 : decode cX10_join 123 = .ok (.goto (-37), 3) := by decide +kernel
theorem dX10_join_126 : decode cX10_join 126 = .ok (.aload_n 0, 1) := by decide +kernel
theorem dX10_join_127 : decode cX10_join 127 = .ok (.iload_n 2, 1) := by decide +kernel
theorem dX10_join_128 : decode cX10_join 128 = .ok (.invokevirtual 370, 3) := by decide +kernel
theorem dX10_join_131 : decode cX10_join 131 = .ok (.iload_n 3, 1) := by decide +kernel
theorem dX10_join_132 : decode cX10_join 132 = .ok (.ireturn, 1) := by decide +kernel
theorem dX10_undo_0 : decode cX10_undo 0 = .ok (.aload_n 0, 1) := by decide +kernel
theorem dX10_undo_1 : decode cX10_undo 1 = .ok (.iconst 0, 1) := by decide +kernel
theorem dX10_undo_2 : decode cX10_undo 2 = .ok (.putfield 90, 3) := by decide +kernel
theorem dX10_undo_5 : decode cX10_undo 5 = .ok (.aload_n 0, 1) := by decide +kernel
theorem dX10_undo_6 : decode cX10_undo 6 = .ok (.getfield 184, 3) := by decide +kernel
theorem dX10_undo_9 : decode cX10_undo 9 = .ok (.ifCond .ne 5, 3) := by decide +kernel
theorem dX10_undo_12 : decode cX10_undo 12 = .ok (.iconst (-1), 1) := by decide +kernel
theorem dX10_undo_13 : decode cX10_undo 13 = .ok (.ireturn, 1) := by decide +kernel
theorem dX10_undo_14 : decode cX10_undo 14 = .ok (.aload_n 0, 1) := by decide +kernel
theorem dX10_undo_15 : decode cX10_undo 15 = .ok (.dup, 1) := by decide +kernel
theorem dX10_undo_16 : decode cX10_undo 16 = .ok (.getfield 184, 3) := by decide +kernel
theorem dX10_undo_19 : decode cX10_undo 19 = .ok (.iconst 1, 1) := by decide +kernel
theorem dX10_undo_20 : decode cX10_undo 20 = .ok (.isub, 1) := by decide +kernel
theorem dX10_undo_21 : decode cX10_undo 21 = .ok (.putfield 184, 3) := by decide +kernel
theorem dX10_undo_24 : decode cX10_undo 24 = .ok (.aload_n 0, 1) := by decide +kernel
theorem dX10_undo_25 : decode cX10_undo 25 = .ok (.aload_n 0, 1) := by decide +kernel
theorem dX10_undo_26 : decode cX10_undo 26 = .ok (.getfield 181, 3) := by decide +kernel
theorem dX10_undo_29 : decode cX10_undo 29 = .ok (.aload_n 0, 1) := by decide +kernel
theorem dX10_undo_30 : decode cX10_undo 30 = .ok (.getfield 184, 3) := by decide +kernel
theorem dX10_undo_33 : decode cX10_undo 33 = .ok (.invokestatic 354, 3) := by decide +kernel
theorem dX10_undo_36 : decode cX10_undo 36 = .ok (.iconst 0, 1) := by decide +kernel
theorem dX10_undo_37 : decode cX10_undo 37 = .ok (.bipush 80, 2) := by decide +kernel
theorem dX10_undo_39 : decode cX10_undo 39 = .ok (.invokevirtual 357, 3) := by decide +kernel
theorem dX10_undo_42 : decode cX10_undo 42 = .ok (.aload_n 0, 1) := by decide +kernel
theorem dX10_undo_43 : decode cX10_undo 43 = .ok (.getfield 184, 3) := by decide +kernel
theorem dX10_undo_46 : decode cX10_undo 46 = .ok (.ireturn, 1) := by decide +kernel
theorem dX10_topUp_0 : decode cX10_topUp 0 = .ok (.aload_n 0, 1) := by decide +kernel
theorem dX10_topUp_1 : decode cX10_topUp 1 = .ok (.iconst 0, 1) := by decide +kernel
theorem dX10_topUp_2 : decode cX10_topUp 2 = .ok (.putfield 90, 3) := by decide +kernel
theorem dX10_topUp_5 : decode cX10_topUp 5 = .ok (.aload_n 0, 1) := by decide +kernel
theorem dX10_topUp_6 : decode cX10_topUp 6 = .ok (.iload_n 1, 1) := by decide +kernel
theorem dX10_topUp_7 : decode cX10_topUp 7 = .ok (.invokevirtual 332, 3) := by decide +kernel
theorem dX10_topUp_10 : decode cX10_topUp 10 = .ok (.ifCond .eq 16, 3) := by decide +kernel
theorem dX10_topUp_13 : decode cX10_topUp 13 = .ok (.iload_n 2, 1) := by decide +kernel
theorem dX10_topUp_14 : decode cX10_topUp 14 = .ok (.iconst (-1), 1) := by decide +kernel
theorem dX10_topUp_15 : decode cX10_topUp 15 = .ok (.if_icmp .eq 13, 3) := by decide +kernel
theorem dX10_topUp_18 : decode cX10_topUp 18 = .ok (.aload_n 0, 1) := by decide +kernel
theorem dX10_topUp_19 : decode cX10_topUp 19 = .ok (.iload_n 2, 1) := by decide +kernel
theorem dX10_topUp_20 : decode cX10_topUp 20 = .ok (.invokevirtual 323, 3) := by decide +kernel
theorem dX10_topUp_23 : decode cX10_topUp 23 = .ok (.ifCond .ne 5, 3) := by decide +kernel
theorem dX10_topUp_26 : decode cX10_topUp 26 = .ok (.iconst 0, 1) := by decide +kernel
theorem dX10_topUp_27 : decode cX10_topUp 27 = .ok (.ireturn, 1) := by decide +kernel
theorem dX10_topUp_28 : decode cX10_topUp 28 = .ok (.aload_n 0, 1) := by decide +kernel
theorem dX10_topUp_29 : decode cX10_topUp 29 = .ok (.invokevirtual 283, 3) := by decide +kernel
theorem dX10_topUp_32 : decode cX10_topUp 32 = .ok (.aload_n 0, 1) := by decide +kernel
theorem dX10_topUp_33 : decode cX10_topUp 33 = .ok (.getfield 25, 3) := by decide +kernel
theorem dX10_topUp_36 : decode cX10_topUp 36 = .ok (.aload_n 0, 1) := by decide +kernel
theorem dX10_topUp_37 : decode cX10_topUp 37 = .ok (.iload_n 1, 1) := by decide +kernel
theorem dX10_topUp_38 : decode cX10_topUp 38 = .ok (.invokevirtual 305, 3) := by decide +kernel
theorem dX10_topUp_41 : decode cX10_topUp 41 = .ok (.isub, 1) := by decide +kernel
theorem dX10_topUp_42 : decode cX10_topUp 42 = .ok (.istore_n 3, 1) := by decide +kernel
theorem dX10_topUp_43 : decode cX10_topUp 43 = .ok (.iconst (-1), 1) := by decide +kernel
theorem dX10_topUp_44 : decode cX10_topUp 44 = .ok (.istore 4, 2) := by decide +kernel
theorem dX10_topUp_46 : decode cX10_topUp 46 = .ok (.aload_n 0, 1) := by decide +kernel
theorem dX10_topUp_47 : decode cX10_topUp 47 = .ok (.aload_n 0, 1) := by decide +kernel
theorem dX10_topUp_48 : decode cX10_topUp 48 = .ok (.getfield 41, 3) := by decide +kernel
theorem dX10_topUp_51 : decode cX10_topUp 51 = .ok (.iconst 0, 1) := by decide +kernel
theorem dX10_topUp_52 : decode cX10_topUp 52 = .ok (.iload_n 3, 1) := by decide +kernel
theorem dX10_topUp_53 : decode cX10_topUp 53 = .ok (.invokevirtual 267, 3) := by decide +kernel
theorem dX10_topUp_56 : decode cX10_topUp 56 = .ok (.iconst 1, 1) := by decide +kernel
theorem dX10_topUp_57 : decode cX10_topUp 57 = .ok (.istore 5, 2) := by decide +kernel
theorem dX10_topUp_59 : decode cX10_topUp 59 = .ok (.iload 5, 2) := by decide +kernel
theorem dX10_topUp_61 : decode cX10_topUp 61 = .ok (.ifCond .eq 66, 3) := by decide +kernel
theorem dX10_topUp_64 : decode cX10_topUp 64 = .ok (.aload_n 0, 1) := by decide +kernel
theorem dX10_topUp_65 : decode cX10_topUp 65 = .ok (.iconst 0, 1) := by decide +kernel
theorem dX10_topUp_66 : decode cX10_topUp 66 = .ok (.invokevirtual 231, 3) := by decide +kernel
theorem dX10_topUp_69 : decode cX10_topUp 69 = .ok (.istore 6, 2) := by decide +kernel
theorem dX10_topUp_71 : decode cX10_topUp 71 = .ok (.iload 6, 2) := by decide +kernel
theorem dX10_topUp_73 : decode cX10_topUp 73 = .ok (.iload 4, 2) := by decide +kernel
theorem dX10_topUp_75 : decode cX10_topUp 75 = .ok (.if_icmp .le 37, 3) := by decide +kernel
theorem dX10_topUp_78 : decode cX10_topUp 78 = .ok (.iload 6, 2) := by decide +kernel
theorem dX10_topUp_80 : decode cX10_topUp 80 = .ok (.istore 4, 2) := by decide +kernel
theorem dX10_topUp_82 : decode cX10_topUp 82 = .ok (.iconst 0, 1) := by decide +kernel
theorem dX10_topUp_83 : decode cX10_topUp 83 = .ok (.istore 7, 2) := by decide +kernel
theorem dX10_topUp_85 : decode cX10_topUp 85 = .ok (.iload 7, 2) := by decide +kernel
theorem dX10_topUp_87 : decode cX10_topUp 87 = .ok (.bipush 6, 2) := by decide +kernel
theorem dX10_topUp_89 : decode cX10_topUp 89 = .ok (.if_icmp .ge 23, 3) := by decide +kernel
theorem dX10_topUp_92 : decode cX10_topUp 92 = .ok (.aload_n 0, 1) := by decide +kernel
theorem dX10_topUp_93 : decode cX10_topUp 93 = .ok (.getfield 84, 3) := by decide +kernel
theorem dX10_topUp_96 : decode cX10_topUp 96 = .ok (.iload 7, 2) := by decide +kernel
theorem dX10_topUp_98 : decode cX10_topUp 98 = .ok (.aload_n 0, 1) := by decide +kernel
theorem dX10_topUp_99 : decode cX10_topUp 99 = .ok (.getfield 62, 3) := by decide +kernel
theorem dX10_topUp_102 : decode cX10_topUp 102 = .ok (.iload 7, 2) := by decide +kernel
theorem dX10_topUp_104 : decode cX10_topUp 104 = .ok (.iaload, 1) := by decide +kernel
theorem dX10_topUp_105 : decode cX10_topUp 105 = .ok (.iastore, 1) := by decide +kernel
theorem dX10_topUp_106 : decode cX10_topUp 106 = .ok (.iinc 7 1, 3) := by decide +kernel
theorem dX10_topUp_109 : decode cX10_topUp 109 = .ok (.goto (-24), 3) := by decide +kernel
theorem dX10_topUp_112 : decode cX10_topUp 112 = .ok (.aload_n 0, 1) := by decide +kernel
theorem dX10_topUp_113 : decode cX10_topUp 113 = .ok (.aload_n 0, 1) := by decide +kernel
theorem dX10_topUp_114 : decode cX10_topUp 114 = .ok (.getfield 41, 3) := by decide +kernel
theorem dX10_topUp_117 : decode cX10_topUp 117 = .ok (.iconst 0, 1) := by decide +kernel
theorem dX10_topUp_118 : decode cX10_topUp 118 = .ok (.iload_n 3, 1) := by decide +kernel
theorem dX10_topUp_119 : decode cX10_topUp 119 = .ok (.invokevirtual 263, 3) := by decide +kernel
theorem dX10_topUp_122 : decode cX10_topUp 122 = .ok (.istore 5, 2) := by decide +kernel
theorem dX10_topUp_124 : decode cX10_topUp 124 = .ok (.goto (-65), 3) := by decide +kernel
theorem dX10_topUp_127 : decode cX10_topUp 127 = .ok (.iload_n 2, 1) := by decide +kernel
theorem dX10_topUp_128 : decode cX10_topUp 128 = .ok (.iconst (-1), 1) := by decide +kernel
theorem dX10_topUp_129 : decode cX10_topUp 129 = .ok (.if_icmp .ne 8, 3) := by decide +kernel
theorem dX10_topUp_132 : decode cX10_topUp 132 = .ok (.iload 4, 2) := by decide +kernel
theorem dX10_topUp_134 : decode cX10_topUp 134 = .ok (.goto 9, 3) := by decide +kernel
theorem dX10_topUp_137 : decode cX10_topUp 137 = .ok (.aload_n 0, 1) := by decide +kernel
theorem dX10_topUp_138 : decode cX10_topUp 138 = .ok (.getfield 84, 3) := by decide +kernel
theorem dX10_topUp_141 : decode cX10_topUp 141 = .ok (.iload_n 2, 1) := by decide +kernel
theorem dX10_topUp_142 : decode cX10_topUp 142 = .ok (.iaload, 1) := by decide +kernel
theorem dX10_topUp_143 : decode cX10_topUp 143 = .ok (.ireturn, 1) := by decide +kernel
theorem dX10_toHold_0 : decode cX10_toHold 0 = .ok (.aload_n 0, 1) := by decide +kernel
theorem dX10_toHold_1 : decode cX10_toHold 1 = .ok (.iconst 0, 1) := by decide +kernel
theorem dX10_toHold_2 : decode cX10_toHold 2 = .ok (.putfield 90, 3) := by decide +kernel
theorem dX10_toHold_5 : decode cX10_toHold 5 = .ok (.aload_n 0, 1) := by decide +kernel
theorem dX10_toHold_6 : decode cX10_toHold 6 = .ok (.iload_n 1, 1) := by decide +kernel
theorem dX10_toHold_7 : decode cX10_toHold 7 = .ok (.iconst 1, 1) := by decide +kernel
theorem dX10_toHold_8 : decode cX10_toHold 8 = .ok (.bipush 24, 2) := by decide +kernel
theorem dX10_toHold_10 : decode cX10_toHold 10 = .ok (.invokestatic 134, 3) := by decide +kernel
theorem dX10_toHold_13 : decode cX10_toHold 13 = .ok (.iconst 1, 1) := by decide +kernel
theorem dX10_toHold_14 : decode cX10_toHold 14 = .ok (.invokevirtual 166, 3) := by decide +kernel
theorem dX10_toHold_17 : decode cX10_toHold 17 = .ok (.ifCond .ne 5, 3) := by decide +kernel
theorem dX10_toHold_20 : decode cX10_toHold 20 = .ok (.iconst 0, 1) := by decide +kernel
theorem dX10_toHold_21 : decode cX10_toHold 21 = .ok (.ireturn, 1) := by decide +kernel
theorem dX10_toHold_22 : decode cX10_toHold 22 = .ok (.iconst 1, 1) := by decide +kernel
theorem dX10_toHold_23 : decode cX10_toHold 23 = .ok (.istore_n 2, 1) := by decide +kernel
theorem dX10_toHold_24 : decode cX10_toHold 24 = .ok (.iconst 0, 1) := by decide +kernel
theorem dX10_toHold_25 : decode cX10_toHold 25 = .ok (.istore_n 3, 1) := by decide +kernel
theorem dX10_toHold_26 : decode cX10_toHold 26 = .ok (.iload_n 3, 1) := by decide +kernel
theorem dX10_toHold_27 : decode cX10_toHold 27 = .ok (.aload_n 0, 1) := by decide +kernel
theorem dX10_toHold_28 : decode cX10_toHold 28 = .ok (.getfield 172, 3) := by decide +kernel
theorem dX10_toHold_31 : decode cX10_toHold 31 = .ok (.if_icmp .ge 35, 3) := by decide +kernel
theorem dX10_toHold_34 : decode cX10_toHold 34 = .ok (.aload_n 0, 1) := by decide +kernel
theorem dX10_toHold_35 : decode cX10_toHold 35 = .ok (.getfield 9, 3) := by decide +kernel
theorem dX10_toHold_38 : decode cX10_toHold 38 = .ok (.iload_n 3, 1) := by decide +kernel
theorem dX10_toHold_39 : decode cX10_toHold 39 = .ok (.iaload, 1) := by decide +kernel
theorem dX10_toHold_40 : decode cX10_toHold 40 = .ok (.ifCond .le 20, 3) := by decide +kernel
theorem dX10_toHold_43 : decode cX10_toHold 43 = .ok (.aload_n 0, 1) := by decide +kernel
theorem dX10_toHold_44 : decode cX10_toHold 44 = .ok (.getfield 13, 3) := by decide +kernel
theorem dX10_toHold_47 : decode cX10_toHold 47 = .ok (.iload_n 3, 1) := by decide +kernel
theorem dX10_toHold_48 : decode cX10_toHold 48 = .ok (.iaload, 1) := by decide +kernel
theorem dX10_toHold_49 : decode cX10_toHold 49 = .ok (.iload_n 2, 1) := by decide +kernel
theorem dX10_toHold_50 : decode cX10_toHold 50 = .ok (.if_icmp .le 10, 3) := by decide +kernel
theorem dX10_toHold_53 : decode cX10_toHold 53 = .ok (.aload_n 0, 1) := by decide +kernel
theorem dX10_toHold_54 : decode cX10_toHold 54 = .ok (.getfield 13, 3) := by decide +kernel
theorem dX10_toHold_57 : decode cX10_toHold 57 = .ok (.iload_n 3, 1) := by decide +kernel
theorem dX10_toHold_58 : decode cX10_toHold 58 = .ok (.iaload, 1) := by decide +kernel
theorem dX10_toHold_59 : decode cX10_toHold 59 = .ok (.istore_n 2, 1) := by decide +kernel
theorem dX10_toHold_60 : decode cX10_toHold 60 = .ok (.iinc 3 1, 3) := by decide +kernel
theorem dX10_toHold_63 : decode cX10_toHold 63 = .ok (.goto (-37), 3) := by decide +kernel
theorem dX10_toHold_66 : decode cX10_toHold 66 = .ok (.iload_n 2, 1) := by decide +kernel
theorem dX10_toHold_67 : decode cX10_toHold 67 = .ok (.bipush 99, 2) := by decide +kernel
theorem dX10_toHold_69 : decode cX10_toHold 69 = .ok (.if_icmp .gt 28, 3) := by decide +kernel
theorem dX10_toHold_72 : decode cX10_toHold 72 = .ok (.aload_n 0, 1) := by decide +kernel
theorem dX10_toHold_73 : decode cX10_toHold 73 = .ok (.invokevirtual 283, 3) := by decide +kernel
theorem dX10_toHold_76 : decode cX10_toHold 76 = .ok (.aload_n 0, 1) := by decide +kernel
theorem dX10_toHold_77 : decode cX10_toHold 77 = .ok (.iload_n 2, 1) := by decide +kernel
theorem dX10_toHold_78 : decode cX10_toHold 78 = .ok (.putfield 187, 3) := by decide +kernel
theorem dX10_toHold_81 : decode cX10_toHold 81 = .ok (.aload_n 0, 1) := by decide +kernel
theorem dX10_toHold_82 : decode cX10_toHold 82 = .ok (.invokevirtual 286, 3) := by decide +kernel
theorem dX10_toHold_85 : decode cX10_toHold 85 = .ok (.iload_n 1, 1) := by decide +kernel
theorem dX10_toHold_86 : decode cX10_toHold 86 = .ok (.if_icmp .gt 5, 3) := by decide +kernel
theorem dX10_toHold_89 : decode cX10_toHold 89 = .ok (.iload_n 2, 1) := by decide +kernel
theorem dX10_toHold_90 : decode cX10_toHold 90 = .ok (.ireturn, 1) := by decide +kernel
theorem dX10_toHold_91 : decode cX10_toHold 91 = .ok (.iinc 2 1, 3) := by decide +kernel
theorem dX10_toHold_94 : decode cX10_toHold 94 = .ok (.goto (-28), 3) := by decide +kernel
theorem dX10_toHold_97 : decode cX10_toHold 97 = .ok (.iconst (-1), 1) := by decide +kernel
theorem dX10_toHold_98 : decode cX10_toHold 98 = .ok (.ireturn, 1) := by decide +kernel
theorem dX10_spare_0 : decode cX10_spare 0 = .ok (.aload_n 0, 1) := by decide +kernel
theorem dX10_spare_1 : decode cX10_spare 1 = .ok (.iconst 0, 1) := by decide +kernel
theorem dX10_spare_2 : decode cX10_spare 2 = .ok (.putfield 90, 3) := by decide +kernel
theorem dX10_spare_5 : decode cX10_spare 5 = .ok (.aload_n 0, 1) := by decide +kernel
theorem dX10_spare_6 : decode cX10_spare 6 = .ok (.iload_n 1, 1) := by decide +kernel
theorem dX10_spare_7 : decode cX10_spare 7 = .ok (.invokevirtual 323, 3) := by decide +kernel
theorem dX10_spare_10 : decode cX10_spare 10 = .ok (.ifCond .ne 5, 3) := by decide +kernel
theorem dX10_spare_13 : decode cX10_spare 13 = .ok (.iconst 0, 1) := by decide +kernel
theorem dX10_spare_14 : decode cX10_spare 14 = .ok (.ireturn, 1) := by decide +kernel
theorem dX10_spare_15 : decode cX10_spare 15 = .ok (.aload_n 0, 1) := by decide +kernel
theorem dX10_spare_16 : decode cX10_spare 16 = .ok (.invokevirtual 308, 3) := by decide +kernel
theorem dX10_spare_19 : decode cX10_spare 19 = .ok (.istore_n 2, 1) := by decide +kernel
theorem dX10_spare_20 : decode cX10_spare 20 = .ok (.iconst 0, 1) := by decide +kernel
theorem dX10_spare_21 : decode cX10_spare 21 = .ok (.istore_n 3, 1) := by decide +kernel
theorem dX10_spare_22 : decode cX10_spare 22 = .ok (.iload_n 3, 1) := by decide +kernel
theorem dX10_spare_23 : decode cX10_spare 23 = .ok (.bipush 12, 2) := by decide +kernel
theorem dX10_spare_25 : decode cX10_spare 25 = .ok (.if_icmp .ge 46, 3) := by decide +kernel
theorem dX10_spare_28 : decode cX10_spare 28 = .ok (.aload_n 0, 1) := by decide +kernel
theorem dX10_spare_29 : decode cX10_spare 29 = .ok (.invokevirtual 311, 3) := by decide +kernel
theorem dX10_spare_32 : decode cX10_spare 32 = .ok (.iload_n 3, 1) := by decide +kernel
theorem dX10_spare_33 : decode cX10_spare 33 = .ok (.iadd, 1) := by decide +kernel
theorem dX10_spare_34 : decode cX10_spare 34 = .ok (.bipush 24, 2) := by decide +kernel
theorem dX10_spare_36 : decode cX10_spare 36 = .ok (.if_icmp .ge 35, 3) := by decide +kernel
theorem dX10_spare_39 : decode cX10_spare 39 = .ok (.aload_n 0, 1) := by decide +kernel
theorem dX10_spare_40 : decode cX10_spare 40 = .ok (.invokevirtual 283, 3) := by decide +kernel
theorem dX10_spare_43 : decode cX10_spare 43 = .ok (.aload_n 0, 1) := by decide +kernel
theorem dX10_spare_44 : decode cX10_spare 44 = .ok (.getfield 41, 3) := by decide +kernel
theorem dX10_spare_47 : decode cX10_spare 47 = .ok (.iload_n 1, 1) := by decide +kernel
theorem dX10_spare_48 : decode cX10_spare 48 = .ok (.dup2, 1) := by decide +kernel
theorem dX10_spare_49 : decode cX10_spare 49 = .ok (.iaload, 1) := by decide +kernel
theorem dX10_spare_50 : decode cX10_spare 50 = .ok (.iload_n 3, 1) := by decide +kernel
theorem dX10_spare_51 : decode cX10_spare 51 = .ok (.iconst 1, 1) := by decide +kernel
theorem dX10_spare_52 : decode cX10_spare 52 = .ok (.iadd, 1) := by decide +kernel
theorem dX10_spare_53 : decode cX10_spare 53 = .ok (.iadd, 1) := by decide +kernel
theorem dX10_spare_54 : decode cX10_spare 54 = .ok (.iastore, 1) := by decide +kernel
theorem dX10_spare_55 : decode cX10_spare 55 = .ok (.aload_n 0, 1) := by decide +kernel
theorem dX10_spare_56 : decode cX10_spare 56 = .ok (.invokevirtual 286, 3) := by decide +kernel
theorem dX10_spare_59 : decode cX10_spare 59 = .ok (.iload_n 2, 1) := by decide +kernel
theorem dX10_spare_60 : decode cX10_spare 60 = .ok (.if_icmp .eq 5, 3) := by decide +kernel
theorem dX10_spare_63 : decode cX10_spare 63 = .ok (.iload_n 3, 1) := by decide +kernel
theorem dX10_spare_64 : decode cX10_spare 64 = .ok (.ireturn, 1) := by decide +kernel
theorem dX10_spare_65 : decode cX10_spare 65 = .ok (.iinc 3 1, 3) := by decide +kernel
theorem dX10_spare_68 : decode cX10_spare 68 = .ok (.goto (-46), 3) := by decide +kernel
theorem dX10_spare_71 : decode cX10_spare 71 = .ok (.iload_n 3, 1) := by decide +kernel
theorem dX10_spare_72 : decode cX10_spare 72 = .ok (.ireturn, 1) := by decide +kernel
theorem dX10_note_0 : decode cX10_note 0 = .ok (.aload_n 0, 1) := by decide +kernel
theorem dX10_note_1 : decode cX10_note 1 = .ok (.iconst 0, 1) := by decide +kernel
theorem dX10_note_2 : decode cX10_note 2 = .ok (.putfield 90, 3) := by decide +kernel
theorem dX10_note_5 : decode cX10_note 5 = .ok (.aload_n 0, 1) := by decide +kernel
theorem dX10_note_6 : decode cX10_note 6 = .ok (.getfield 178, 3) := by decide +kernel
theorem dX10_note_9 : decode cX10_note 9 = .ok (.bipush 8, 2) := by decide +kernel
theorem dX10_note_11 : decode cX10_note 11 = .ok (.if_icmp .eq 23, 3) := by decide +kernel
theorem dX10_note_14 : decode cX10_note 14 = .ok (.iload_n 1, 1) := by decide +kernel
theorem dX10_note_15 : decode cX10_note 15 = .ok (.iconst 0, 1) := by decide +kernel
theorem dX10_note_16 : decode cX10_note 16 = .ok (.bipush 7, 2) := by decide +kernel
theorem dX10_note_18 : decode cX10_note 18 = .ok (.invokestatic 134, 3) := by decide +kernel
theorem dX10_note_21 : decode cX10_note 21 = .ok (.ifCond .eq 13, 3) := by decide +kernel
theorem dX10_note_24 : decode cX10_note 24 = .ok (.iload_n 2, 1) := by decide +kernel
theorem dX10_note_25 : decode cX10_note 25 = .ok (.iconst 0, 1) := by decide +kernel
theorem dX10_note_26 : decode cX10_note 26 = .ok (.bipush 24, 2) := by decide +kernel
theorem dX10_note_28 : decode cX10_note 28 = .ok (.invokestatic 134, 3) := by decide +kernel
theorem dX10_note_31 : decode cX10_note 31 = .ok (.ifCond .ne 9, 3) := by decide +kernel
theorem dX10_note_34 : decode cX10_note 34 = .ok (.aload_n 0, 1) := by decide +kernel
theorem dX10_note_35 : decode cX10_note 35 = .ok (.iconst 2, 1) := by decide +kernel
theorem dX10_note_36 : decode cX10_note 36 = .ok (.invokevirtual 361, 3) := by decide +kernel
theorem dX10_note_39 : decode cX10_note 39 = .ok (.ireturn, 1) := by decide +kernel
theorem dX10_note_40 : decode cX10_note 40 = .ok (.aload_n 0, 1) := by decide +kernel
theorem dX10_note_41 : decode cX10_note 41 = .ok (.getfield 16, 3) := by decide +kernel
theorem dX10_note_44 : decode cX10_note 44 = .ok (.aload_n 0, 1) := by decide +kernel
theorem dX10_note_45 : decode cX10_note 45 = .ok (.getfield 178, 3) := by decide +kernel
theorem dX10_note_48 : decode cX10_note 48 = .ok (.iload_n 1, 1) := by decide +kernel
theorem dX10_note_49 : decode cX10_note 49 = .ok (.iastore, 1) := by decide +kernel
theorem dX10_note_50 : decode cX10_note 50 = .ok (.aload_n 0, 1) := by decide +kernel
theorem dX10_note_51 : decode cX10_note 51 = .ok (.getfield 19, 3) := by decide +kernel
theorem dX10_note_54 : decode cX10_note 54 = .ok (.aload_n 0, 1) := by decide +kernel
theorem dX10_note_55 : decode cX10_note 55 = .ok (.getfield 178, 3) := by decide +kernel
theorem dX10_note_58 : decode cX10_note 58 = .ok (.iload_n 2, 1) := by decide +kernel
theorem dX10_note_59 : decode cX10_note 59 = .ok (.iastore, 1) := by decide +kernel
theorem dX10_note_60 : decode cX10_note 60 = .ok (.aload_n 0, 1) := by decide +kernel
theorem dX10_note_61 : decode cX10_note 61 = .ok (.dup, 1) := by decide +kernel
theorem dX10_note_62 : decode cX10_note 62 = .ok (.getfield 178, 3) := by decide +kernel
theorem dX10_note_65 : decode cX10_note 65 = .ok (.iconst 1, 1) := by decide +kernel
theorem dX10_note_66 : decode cX10_note 66 = .ok (.iadd, 1) := by decide +kernel
theorem dX10_note_67 : decode cX10_note 67 = .ok (.putfield 178, 3) := by decide +kernel
theorem dX10_note_70 : decode cX10_note 70 = .ok (.aload_n 0, 1) := by decide +kernel
theorem dX10_note_71 : decode cX10_note 71 = .ok (.getfield 178, 3) := by decide +kernel
theorem dX10_note_74 : decode cX10_note 74 = .ok (.ireturn, 1) := by decide +kernel
theorem dX10_isNoted_0 : decode cX10_isNoted 0 = .ok (.iconst 0, 1) := by decide +kernel
theorem dX10_isNoted_1 : decode cX10_isNoted 1 = .ok (.istore_n 1, 1) := by decide +kernel
theorem dX10_isNoted_2 : decode cX10_isNoted 2 = .ok (.iload_n 1, 1) := by decide +kernel
theorem dX10_isNoted_3 : decode cX10_isNoted 3 = .ok (.aload_n 0, 1) := by decide +kernel
theorem dX10_isNoted_4 : decode cX10_isNoted 4 = .ok (.getfield 178, 3) := by decide +kernel
theorem dX10_isNoted_7 : decode cX10_isNoted 7 = .ok (.if_icmp .ge 30, 3) := by decide +kernel
theorem dX10_isNoted_10 : decode cX10_isNoted 10 = .ok (.aload_n 0, 1) := by decide +kernel
theorem dX10_isNoted_11 : decode cX10_isNoted 11 = .ok (.aload_n 0, 1) := by decide +kernel
theorem dX10_isNoted_12 : decode cX10_isNoted 12 = .ok (.getfield 16, 3) := by decide +kernel
theorem dX10_isNoted_15 : decode cX10_isNoted 15 = .ok (.iload_n 1, 1) := by decide +kernel
theorem dX10_isNoted_16 : decode cX10_isNoted 16 = .ok (.iaload, 1) := by decide +kernel
theorem dX10_isNoted_17 : decode cX10_isNoted 17 = .ok (.invokevirtual 274, 3) := by decide +kernel
theorem dX10_isNoted_20 : decode cX10_isNoted 20 = .ok (.aload_n 0, 1) := by decide +kernel
theorem dX10_isNoted_21 : decode cX10_isNoted 21 = .ok (.getfield 19, 3) := by decide +kernel
theorem dX10_isNoted_24 : decode cX10_isNoted 24 = .ok (.iload_n 1, 1) := by decide +kernel
theorem dX10_isNoted_25 : decode cX10_isNoted 25 = .ok (.iaload, 1) := by decide +kernel
theorem dX10_isNoted_26 : decode cX10_isNoted 26 = .ok (.if_icmp .eq 5, 3) := by decide +kernel
theorem dX10_isNoted_29 : decode cX10_isNoted 29 = .ok (.iconst 0, 1) := by decide +kernel
theorem dX10_isNoted_30 : decode cX10_isNoted 30 = .ok (.ireturn, 1) := by decide +kernel
theorem dX10_isNoted_31 : decode cX10_isNoted 31 = .ok (.iinc 1 1, 3) := by decide +kernel
theorem dX10_isNoted_34 : decode cX10_isNoted 34 = .ok (.goto (-32), 3) := by decide +kernel
theorem dX10_isNoted_37 : decode cX10_isNoted 37 = .ok (.iconst 1, 1) := by decide +kernel
theorem dX10_isNoted_38 : decode cX10_isNoted 38 = .ok (.ireturn, 1) := by decide +kernel
theorem dX10_isGuess_0 : decode cX10_isGuess 0 = .ok (.aload_n 0, 1) := by decide +kernel
theorem dX10_isGuess_1 : decode cX10_isGuess 1 = .ok (.getfield 13, 3) := by decide +kernel
theorem dX10_isGuess_4 : decode cX10_isGuess 4 = .ok (.iload_n 1, 1) := by decide +kernel
theorem dX10_isGuess_5 : decode cX10_isGuess 5 = .ok (.iaload, 1) := by decide +kernel
theorem dX10_isGuess_6 : decode cX10_isGuess 6 = .ok (.iload_n 2, 1) := by decide +kernel
theorem dX10_isGuess_7 : decode cX10_isGuess 7 = .ok (.if_icmp .ne 5, 3) := by decide +kernel
theorem dX10_isGuess_10 : decode cX10_isGuess 10 = .ok (.iconst 0, 1) := by decide +kernel
theorem dX10_isGuess_11 : decode cX10_isGuess 11 = .ok (.ireturn, 1) := by decide +kernel
theorem dX10_isGuess_12 : decode cX10_isGuess 12 = .ok (.aload_n 0, 1) := by decide +kernel
theorem dX10_isGuess_13 : decode cX10_isGuess 13 = .ok (.invokevirtual 283, 3) := by decide +kernel
theorem dX10_isGuess_16 : decode cX10_isGuess 16 = .ok (.aload_n 0, 1) := by decide +kernel
theorem dX10_isGuess_17 : decode cX10_isGuess 17 = .ok (.getfield 44, 3) := by decide +kernel
theorem dX10_isGuess_20 : decode cX10_isGuess 20 = .ok (.iload_n 1, 1) := by decide +kernel
theorem dX10_isGuess_21 : decode cX10_isGuess 21 = .ok (.iload_n 2, 1) := by decide +kernel
theorem dX10_isGuess_22 : decode cX10_isGuess 22 = .ok (.iastore, 1) := by decide +kernel
theorem dX10_isGuess_23 : decode cX10_isGuess 23 = .ok (.aload_n 0, 1) := by decide +kernel
theorem dX10_isGuess_24 : decode cX10_isGuess 24 = .ok (.invokevirtual 190, 3) := by decide +kernel
theorem dX10_isGuess_27 : decode cX10_isGuess 27 = .ok (.aload_n 0, 1) := by decide +kernel
theorem dX10_isGuess_28 : decode cX10_isGuess 28 = .ok (.invokevirtual 374, 3) := by decide +kernel
theorem dX10_isGuess_31 : decode cX10_isGuess 31 = .ok (.ireturn, 1) := by decide +kernel
theorem dX10_other_0 : decode cX10_other 0 = .ok (.aload_n 0, 1) := by decide +kernel
theorem dX10_other_1 : decode cX10_other 1 = .ok (.iconst 0, 1) := by decide +kernel
theorem dX10_other_2 : decode cX10_other 2 = .ok (.putfield 90, 3) := by decide +kernel
theorem dX10_other_5 : decode cX10_other 5 = .ok (.aload_n 0, 1) := by decide +kernel
theorem dX10_other_6 : decode cX10_other 6 = .ok (.iload_n 1, 1) := by decide +kernel
theorem dX10_other_7 : decode cX10_other 7 = .ok (.iconst 0, 1) := by decide +kernel
theorem dX10_other_8 : decode cX10_other 8 = .ok (.iconst 2, 1) := by decide +kernel
theorem dX10_other_9 : decode cX10_other 9 = .ok (.invokestatic 134, 3) := by decide +kernel
theorem dX10_other_12 : decode cX10_other 12 = .ok (.iconst 1, 1) := by decide +kernel
theorem dX10_other_13 : decode cX10_other 13 = .ok (.invokevirtual 166, 3) := by decide +kernel
theorem dX10_other_16 : decode cX10_other 16 = .ok (.ifCond .ne 5, 3) := by decide +kernel
theorem dX10_other_19 : decode cX10_other 19 = .ok (.iconst 0, 1) := by decide +kernel
theorem dX10_other_20 : decode cX10_other 20 = .ok (.ireturn, 1) := by decide +kernel
theorem dX10_other_21 : decode cX10_other 21 = .ok (.iload_n 1, 1) := by decide +kernel
theorem dX10_other_22 : decode cX10_other 22 = .ok (.iconst 2, 1) := by decide +kernel
theorem dX10_other_23 : decode cX10_other 23 = .ok (.if_icmp .ne 20, 3) := by decide +kernel
theorem dX10_other_26 : decode cX10_other 26 = .ok (.aload_n 0, 1) := by decide +kernel
theorem dX10_other_27 : decode cX10_other 27 = .ok (.invokevirtual 283, 3) := by decide +kernel
theorem dX10_other_30 : decode cX10_other 30 = .ok (.aload_n 0, 1) := by decide +kernel
theorem dX10_other_31 : decode cX10_other 31 = .ok (.invokevirtual 374, 3) := by decide +kernel
theorem dX10_other_34 : decode cX10_other 34 = .ok (.ifCond .eq 7, 3) := by decide +kernel
theorem dX10_other_37 : decode cX10_other 37 = .ok (.iconst 1, 1) := by decide +kernel
theorem dX10_other_38 : decode cX10_other 38 = .ok (.goto 4, 3) := by decide +kernel
theorem dX10_other_41 : decode cX10_other 41 = .ok (.iconst 0, 1) := by decide +kernel
theorem dX10_other_42 : decode cX10_other 42 = .ok (.ireturn, 1) := by decide +kernel
theorem dX10_other_43 : decode cX10_other 43 = .ok (.iconst 0, 1) := by decide +kernel
theorem dX10_other_44 : decode cX10_other 44 = .ok (.istore_n 2, 1) := by decide +kernel
theorem dX10_other_45 : decode cX10_other 45 = .ok (.iconst (-1), 1) := by decide +kernel
theorem dX10_other_46 : decode cX10_other 46 = .ok (.istore_n 3, 1) := by decide +kernel
theorem dX10_other_47 : decode cX10_other 47 = .ok (.iconst 0, 1) := by decide +kernel
theorem dX10_other_48 : decode cX10_other 48 = .ok (.istore 4, 2) := by decide +kernel
theorem dX10_other_50 : decode cX10_other 50 = .ok (.iload 4, 2) := by decide +kernel
theorem dX10_other_52 : decode cX10_other 52 = .ok (.aload_n 0, 1) := by decide +kernel
theorem dX10_other_53 : decode cX10_other 53 = .ok (.getfield 172, 3) := by decide +kernel
theorem dX10_other_56 : decode cX10_other 56 = .ok (.if_icmp .ge 57, 3) := by decide +kernel
theorem dX10_other_59 : decode cX10_other 59 = .ok (.iconst 1, 1) := by decide +kernel
theorem dX10_other_60 : decode cX10_other 60 = .ok (.istore 5, 2) := by decide +kernel
theorem dX10_other_62 : decode cX10_other 62 = .ok (.iload 5, 2) := by decide +kernel
theorem dX10_other_64 : decode cX10_other 64 = .ok (.aload_n 0, 1) := by decide +kernel
theorem dX10_other_65 : decode cX10_other 65 = .ok (.getfield 25, 3) := by decide +kernel
theorem dX10_other_68 : decode cX10_other 68 = .ok (.if_icmp .gt 39, 3) := by decide +kernel
theorem dX10_other_71 : decode cX10_other 71 = .ok (.aload_n 0, 1) := by decide +kernel
theorem dX10_other_72 : decode cX10_other 72 = .ok (.iload 4, 2) := by decide +kernel
theorem dX10_other_74 : decode cX10_other 74 = .ok (.iload 5, 2) := by decide +kernel
theorem dX10_other_76 : decode cX10_other 76 = .ok (.invokevirtual 378, 3) := by decide +kernel
theorem dX10_other_79 : decode cX10_other 79 = .ok (.ifCond .ne 6, 3) := by decide +kernel
theorem dX10_other_82 : decode cX10_other 82 = .ok (.goto 19, 3) := by decide +kernel
theorem dX10_other_85 : decode cX10_other 85 = .ok (.iload_n 2, 1) := by decide +kernel
theorem dX10_other_86 : decode cX10_other 86 = .ok (.ifCond .ne 12, 3) := by decide +kernel
theorem dX10_other_89 : decode cX10_other 89 = .ok (.bipush 100, 2) := by decide +kernel
theorem dX10_other_91 : decode cX10_other 91 = .ok (.iload 4, 2) := by decide +kernel
theorem dX10_other_93 : decode cX10_other 93 = .ok (.imul, 1) := by decide +kernel
theorem dX10_other_94 : decode cX10_other 94 = .ok (.iload 5, 2) := by decide +kernel
theorem dX10_other_96 : decode cX10_other 96 = .ok (.iadd, 1) := by decide +kernel
theorem dX10_other_97 : decode cX10_other 97 = .ok (.istore_n 3, 1) := by decide +kernel
theorem dX10_other_98 : decode cX10_other 98 = .ok (.iinc 2 1, 3) := by decide +kernel
theorem dX10_other_101 : decode cX10_other 101 = .ok (.iinc 5 1, 3) := by decide +kernel
theorem dX10_other_104 : decode cX10_other 104 = .ok (.goto (-42), 3) := by decide +kernel
theorem dX10_other_107 : decode cX10_other 107 = .ok (.iinc 4 1, 3) := by decide +kernel
theorem dX10_other_110 : decode cX10_other 110 = .ok (.goto (-60), 3) := by decide +kernel
theorem dX10_other_113 : decode cX10_other 113 = .ok (.iload_n 1, 1) := by decide +kernel
theorem dX10_other_114 : decode cX10_other 114 = .ok (.ifCond .ne 7, 3) := by decide +kernel
theorem dX10_other_117 : decode cX10_other 117 = .ok (.iload_n 2, 1) := by decide +kernel
theorem dX10_other_118 : decode cX10_other 118 = .ok (.goto 4, 3) := by decide +kernel
theorem dX10_other_121 : decode cX10_other 121 = .ok (.iload_n 3, 1) := by decide +kernel
theorem dX10_other_122 : decode cX10_other 122 = .ok (.ireturn, 1) := by decide +kernel
theorem dX10_unlike_0 : decode cX10_unlike 0 = .ok (.iconst 0, 1) := by decide +kernel
theorem dX10_unlike_1 : decode cX10_unlike 1 = .ok (.istore_n 3, 1) := by decide +kernel
theorem dX10_unlike_2 : decode cX10_unlike 2 = .ok (.iconst 0, 1) := by decide +kernel
theorem dX10_unlike_3 : decode cX10_unlike 3 = .ok (.istore 4, 2) := by decide +kernel
theorem dX10_unlike_5 : decode cX10_unlike 5 = .ok (.iload 4, 2) := by decide +kernel
theorem dX10_unlike_7 : decode cX10_unlike 7 = .ok (.iload_n 2, 1) := by decide +kernel
theorem dX10_unlike_8 : decode cX10_unlike 8 = .ok (.if_icmp .ge 80, 3) := by decide +kernel
theorem dX10_unlike_11 : decode cX10_unlike 11 = .ok (.iconst 1, 1) := by decide +kernel
theorem dX10_unlike_12 : decode cX10_unlike 12 = .ok (.istore 5, 2) := by decide +kernel
theorem dX10_unlike_14 : decode cX10_unlike 14 = .ok (.iconst 0, 1) := by decide +kernel
theorem dX10_unlike_15 : decode cX10_unlike 15 = .ok (.istore 6, 2) := by decide +kernel
theorem dX10_unlike_17 : decode cX10_unlike 17 = .ok (.iload 6, 2) := by decide +kernel
theorem dX10_unlike_19 : decode cX10_unlike 19 = .ok (.iload 4, 2) := by decide +kernel
theorem dX10_unlike_21 : decode cX10_unlike 21 = .ok (.if_icmp .ge 48, 3) := by decide +kernel
theorem dX10_unlike_24 : decode cX10_unlike 24 = .ok (.iload 5, 2) := by decide +kernel
theorem dX10_unlike_26 : decode cX10_unlike 26 = .ok (.ifCond .eq 43, 3) := by decide +kernel
theorem dX10_unlike_29 : decode cX10_unlike 29 = .ok (.aload_n 0, 1) := by decide +kernel
theorem dX10_unlike_30 : decode cX10_unlike 30 = .ok (.getfield 87, 3) := by decide +kernel
theorem dX10_unlike_33 : decode cX10_unlike 33 = .ok (.bipush 8, 2) := by decide +kernel
theorem dX10_unlike_35 : decode cX10_unlike 35 = .ok (.iload 6, 2) := by decide +kernel
theorem dX10_unlike_37 : decode cX10_unlike 37 = .ok (.imul, 1) := by decide +kernel
theorem dX10_unlike_38 : decode cX10_unlike 38 = .ok (.iload_n 1, 1) := by decide +kernel
theorem dX10_unlike_39 : decode cX10_unlike 39 = .ok (.iadd, 1) := by decide +kernel
theorem dX10_unlike_40 : decode cX10_unlike 40 = .ok (.iaload, 1) := by decide +kernel
theorem dX10_unlike_41 : decode cX10_unlike 41 = .ok (.aload_n 0, 1) := by decide +kernel
theorem dX10_unlike_42 : decode cX10_unlike 42 = .ok (.getfield 87, 3) := by decide +kernel
theorem dX10_unlike_45 : decode cX10_unlike 45 = .ok (.bipush 8, 2) := by decide +kernel
theorem dX10_unlike_47 : decode cX10_unlike 47 = .ok (.iload 4, 2) := by decide +kernel
theorem dX10_unlike_49 : decode cX10_unlike 49 = .ok (.imul, 1) := by decide +kernel
theorem dX10_unlike_50 : decode cX10_unlike 50 = .ok (.iload_n 1, 1) := by decide +kernel
theorem dX10_unlike_51 : decode cX10_unlike 51 = .ok (.iadd, 1) := by decide +kernel
theorem dX10_unlike_52 : decode cX10_unlike 52 = .ok (.iaload, 1) := by decide +kernel
theorem dX10_unlike_53 : decode cX10_unlike 53 = .ok (.if_icmp .eq 7, 3) := by decide +kernel
theorem dX10_unlike_56 : decode cX10_unlike 56 = .ok (.iconst 1, 1) := by decide +kernel
theorem dX10_unlike_57 : decode cX10_unlike 57 = .ok (.goto 4, 3) := by decide +kernel
theorem dX10_unlike_60 : decode cX10_unlike 60 = .ok (.iconst 0, 1) := by decide +kernel
theorem dX10_unlike_61 : decode cX10_unlike 61 = .ok (.istore 5, 2) := by decide +kernel
theorem dX10_unlike_63 : decode cX10_unlike 63 = .ok (.iinc 6 1, 3) := by decide +kernel
theorem dX10_unlike_66 : decode cX10_unlike 66 = .ok (.goto (-49), 3) := by decide +kernel
theorem dX10_unlike_69 : decode cX10_unlike 69 = .ok (.iload_n 3, 1) := by decide +kernel
theorem dX10_unlike_70 : decode cX10_unlike 70 = .ok (.iload 5, 2) := by decide +kernel
theorem dX10_unlike_72 : decode cX10_unlike 72 = .ok (.ifCond .eq 7, 3) := by decide +kernel
theorem dX10_unlike_75 : decode cX10_unlike 75 = .ok (.iconst 1, 1) := by decide +kernel
theorem dX10_unlike_76 : decode cX10_unlike 76 = .ok (.goto 4, 3) := by decide +kernel
theorem dX10_unlike_79 : decode cX10_unlike 79 = .ok (.iconst 0, 1) := by decide +kernel
theorem dX10_unlike_80 : decode cX10_unlike 80 = .ok (.iadd, 1) := by decide +kernel
theorem dX10_unlike_81 : decode cX10_unlike 81 = .ok (.istore_n 3, 1) := by decide +kernel
theorem dX10_unlike_82 : decode cX10_unlike 82 = .ok (.iinc 4 1, 3) := by decide +kernel
theorem dX10_unlike_85 : decode cX10_unlike 85 = .ok (.goto (-80), 3) := by decide +kernel
theorem dX10_unlike_88 : decode cX10_unlike 88 = .ok (.iload_n 3, 1) := by decide +kernel
theorem dX10_unlike_89 : decode cX10_unlike 89 = .ok (.ireturn, 1) := by decide +kernel
theorem dX10_look_0 : decode cX10_look 0 = .ok (.aload_n 0, 1) := by decide +kernel
theorem dX10_look_1 : decode cX10_look 1 = .ok (.iconst 0, 1) := by decide +kernel
theorem dX10_look_2 : decode cX10_look 2 = .ok (.putfield 90, 3) := by decide +kernel
theorem dX10_look_5 : decode cX10_look 5 = .ok (.aload_n 0, 1) := by decide +kernel
theorem dX10_look_6 : decode cX10_look 6 = .ok (.iload_n 1, 1) := by decide +kernel
theorem dX10_look_7 : decode cX10_look 7 = .ok (.iconst 0, 1) := by decide +kernel
theorem dX10_look_8 : decode cX10_look 8 = .ok (.iconst 1, 1) := by decide +kernel
theorem dX10_look_9 : decode cX10_look 9 = .ok (.invokestatic 134, 3) := by decide +kernel
theorem dX10_look_12 : decode cX10_look 12 = .ok (.iconst 1, 1) := by decide +kernel
theorem dX10_look_13 : decode cX10_look 13 = .ok (.invokevirtual 166, 3) := by decide +kernel
theorem dX10_look_16 : decode cX10_look 16 = .ok (.ifCond .ne 5, 3) := by decide +kernel
theorem dX10_look_19 : decode cX10_look 19 = .ok (.iconst 0, 1) := by decide +kernel
theorem dX10_look_20 : decode cX10_look 20 = .ok (.ireturn, 1) := by decide +kernel
theorem dX10_look_21 : decode cX10_look 21 = .ok (.iconst 0, 1) := by decide +kernel
theorem dX10_look_22 : decode cX10_look 22 = .ok (.istore_n 2, 1) := by decide +kernel
theorem dX10_look_23 : decode cX10_look 23 = .ok (.iconst 0, 1) := by decide +kernel
theorem dX10_look_24 : decode cX10_look 24 = .ok (.istore_n 3, 1) := by decide +kernel
theorem dX10_look_25 : decode cX10_look 25 = .ok (.iload_n 3, 1) := by decide +kernel
theorem dX10_look_26 : decode cX10_look 26 = .ok (.aload_n 0, 1) := by decide +kernel
theorem dX10_look_27 : decode cX10_look 27 = .ok (.getfield 172, 3) := by decide +kernel
theorem dX10_look_30 : decode cX10_look 30 = .ok (.if_icmp .ge 77, 3) := by decide +kernel
theorem dX10_look_33 : decode cX10_look 33 = .ok (.iconst 1, 1) := by decide +kernel
theorem dX10_look_34 : decode cX10_look 34 = .ok (.istore 4, 2) := by decide +kernel
theorem dX10_look_36 : decode cX10_look 36 = .ok (.iload 4, 2) := by decide +kernel
theorem dX10_look_38 : decode cX10_look 38 = .ok (.aload_n 0, 1) := by decide +kernel
theorem dX10_look_39 : decode cX10_look 39 = .ok (.getfield 25, 3) := by decide +kernel
theorem dX10_look_42 : decode cX10_look 42 = .ok (.if_icmp .gt 59, 3) := by decide +kernel
theorem dX10_look_45 : decode cX10_look 45 = .ok (.aload_n 0, 1) := by decide +kernel
theorem dX10_look_46 : decode cX10_look 46 = .ok (.iload_n 3, 1) := by decide +kernel
theorem dX10_look_47 : decode cX10_look 47 = .ok (.iload 4, 2) := by decide +kernel
theorem dX10_look_49 : decode cX10_look 49 = .ok (.invokevirtual 378, 3) := by decide +kernel
theorem dX10_look_52 : decode cX10_look 52 = .ok (.ifCond .ne 6, 3) := by decide +kernel
theorem dX10_look_55 : decode cX10_look 55 = .ok (.goto 40, 3) := by decide +kernel
theorem dX10_look_58 : decode cX10_look 58 = .ok (.iconst 0, 1) := by decide +kernel
theorem dX10_look_59 : decode cX10_look 59 = .ok (.istore 5, 2) := by decide +kernel
theorem dX10_look_61 : decode cX10_look 61 = .ok (.iload 5, 2) := by decide +kernel
theorem dX10_look_63 : decode cX10_look 63 = .ok (.bipush 8, 2) := by decide +kernel
theorem dX10_look_65 : decode cX10_look 65 = .ok (.if_icmp .ge 27, 3) := by decide +kernel
theorem dX10_look_68 : decode cX10_look 68 = .ok (.aload_n 0, 1) := by decide +kernel
theorem dX10_look_69 : decode cX10_look 69 = .ok (.getfield 87, 3) := by decide +kernel
theorem dX10_look_72 : decode cX10_look 72 = .ok (.bipush 8, 2) := by decide +kernel
theorem dX10_look_74 : decode cX10_look 74 = .ok (.iload_n 2, 1) := by decide +kernel
theorem dX10_look_75 : decode cX10_look 75 = .ok (.imul, 1) := by decide +kernel
theorem dX10_look_76 : decode cX10_look 76 = .ok (.iload 5, 2) := by decide +kernel
theorem dX10_look_78 : decode cX10_look 78 = .ok (.iadd, 1) := by decide +kernel
theorem dX10_look_79 : decode cX10_look 79 = .ok (.aload_n 0, 1) := by decide +kernel
theorem dX10_look_80 : decode cX10_look 80 = .ok (.iload 5, 2) := by decide +kernel
theorem dX10_look_82 : decode cX10_look 82 = .ok (.invokevirtual 274, 3) := by decide +kernel
theorem dX10_look_85 : decode cX10_look 85 = .ok (.iastore, 1) := by decide +kernel
theorem dX10_look_86 : decode cX10_look 86 = .ok (.iinc 5 1, 3) := by decide +kernel
theorem dX10_look_89 : decode cX10_look 89 = .ok (.goto (-28), 3) := by decide +kernel
theorem dX10_look_92 : decode cX10_look 92 = .ok (.iinc 2 1, 3) := by decide +kernel
theorem dX10_look_95 : decode cX10_look 95 = .ok (.iinc 4 1, 3) := by decide +kernel
theorem dX10_look_98 : decode cX10_look 98 = .ok (.goto (-62), 3) := by decide +kernel
theorem dX10_look_101 : decode cX10_look 101 = .ok (.iinc 3 1, 3) := by decide +kernel
theorem dX10_look_104 : decode cX10_look 104 = .ok (.goto (-79), 3) := by decide +kernel
theorem dX10_look_107 : decode cX10_look 107 = .ok (.iconst (-1), 1) := by decide +kernel
theorem dX10_look_108 : decode cX10_look 108 = .ok (.istore_n 3, 1) := by decide +kernel
theorem dX10_look_109 : decode cX10_look 109 = .ok (.iconst 0, 1) := by decide +kernel
theorem dX10_look_110 : decode cX10_look 110 = .ok (.istore 4, 2) := by decide +kernel
theorem dX10_look_112 : decode cX10_look 112 = .ok (.iconst 0, 1) := by decide +kernel
theorem dX10_look_113 : decode cX10_look 113 = .ok (.istore 5, 2) := by decide +kernel
theorem dX10_look_115 : decode cX10_look 115 = .ok (.iload 5, 2) := by decide +kernel
theorem dX10_look_117 : decode cX10_look 117 = .ok (.bipush 8, 2) := by decide +kernel
theorem dX10_look_119 : decode cX10_look 119 = .ok (.if_icmp .ge 35, 3) := by decide +kernel
theorem dX10_look_122 : decode cX10_look 122 = .ok (.aload_n 0, 1) := by decide +kernel
theorem dX10_look_123 : decode cX10_look 123 = .ok (.iload 5, 2) := by decide +kernel
theorem dX10_look_125 : decode cX10_look 125 = .ok (.iload_n 2, 1) := by decide +kernel
theorem dX10_look_126 : decode cX10_look 126 = .ok (.invokevirtual 381, 3) := by decide +kernel
theorem dX10_look_129 : decode cX10_look 129 = .ok (.istore 6, 2) := by decide +kernel
theorem dX10_look_131 : decode cX10_look 131 = .ok (.iload 6, 2) := by decide +kernel
theorem dX10_look_133 : decode cX10_look 133 = .ok (.iload 4, 2) := by decide +kernel
theorem dX10_look_135 : decode cX10_look 135 = .ok (.if_icmp .gt 6, 3) := by decide +kernel
theorem dX10_look_138 : decode cX10_look 138 = .ok (.goto 10, 3) := by decide +kernel
theorem dX10_look_141 : decode cX10_look 141 = .ok (.iload 5, 2) := by decide +kernel
theorem dX10_look_143 : decode cX10_look 143 = .ok (.istore_n 3, 1) := by decide +kernel
theorem dX10_look_144 : decode cX10_look 144 = .ok (.iload 6, 2) := by decide +kernel
theorem dX10_look_146 : decode cX10_look 146 = .ok (.istore 4, 2) := by decide +kernel
theorem dX10_look_148 : decode cX10_look 148 = .ok (.iinc 5 1, 3) := by decide +kernel
theorem dX10_look_151 : decode cX10_look 151 = .ok (.goto (-36), 3) := by decide +kernel
theorem dX10_look_154 : decode cX10_look 154 = .ok (.iload_n 1, 1) := by decide +kernel
theorem dX10_look_155 : decode cX10_look 155 = .ok (.ifCond .ne 7, 3) := by decide +kernel
theorem dX10_look_158 : decode cX10_look 158 = .ok (.iload_n 3, 1) := by decide +kernel
theorem dX10_look_159 : decode cX10_look 159 = .ok (.goto 5, 3) := by decide +kernel
theorem dX10_look_162 : decode cX10_look 162 = .ok (.iload 4, 2) := by decide +kernel
theorem dX10_look_164 : decode cX10_look 164 = .ok (.ireturn, 1) := by decide +kernel
theorem dX10_forget_0 : decode cX10_forget 0 = .ok (.aload_n 0, 1) := by decide +kernel
theorem dX10_forget_1 : decode cX10_forget 1 = .ok (.iconst 0, 1) := by decide +kernel
theorem dX10_forget_2 : decode cX10_forget 2 = .ok (.putfield 90, 3) := by decide +kernel
theorem dX10_forget_5 : decode cX10_forget 5 = .ok (.aload_n 0, 1) := by decide +kernel
theorem dX10_forget_6 : decode cX10_forget 6 = .ok (.iconst 0, 1) := by decide +kernel
theorem dX10_forget_7 : decode cX10_forget 7 = .ok (.putfield 178, 3) := by decide +kernel
theorem dX10_forget_10 : decode cX10_forget 10 = .ok (.return_, 1) := by decide +kernel
theorem dX10_odds_0 : decode cX10_odds 0 = .ok (.aload_n 0, 1) := by decide +kernel
theorem dX10_odds_1 : decode cX10_odds 1 = .ok (.iconst 0, 1) := by decide +kernel
theorem dX10_odds_2 : decode cX10_odds 2 = .ok (.putfield 90, 3) := by decide +kernel
theorem dX10_odds_5 : decode cX10_odds 5 = .ok (.aload_n 0, 1) := by decide +kernel
theorem dX10_odds_6 : decode cX10_odds 6 = .ok (.iload_n 1, 1) := by decide +kernel
theorem dX10_odds_7 : decode cX10_odds 7 = .ok (.invokevirtual 323, 3) := by decide +kernel
theorem dX10_odds_10 : decode cX10_odds 10 = .ok (.ifCond .eq 18, 3) := by decide +kernel
theorem dX10_odds_13 : decode cX10_odds 13 = .ok (.aload_n 0, 1) := by decide +kernel
theorem dX10_odds_14 : decode cX10_odds 14 = .ok (.iload_n 2, 1) := by decide +kernel
theorem dX10_odds_15 : decode cX10_odds 15 = .ok (.iconst 0, 1) := by decide +kernel
theorem dX10_odds_16 : decode cX10_odds 16 = .ok (.bipush 10, 2) := by decide +kernel
theorem dX10_odds_18 : decode cX10_odds 18 = .ok (.invokestatic 134, 3) := by decide +kernel
theorem dX10_odds_21 : decode cX10_odds 21 = .ok (.iconst 2, 1) := by decide +kernel
theorem dX10_odds_22 : decode cX10_odds 22 = .ok (.invokevirtual 166, 3) := by decide +kernel
theorem dX10_odds_25 : decode cX10_odds 25 = .ok (.ifCond .ne 5, 3) := by decide +kernel
theorem dX10_odds_28 : decode cX10_odds 28 = .ok (.iconst 0, 1) := by decide +kernel
theorem dX10_odds_29 : decode cX10_odds 29 = .ok (.ireturn, 1) := by decide +kernel
theorem dX10_odds_30 : decode cX10_odds 30 = .ok (.aload_n 0, 1) := by decide +kernel
theorem dX10_odds_31 : decode cX10_odds 31 = .ok (.invokevirtual 308, 3) := by decide +kernel
theorem dX10_odds_34 : decode cX10_odds 34 = .ok (.istore_n 3, 1) := by decide +kernel
theorem dX10_odds_35 : decode cX10_odds 35 = .ok (.aload_n 0, 1) := by decide +kernel
theorem dX10_odds_36 : decode cX10_odds 36 = .ok (.getfield 9, 3) := by decide +kernel
theorem dX10_odds_39 : decode cX10_odds 39 = .ok (.iload_n 1, 1) := by decide +kernel
theorem dX10_odds_40 : decode cX10_odds 40 = .ok (.iaload, 1) := by decide +kernel
theorem dX10_odds_41 : decode cX10_odds 41 = .ok (.iconst 5, 1) := by decide +kernel
theorem dX10_odds_42 : decode cX10_odds 42 = .ok (.if_icmp .ge 12, 3) := by decide +kernel
theorem dX10_odds_45 : decode cX10_odds 45 = .ok (.aload_n 0, 1) := by decide +kernel
theorem dX10_odds_46 : decode cX10_odds 46 = .ok (.getfield 9, 3) := by decide +kernel
theorem dX10_odds_49 : decode cX10_odds 49 = .ok (.iload_n 1, 1) := by decide +kernel
theorem dX10_odds_50 : decode cX10_odds 50 = .ok (.iaload, 1) := by decide +kernel
theorem dX10_odds_51 : decode cX10_odds 51 = .ok (.goto 4, 3) := by decide +kernel
theorem dX10_odds_54 : decode cX10_odds 54 = .ok (.iconst 5, 1) := by decide +kernel
theorem dX10_odds_55 : decode cX10_odds 55 = .ok (.istore 4, 2) := by decide +kernel
theorem dX10_odds_57 : decode cX10_odds 57 = .ok (.iconst 0, 1) := by decide +kernel
theorem dX10_odds_58 : decode cX10_odds 58 = .ok (.istore 5, 2) := by decide +kernel
theorem dX10_odds_60 : decode cX10_odds 60 = .ok (.iconst 0, 1) := by decide +kernel
theorem dX10_odds_61 : decode cX10_odds 61 = .ok (.istore 6, 2) := by decide +kernel
theorem dX10_odds_63 : decode cX10_odds 63 = .ok (.iload 6, 2) := by decide +kernel
theorem dX10_odds_65 : decode cX10_odds 65 = .ok (.bipush 32, 2) := by decide +kernel
theorem dX10_odds_67 : decode cX10_odds 67 = .ok (.if_icmp .ge 111, 3) := by decide +kernel
theorem dX10_odds_70 : decode cX10_odds 70 = .ok (.iconst 1, 1) := by decide +kernel
theorem dX10_odds_71 : decode cX10_odds 71 = .ok (.istore 7, 2) := by decide +kernel
theorem dX10_odds_73 : decode cX10_odds 73 = .ok (.iconst 0, 1) := by decide +kernel
theorem dX10_odds_74 : decode cX10_odds 74 = .ok (.istore 8, 2) := by decide +kernel
theorem dX10_odds_76 : decode cX10_odds 76 = .ok (.iconst 0, 1) := by decide +kernel
theorem dX10_odds_77 : decode cX10_odds 77 = .ok (.istore 9, 2) := by decide +kernel
theorem dX10_odds_79 : decode cX10_odds 79 = .ok (.iload 9, 2) := by decide +kernel
theorem dX10_odds_81 : decode cX10_odds 81 = .ok (.iconst 5, 1) := by decide +kernel
theorem dX10_odds_82 : decode cX10_odds 82 = .ok (.if_icmp .ge 60, 3) := by decide +kernel
theorem dX10_odds_85 : decode cX10_odds 85 = .ok (.iload 6, 2) := by decide +kernel
theorem dX10_odds_87 : decode cX10_odds 87 = .ok (.iload 9, 2) := by decide +kernel
theorem dX10_odds_89 : decode cX10_odds 89 = .ok (.ishr, 1) := by decide +kernel
theorem dX10_odds_90 : decode cX10_odds 90 = .ok (.iconst 1, 1) := by decide +kernel
theorem dX10_odds_91 : decode cX10_odds 91 = .ok (.iand, 1) := by decide +kernel
theorem dX10_odds_92 : decode cX10_odds 92 = .ok (.iconst 1, 1) := by decide +kernel
theorem dX10_odds_93 : decode cX10_odds 93 = .ok (.if_icmp .ne 7, 3) := by decide +kernel
theorem dX10_odds_96 : decode cX10_odds 96 = .ok (.iconst 1, 1) := by decide +kernel
theorem dX10_odds_97 : decode cX10_odds 97 = .ok (.goto 4, 3) := by decide +kernel
theorem dX10_odds_100 : decode cX10_odds 100 = .ok (.iconst 0, 1) := by decide +kernel
theorem dX10_odds_101 : decode cX10_odds 101 = .ok (.istore 10, 2) := by decide +kernel
theorem dX10_odds_103 : decode cX10_odds 103 = .ok (.iload 7, 2) := by decide +kernel
theorem dX10_odds_105 : decode cX10_odds 105 = .ok (.iload 10, 2) := by decide +kernel
theorem dX10_odds_107 : decode cX10_odds 107 = .ok (.ifCond .eq 7, 3) := by decide +kernel
theorem dX10_odds_110 : decode cX10_odds 110 = .ok (.iload_n 2, 1) := by decide +kernel
theorem dX10_odds_111 : decode cX10_odds 111 = .ok (.goto 7, 3) := by decide +kernel
theorem dX10_odds_114 : decode cX10_odds 114 = .ok (.bipush 10, 2) := by decide +kernel
theorem dX10_odds_116 : decode cX10_odds 116 = .ok (.iload_n 2, 1) := by decide +kernel
theorem dX10_odds_117 : decode cX10_odds 117 = .ok (.isub, 1) := by decide +kernel
theorem dX10_odds_118 : decode cX10_odds 118 = .ok (.imul, 1) := by decide +kernel
theorem dX10_odds_119 : decode cX10_odds 119 = .ok (.istore 7, 2) := by decide +kernel
theorem dX10_odds_121 : decode cX10_odds 121 = .ok (.iload 10, 2) := by decide +kernel
theorem dX10_odds_123 : decode cX10_odds 123 = .ok (.ifCond .eq 13, 3) := by decide +kernel
theorem dX10_odds_126 : decode cX10_odds 126 = .ok (.iload 9, 2) := by decide +kernel
theorem dX10_odds_128 : decode cX10_odds 128 = .ok (.iload 4, 2) := by decide +kernel
theorem dX10_odds_130 : decode cX10_odds 130 = .ok (.if_icmp .ge 6, 3) := by decide +kernel
theorem dX10_odds_133 : decode cX10_odds 133 = .ok (.iinc 8 1, 3) := by decide +kernel
theorem dX10_odds_136 : decode cX10_odds 136 = .ok (.iinc 9 1, 3) := by decide +kernel
theorem dX10_odds_139 : decode cX10_odds 139 = .ok (.goto (-60), 3) := by decide +kernel
theorem dX10_odds_142 : decode cX10_odds 142 = .ok (.aload_n 0, 1) := by decide +kernel
theorem dX10_odds_143 : decode cX10_odds 143 = .ok (.invokevirtual 283, 3) := by decide +kernel
theorem dX10_odds_146 : decode cX10_odds 146 = .ok (.aload_n 0, 1) := by decide +kernel
theorem dX10_odds_147 : decode cX10_odds 147 = .ok (.getfield 41, 3) := by decide +kernel
theorem dX10_odds_150 : decode cX10_odds 150 = .ok (.iload_n 1, 1) := by decide +kernel
theorem dX10_odds_151 : decode cX10_odds 151 = .ok (.dup2, 1) := by decide +kernel
theorem dX10_odds_152 : decode cX10_odds 152 = .ok (.iaload, 1) := by decide +kernel
theorem dX10_odds_153 : decode cX10_odds 153 = .ok (.iload 8, 2) := by decide +kernel
theorem dX10_odds_155 : decode cX10_odds 155 = .ok (.isub, 1) := by decide +kernel
theorem dX10_odds_156 : decode cX10_odds 156 = .ok (.iastore, 1) := by decide +kernel
theorem dX10_odds_157 : decode cX10_odds 157 = .ok (.aload_n 0, 1) := by decide +kernel
theorem dX10_odds_158 : decode cX10_odds 158 = .ok (.invokevirtual 286, 3) := by decide +kernel
theorem dX10_odds_161 : decode cX10_odds 161 = .ok (.iload_n 3, 1) := by decide +kernel
theorem dX10_odds_162 : decode cX10_odds 162 = .ok (.if_icmp .ge 10, 3) := by decide +kernel
theorem dX10_odds_165 : decode cX10_odds 165 = .ok (.iload 5, 2) := by decide +kernel
theorem dX10_odds_167 : decode cX10_odds 167 = .ok (.iload 7, 2) := by decide +kernel
theorem dX10_odds_169 : decode cX10_odds 169 = .ok (.iadd, 1) := by decide +kernel
theorem dX10_odds_170 : decode cX10_odds 170 = .ok (.istore 5, 2) := by decide +kernel
theorem dX10_odds_172 : decode cX10_odds 172 = .ok (.iinc 6 1, 3) := by decide +kernel
theorem dX10_odds_175 : decode cX10_odds 175 = .ok (.goto (-112), 3) := by decide +kernel
theorem dX10_odds_178 : decode cX10_odds 178 = .ok (.iload 5, 2) := by decide +kernel
theorem dX10_odds_180 : decode cX10_odds 180 = .ok (.ireturn, 1) := by decide +kernel
theorem dX10_draw_0 : decode cX10_draw 0 = .ok (.aload_n 0, 1) := by decide +kernel
theorem dX10_draw_1 : decode cX10_draw 1 = .ok (.aload_n 0, 1) := by decide +kernel
theorem dX10_draw_2 : decode cX10_draw 2 = .ok (.getfield 384, 3) := by decide +kernel
theorem dX10_draw_5 : decode cX10_draw 5 = .ok (.ldc_w 387, 3) := by decide +kernel
theorem dX10_draw_8 : decode cX10_draw 8 = .ok (.imul, 1) := by decide +kernel
theorem dX10_draw_9 : decode cX10_draw 9 = .ok (.sipush 12345, 3) := by decide +kernel
theorem dX10_draw_12 : decode cX10_draw 12 = .ok (.iadd, 1) := by decide +kernel
theorem dX10_draw_13 : decode cX10_draw 13 = .ok (.putfield 384, 3) := by decide +kernel
theorem dX10_draw_16 : decode cX10_draw 16 = .ok (.aload_n 0, 1) := by decide +kernel
theorem dX10_draw_17 : decode cX10_draw 17 = .ok (.getfield 384, 3) := by decide +kernel
theorem dX10_draw_20 : decode cX10_draw 20 = .ok (.bipush 16, 2) := by decide +kernel
theorem dX10_draw_22 : decode cX10_draw 22 = .ok (.ishr, 1) := by decide +kernel
theorem dX10_draw_23 : decode cX10_draw 23 = .ok (.sipush 32767, 3) := by decide +kernel
theorem dX10_draw_26 : decode cX10_draw 26 = .ok (.iand, 1) := by decide +kernel
theorem dX10_draw_27 : decode cX10_draw 27 = .ok (.iload_n 1, 1) := by decide +kernel
theorem dX10_draw_28 : decode cX10_draw 28 = .ok (.irem, 1) := by decide +kernel
theorem dX10_draw_29 : decode cX10_draw 29 = .ok (.ireturn, 1) := by decide +kernel
theorem dX10_years_0 : decode cX10_years 0 = .ok (.aload_n 0, 1) := by decide +kernel
theorem dX10_years_1 : decode cX10_years 1 = .ok (.iconst 0, 1) := by decide +kernel
theorem dX10_years_2 : decode cX10_years 2 = .ok (.putfield 90, 3) := by decide +kernel
theorem dX10_years_5 : decode cX10_years 5 = .ok (.aload_n 0, 1) := by decide +kernel
theorem dX10_years_6 : decode cX10_years 6 = .ok (.iload 4, 2) := by decide +kernel
theorem dX10_years_8 : decode cX10_years 8 = .ok (.iconst 0, 1) := by decide +kernel
theorem dX10_years_9 : decode cX10_years 9 = .ok (.iconst 2, 1) := by decide +kernel
theorem dX10_years_10 : decode cX10_years 10 = .ok (.invokestatic 134, 3) := by decide +kernel
theorem dX10_years_13 : decode cX10_years 13 = .ok (.iconst 1, 1) := by decide +kernel
theorem dX10_years_14 : decode cX10_years 14 = .ok (.invokevirtual 166, 3) := by decide +kernel
theorem dX10_years_17 : decode cX10_years 17 = .ok (.ifCond .eq 35, 3) := by decide +kernel
theorem dX10_years_20 : decode cX10_years 20 = .ok (.aload_n 0, 1) := by decide +kernel
theorem dX10_years_21 : decode cX10_years 21 = .ok (.iload_n 2, 1) := by decide +kernel
theorem dX10_years_22 : decode cX10_years 22 = .ok (.iconst 0, 1) := by decide +kernel
theorem dX10_years_23 : decode cX10_years 23 = .ok (.bipush 60, 2) := by decide +kernel
theorem dX10_years_25 : decode cX10_years 25 = .ok (.invokestatic 134, 3) := by decide +kernel
theorem dX10_years_28 : decode cX10_years 28 = .ok (.ifCond .eq 16, 3) := by decide +kernel
theorem dX10_years_31 : decode cX10_years 31 = .ok (.iload_n 3, 1) := by decide +kernel
theorem dX10_years_32 : decode cX10_years 32 = .ok (.iconst 0, 1) := by decide +kernel
theorem dX10_years_33 : decode cX10_years 33 = .ok (.iconst 3, 1) := by decide +kernel
theorem dX10_years_34 : decode cX10_years 34 = .ok (.invokestatic 134, 3) := by decide +kernel
theorem dX10_years_37 : decode cX10_years 37 = .ok (.ifCond .eq 7, 3) := by decide +kernel
theorem dX10_years_40 : decode cX10_years 40 = .ok (.iconst 1, 1) := by decide +kernel
theorem dX10_years_41 : decode cX10_years 41 = .ok (.goto 4, 3) := by decide +kernel
theorem dX10_years_44 : decode cX10_years 44 = .ok (.iconst 0, 1) := by decide +kernel
theorem dX10_years_45 : decode cX10_years 45 = .ok (.iconst 2, 1) := by decide +kernel
theorem dX10_years_46 : decode cX10_years 46 = .ok (.invokevirtual 166, 3) := by decide +kernel
theorem dX10_years_49 : decode cX10_years 49 = .ok (.ifCond .ne 5, 3) := by decide +kernel
theorem dX10_years_52 : decode cX10_years 52 = .ok (.iconst 0, 1) := by decide +kernel
theorem dX10_years_53 : decode cX10_years 53 = .ok (.ireturn, 1) := by decide +kernel
theorem dX10_years_54 : decode cX10_years 54 = .ok (.aload_n 0, 1) := by decide +kernel
theorem dX10_years_55 : decode cX10_years 55 = .ok (.invokevirtual 283, 3) := by decide +kernel
theorem dX10_years_58 : decode cX10_years 58 = .ok (.aload_n 0, 1) := by decide +kernel
theorem dX10_years_59 : decode cX10_years 59 = .ok (.invokevirtual 364, 3) := by decide +kernel
theorem dX10_years_62 : decode cX10_years 62 = .ok (.aload_n 0, 1) := by decide +kernel
theorem dX10_years_63 : decode cX10_years 63 = .ok (.iload_n 1, 1) := by decide +kernel
theorem dX10_years_64 : decode cX10_years 64 = .ok (.putfield 384, 3) := by decide +kernel
theorem dX10_years_67 : decode cX10_years 67 = .ok (.iconst 0, 1) := by decide +kernel
theorem dX10_years_68 : decode cX10_years 68 = .ok (.istore 5, 2) := by decide +kernel
theorem dX10_years_70 : decode cX10_years 70 = .ok (.iconst 0, 1) := by decide +kernel
theorem dX10_years_71 : decode cX10_years 71 = .ok (.istore 6, 2) := by decide +kernel
theorem dX10_years_73 : decode cX10_years 73 = .ok (.iload 6, 2) := by decide +kernel
theorem dX10_years_75 : decode cX10_years 75 = .ok (.iload_n 2, 1) := by decide +kernel
theorem dX10_years_76 : decode cX10_years 76 = .ok (.if_icmp .ge 39, 3) := by decide +kernel
theorem dX10_years_79 : decode cX10_years 79 = .ok (.aload_n 0, 1) := by decide +kernel
theorem dX10_years_80 : decode cX10_years 80 = .ok (.getfield 172, 3) := by decide +kernel
theorem dX10_years_83 : decode cX10_years 83 = .ok (.ifCond .le 32, 3) := by decide +kernel
theorem dX10_years_86 : decode cX10_years 86 = .ok (.aload_n 0, 1) := by decide +kernel
theorem dX10_years_87 : decode cX10_years 87 = .ok (.iload_n 3, 1) := by decide +kernel
theorem dX10_years_88 : decode cX10_years 88 = .ok (.aload_n 0, 1) := by decide +kernel
theorem dX10_years_89 : decode cX10_years 89 = .ok (.aload_n 0, 1) := by decide +kernel
theorem dX10_years_90 : decode cX10_years 90 = .ok (.getfield 172, 3) := by decide +kernel
theorem dX10_years_93 : decode cX10_years 93 = .ok (.invokevirtual 388, 3) := by decide +kernel
theorem dX10_years_96 : decode cX10_years 96 = .ok (.invokevirtual 202, 3) := by decide +kernel
theorem dX10_years_99 : decode cX10_years 99 = .ok (.aload_n 0, 1) := by decide +kernel
theorem dX10_years_100 : decode cX10_years 100 = .ok (.invokevirtual 302, 3) := by decide +kernel
theorem dX10_years_103 : decode cX10_years 103 = .ok (.if_icmp .ge 6, 3) := by decide +kernel
theorem dX10_years_106 : decode cX10_years 106 = .ok (.iinc 5 1, 3) := by decide +kernel
theorem dX10_years_109 : decode cX10_years 109 = .ok (.iinc 6 1, 3) := by decide +kernel
theorem dX10_years_112 : decode cX10_years 112 = .ok (.goto (-39), 3) := by decide +kernel
theorem dX10_years_115 : decode cX10_years 115 = .ok (.iload 4, 2) := by decide +kernel
theorem dX10_years_117 : decode cX10_years 117 = .ok (.ifCond .ne 8, 3) := by decide +kernel
theorem dX10_years_120 : decode cX10_years 120 = .ok (.aload_n 0, 1) := by decide +kernel
theorem dX10_years_121 : decode cX10_years 121 = .ok (.getfield 193, 3) := by decide +kernel
theorem dX10_years_124 : decode cX10_years 124 = .ok (.ireturn, 1) := by decide +kernel
theorem dX10_years_125 : decode cX10_years 125 = .ok (.iload 4, 2) := by decide +kernel
theorem dX10_years_127 : decode cX10_years 127 = .ok (.iconst 2, 1) := by decide +kernel
theorem dX10_years_128 : decode cX10_years 128 = .ok (.if_icmp .ne 6, 3) := by decide +kernel
theorem dX10_years_131 : decode cX10_years 131 = .ok (.iload 5, 2) := by decide +kernel
theorem dX10_years_133 : decode cX10_years 133 = .ok (.ireturn, 1) := by decide +kernel
theorem dX10_years_134 : decode cX10_years 134 = .ok (.iconst 0, 1) := by decide +kernel
theorem dX10_years_135 : decode cX10_years 135 = .ok (.istore 6, 2) := by decide +kernel
theorem dX10_years_137 : decode cX10_years 137 = .ok (.iconst 0, 1) := by decide +kernel
theorem dX10_years_138 : decode cX10_years 138 = .ok (.istore 7, 2) := by decide +kernel
theorem dX10_years_140 : decode cX10_years 140 = .ok (.iload 7, 2) := by decide +kernel
theorem dX10_years_142 : decode cX10_years 142 = .ok (.aload_n 0, 1) := by decide +kernel
theorem dX10_years_143 : decode cX10_years 143 = .ok (.getfield 193, 3) := by decide +kernel
theorem dX10_years_146 : decode cX10_years 146 = .ok (.if_icmp .ge 21, 3) := by decide +kernel
theorem dX10_years_149 : decode cX10_years 149 = .ok (.iload 6, 2) := by decide +kernel
theorem dX10_years_151 : decode cX10_years 151 = .ok (.aload_n 0, 1) := by decide +kernel
theorem dX10_years_152 : decode cX10_years 152 = .ok (.getfield 56, 3) := by decide +kernel
theorem dX10_years_155 : decode cX10_years 155 = .ok (.iload 7, 2) := by decide +kernel
theorem dX10_years_157 : decode cX10_years 157 = .ok (.iaload, 1) := by decide +kernel
theorem dX10_years_158 : decode cX10_years 158 = .ok (.iadd, 1) := by decide +kernel
theorem dX10_years_159 : decode cX10_years 159 = .ok (.istore 6, 2) := by decide +kernel
theorem dX10_years_161 : decode cX10_years 161 = .ok (.iinc 7 1, 3) := by decide +kernel
theorem dX10_years_164 : decode cX10_years 164 = .ok (.goto (-24), 3) := by decide +kernel
theorem dX10_years_167 : decode cX10_years 167 = .ok (.iload 6, 2) := by decide +kernel
theorem dX10_years_169 : decode cX10_years 169 = .ok (.ireturn, 1) := by decide +kernel
theorem dX10_image_0 : decode cX10_image 0 = .ok (.aload_n 0, 1) := by decide +kernel
theorem dX10_image_1 : decode cX10_image 1 = .ok (.iconst 0, 1) := by decide +kernel
theorem dX10_image_2 : decode cX10_image 2 = .ok (.putfield 90, 3) := by decide +kernel
theorem dX10_image_5 : decode cX10_image 5 = .ok (.aload_n 0, 1) := by decide +kernel
theorem dX10_image_6 : decode cX10_image 6 = .ok (.iconst 0, 1) := by decide +kernel
theorem dX10_image_7 : decode cX10_image 7 = .ok (.sipush 3280, 3) := by decide +kernel
theorem dX10_image_10 : decode cX10_image 10 = .ok (.bipush 80, 2) := by decide +kernel
theorem dX10_image_12 : decode cX10_image 12 = .ok (.invokevirtual 357, 3) := by decide +kernel
theorem dX10_image_15 : decode cX10_image 15 = .ok (.aload_n 0, 1) := by decide +kernel
theorem dX10_image_16 : decode cX10_image 16 = .ok (.bipush 80, 2) := by decide +kernel
theorem dX10_image_18 : decode cX10_image 18 = .ok (.sipush 3360, 3) := by decide +kernel
theorem dX10_image_21 : decode cX10_image 21 = .ok (.sipush 3200, 3) := by decide +kernel
theorem dX10_image_24 : decode cX10_image 24 = .ok (.invokevirtual 357, 3) := by decide +kernel
theorem dX10_image_27 : decode cX10_image 27 = .ok (.aload_n 0, 1) := by decide +kernel
theorem dX10_image_28 : decode cX10_image 28 = .ok (.aload_n 0, 1) := by decide +kernel
theorem dX10_image_29 : decode cX10_image 29 = .ok (.getfield 184, 3) := by decide +kernel
theorem dX10_image_32 : decode cX10_image 32 = .ok (.putfield 391, 3) := by decide +kernel
theorem dX10_image_35 : decode cX10_image 35 = .ok (.aload_n 0, 1) := by decide +kernel
theorem dX10_image_36 : decode cX10_image 36 = .ok (.aload_n 0, 1) := by decide +kernel
theorem dX10_image_37 : decode cX10_image 37 = .ok (.getfield 181, 3) := by decide +kernel
theorem dX10_image_40 : decode cX10_image 40 = .ok (.putfield 394, 3) := by decide +kernel
theorem dX10_image_43 : decode cX10_image 43 = .ok (.aload_n 0, 1) := by decide +kernel
theorem dX10_image_44 : decode cX10_image 44 = .ok (.aload_n 0, 1) := by decide +kernel
theorem dX10_image_45 : decode cX10_image 45 = .ok (.getfield 178, 3) := by decide +kernel
theorem dX10_image_48 : decode cX10_image 48 = .ok (.putfield 397, 3) := by decide +kernel
theorem dX10_image_51 : decode cX10_image 51 = .ok (.iconst 0, 1) := by decide +kernel
theorem dX10_image_52 : decode cX10_image 52 = .ok (.istore_n 1, 1) := by decide +kernel
theorem dX10_image_53 : decode cX10_image 53 = .ok (.iload_n 1, 1) := by decide +kernel
theorem dX10_image_54 : decode cX10_image 54 = .ok (.bipush 8, 2) := by decide +kernel
theorem dX10_image_56 : decode cX10_image 56 = .ok (.if_icmp .ge 39, 3) := by decide +kernel
theorem dX10_image_59 : decode cX10_image 59 = .ok (.aload_n 0, 1) := by decide +kernel
theorem dX10_image_60 : decode cX10_image 60 = .ok (.getfield 16, 3) := by decide +kernel
theorem dX10_image_63 : decode cX10_image 63 = .ok (.bipush 8, 2) := by decide +kernel
theorem dX10_image_65 : decode cX10_image 65 = .ok (.iload_n 1, 1) := by decide +kernel
theorem dX10_image_66 : decode cX10_image 66 = .ok (.iadd, 1) := by decide +kernel
theorem dX10_image_67 : decode cX10_image 67 = .ok (.aload_n 0, 1) := by decide +kernel
theorem dX10_image_68 : decode cX10_image 68 = .ok (.getfield 16, 3) := by decide +kernel
theorem dX10_image_71 : decode cX10_image 71 = .ok (.iload_n 1, 1) := by decide +kernel
theorem dX10_image_72 : decode cX10_image 72 = .ok (.iaload, 1) := by decide +kernel
theorem dX10_image_73 : decode cX10_image 73 = .ok (.iastore, 1) := by decide +kernel
theorem dX10_image_74 : decode cX10_image 74 = .ok (.aload_n 0, 1) := by decide +kernel
theorem dX10_image_75 : decode cX10_image 75 = .ok (.getfield 19, 3) := by decide +kernel
theorem dX10_image_78 : decode cX10_image 78 = .ok (.bipush 8, 2) := by decide +kernel
theorem dX10_image_80 : decode cX10_image 80 = .ok (.iload_n 1, 1) := by decide +kernel
theorem dX10_image_81 : decode cX10_image 81 = .ok (.iadd, 1) := by decide +kernel
theorem dX10_image_82 : decode cX10_image 82 = .ok (.aload_n 0, 1) := by decide +kernel
theorem dX10_image_83 : decode cX10_image 83 = .ok (.getfield 19, 3) := by decide +kernel
theorem dX10_image_86 : decode cX10_image 86 = .ok (.iload_n 1, 1) := by decide +kernel
theorem dX10_image_87 : decode cX10_image 87 = .ok (.iaload, 1) := by decide +kernel
theorem dX10_image_88 : decode cX10_image 88 = .ok (.iastore, 1) := by decide +kernel
theorem dX10_image_89 : decode cX10_image 89 = .ok (.iinc 1 1, 3) := by decide +kernel
theorem dX10_image_92 : decode cX10_image 92 = .ok (.goto (-39), 3) := by decide +kernel
theorem dX10_image_95 : decode cX10_image 95 = .ok (.iconst 0, 1) := by decide +kernel
theorem dX10_image_96 : decode cX10_image 96 = .ok (.istore_n 1, 1) := by decide +kernel
theorem dX10_image_97 : decode cX10_image 97 = .ok (.iload_n 1, 1) := by decide +kernel
theorem dX10_image_98 : decode cX10_image 98 = .ok (.iconst 3, 1) := by decide +kernel
theorem dX10_image_99 : decode cX10_image 99 = .ok (.if_icmp .ge 23, 3) := by decide +kernel
theorem dX10_image_102 : decode cX10_image 102 = .ok (.aload_n 0, 1) := by decide +kernel
theorem dX10_image_103 : decode cX10_image 103 = .ok (.getfield 22, 3) := by decide +kernel
theorem dX10_image_106 : decode cX10_image 106 = .ok (.iconst 3, 1) := by decide +kernel
theorem dX10_image_107 : decode cX10_image 107 = .ok (.iload_n 1, 1) := by decide +kernel
theorem dX10_image_108 : decode cX10_image 108 = .ok (.iadd, 1) := by decide +kernel
theorem dX10_image_109 : decode cX10_image 109 = .ok (.aload_n 0, 1) := by decide +kernel
theorem dX10_image_110 : decode cX10_image 110 = .ok (.getfield 22, 3) := by decide +kernel
theorem dX10_image_113 : decode cX10_image 113 = .ok (.iload_n 1, 1) := by decide +kernel
theorem dX10_image_114 : decode cX10_image 114 = .ok (.iaload, 1) := by decide +kernel
theorem dX10_image_115 : decode cX10_image 115 = .ok (.iastore, 1) := by decide +kernel
theorem dX10_image_116 : decode cX10_image 116 = .ok (.iinc 1 1, 3) := by decide +kernel
theorem dX10_image_119 : decode cX10_image 119 = .ok (.goto (-22), 3) := by decide +kernel
theorem dX10_image_122 : decode cX10_image 122 = .ok (.aload_n 0, 1) := by decide +kernel
theorem dX10_image_123 : decode cX10_image 123 = .ok (.iconst 1, 1) := by decide +kernel
theorem dX10_image_124 : decode cX10_image 124 = .ok (.putfield 175, 3) := by decide +kernel
theorem dX10_image_127 : decode cX10_image 127 = .ok (.return_, 1) := by decide +kernel
theorem dX10_restore_0 : decode cX10_restore 0 = .ok (.aload_n 0, 1) := by decide +kernel
theorem dX10_restore_1 : decode cX10_restore 1 = .ok (.iconst 0, 1) := by decide +kernel
theorem dX10_restore_2 : decode cX10_restore 2 = .ok (.putfield 90, 3) := by decide +kernel
theorem dX10_restore_5 : decode cX10_restore 5 = .ok (.aload_n 0, 1) := by decide +kernel
theorem dX10_restore_6 : decode cX10_restore 6 = .ok (.getfield 175, 3) := by decide +kernel
theorem dX10_restore_9 : decode cX10_restore 9 = .ok (.ifCond .ne 5, 3) := by decide +kernel
theorem dX10_restore_12 : decode cX10_restore 12 = .ok (.iconst 0, 1) := by decide +kernel
theorem dX10_restore_13 : decode cX10_restore 13 = .ok (.ireturn, 1) := by decide +kernel
theorem dX10_restore_14 : decode cX10_restore 14 = .ok (.aload_n 0, 1) := by decide +kernel
theorem dX10_restore_15 : decode cX10_restore 15 = .ok (.sipush 3280, 3) := by decide +kernel
theorem dX10_restore_18 : decode cX10_restore 18 = .ok (.iconst 0, 1) := by decide +kernel
theorem dX10_restore_19 : decode cX10_restore 19 = .ok (.bipush 80, 2) := by decide +kernel
theorem dX10_restore_21 : decode cX10_restore 21 = .ok (.invokevirtual 357, 3) := by decide +kernel
theorem dX10_restore_24 : decode cX10_restore 24 = .ok (.aload_n 0, 1) := by decide +kernel
theorem dX10_restore_25 : decode cX10_restore 25 = .ok (.sipush 3360, 3) := by decide +kernel
theorem dX10_restore_28 : decode cX10_restore 28 = .ok (.bipush 80, 2) := by decide +kernel
theorem dX10_restore_30 : decode cX10_restore 30 = .ok (.sipush 3200, 3) := by decide +kernel
theorem dX10_restore_33 : decode cX10_restore 33 = .ok (.invokevirtual 357, 3) := by decide +kernel
theorem dX10_restore_36 : decode cX10_restore 36 = .ok (.aload_n 0, 1) := by decide +kernel
theorem dX10_restore_37 : decode cX10_restore 37 = .ok (.aload_n 0, 1) := by decide +kernel
theorem dX10_restore_38 : decode cX10_restore 38 = .ok (.getfield 391, 3) := by decide +kernel
theorem dX10_restore_41 : decode cX10_restore 41 = .ok (.putfield 184, 3) := by decide +kernel
theorem dX10_restore_44 : decode cX10_restore 44 = .ok (.aload_n 0, 1) := by decide +kernel
theorem dX10_restore_45 : decode cX10_restore 45 = .ok (.aload_n 0, 1) := by decide +kernel
theorem dX10_restore_46 : decode cX10_restore 46 = .ok (.getfield 394, 3) := by decide +kernel
theorem dX10_restore_49 : decode cX10_restore 49 = .ok (.putfield 181, 3) := by decide +kernel
theorem dX10_restore_52 : decode cX10_restore 52 = .ok (.aload_n 0, 1) := by decide +kernel
theorem dX10_restore_53 : decode cX10_restore 53 = .ok (.aload_n 0, 1) := by decide +kernel
theorem dX10_restore_54 : decode cX10_restore 54 = .ok (.getfield 397, 3) := by decide +kernel
theorem dX10_restore_57 : decode cX10_restore 57 = .ok (.putfield 178, 3) := by decide +kernel
theorem dX10_restore_60 : decode cX10_restore 60 = .ok (.iconst 0, 1) := by decide +kernel
theorem dX10_restore_61 : decode cX10_restore 61 = .ok (.istore_n 1, 1) := by decide +kernel
theorem dX10_restore_62 : decode cX10_restore 62 = .ok (.iload_n 1, 1) := by decide +kernel
theorem dX10_restore_63 : decode cX10_restore 63 = .ok (.bipush 8, 2) := by decide +kernel
theorem dX10_restore_65 : decode cX10_restore 65 = .ok (.if_icmp .ge 39, 3) := by decide +kernel
theorem dX10_restore_68 : decode cX10_restore 68 = .ok (.aload_n 0, 1) := by decide +kernel
theorem dX10_restore_69 : decode cX10_restore 69 = .ok (.getfield 16, 3) := by decide +kernel
theorem dX10_restore_72 : decode cX10_restore 72 = .ok (.iload_n 1, 1) := by decide +kernel
theorem dX10_restore_73 : decode cX10_restore 73 = .ok (.aload_n 0, 1) := by decide +kernel
theorem dX10_restore_74 : decode cX10_restore 74 = .ok (.getfield 16, 3) := by decide +kernel
theorem dX10_restore_77 : decode cX10_restore 77 = .ok (.bipush 8, 2) := by decide +kernel
theorem dX10_restore_79 : decode cX10_restore 79 = .ok (.iload_n 1, 1) := by decide +kernel
theorem dX10_restore_80 : decode cX10_restore 80 = .ok (.iadd, 1) := by decide +kernel
theorem dX10_restore_81 : decode cX10_restore 81 = .ok (.iaload, 1) := by decide +kernel
theorem dX10_restore_82 : decode cX10_restore 82 = .ok (.iastore, 1) := by decide +kernel
theorem dX10_restore_83 : decode cX10_restore 83 = .ok (.aload_n 0, 1) := by decide +kernel
theorem dX10_restore_84 : decode cX10_restore 84 = .ok (.getfield 19, 3) := by decide +kernel
theorem dX10_restore_87 : decode cX10_restore 87 = .ok (.iload_n 1, 1) := by decide +kernel
theorem dX10_restore_88 : decode cX10_restore 88 = .ok (.aload_n 0, 1) := by decide +kernel
theorem dX10_restore_89 : decode cX10_restore 89 = .ok (.getfield 19, 3) := by decide +kernel
theorem dX10_restore_92 : decode cX10_restore 92 = .ok (.bipush 8, 2) := by decide +kernel
theorem dX10_restore_94 : decode cX10_restore 94 = .ok (.iload_n 1, 1) := by decide +kernel
theorem dX10_restore_95 : decode cX10_restore 95 = .ok (.iadd, 1) := by decide +kernel
theorem dX10_restore_96 : decode cX10_restore 96 = .ok (.iaload, 1) := by decide +kernel
theorem dX10_restore_97 : decode cX10_restore 97 = .ok (.iastore, 1) := by decide +kernel
theorem dX10_restore_98 : decode cX10_restore 98 = .ok (.iinc 1 1, 3) := by decide +kernel
theorem dX10_restore_101 : decode cX10_restore 101 = .ok (.goto (-39), 3) := by decide +kernel
theorem dX10_restore_104 : decode cX10_restore 104 = .ok (.iconst 0, 1) := by decide +kernel
theorem dX10_restore_105 : decode cX10_restore 105 = .ok (.istore_n 1, 1) := by decide +kernel
theorem dX10_restore_106 : decode cX10_restore 106 = .ok (.iload_n 1, 1) := by decide +kernel
theorem dX10_restore_107 : decode cX10_restore 107 = .ok (.iconst 3, 1) := by decide +kernel
theorem dX10_restore_108 : decode cX10_restore 108 = .ok (.if_icmp .ge 23, 3) := by decide +kernel
theorem dX10_restore_111 : decode cX10_restore 111 = .ok (.aload_n 0, 1) := by decide +kernel
theorem dX10_restore_112 : decode cX10_restore 112 = .ok (.getfield 22, 3) := by decide +kernel
theorem dX10_restore_115 : decode cX10_restore 115 = .ok (.iload_n 1, 1) := by decide +kernel
theorem dX10_restore_116 : decode cX10_restore 116 = .ok (.aload_n 0, 1) := by decide +kernel
theorem dX10_restore_117 : decode cX10_restore 117 = .ok (.getfield 22, 3) := by decide +kernel
theorem dX10_restore_120 : decode cX10_restore 120 = .ok (.iconst 3, 1) := by decide +kernel
theorem dX10_restore_121 : decode cX10_restore 121 = .ok (.iload_n 1, 1) := by decide +kernel
theorem dX10_restore_122 : decode cX10_restore 122 = .ok (.iadd, 1) := by decide +kernel
theorem dX10_restore_123 : decode cX10_restore 123 = .ok (.iaload, 1) := by decide +kernel
theorem dX10_restore_124 : decode cX10_restore 124 = .ok (.iastore, 1) := by decide +kernel
theorem dX10_restore_125 : decode cX10_restore 125 = .ok (.iinc 1 1, 3) := by decide +kernel
theorem dX10_restore_128 : decode cX10_restore 128 = .ok (.goto (-22), 3) := by decide +kernel
theorem dX10_restore_131 : decode cX10_restore 131 = .ok (.iconst 1, 1) := by decide +kernel
theorem dX10_restore_132 : decode cX10_restore 132 = .ok (.ireturn, 1) := by decide +kernel
theorem dJ6_bitCount_0f7a4_0 : decode cJ6_bitCount_0f7a4 0 = .ok (.iload_n 0, 1) := by decide +kernel
theorem dJ6_bitCount_0f7a4_1 : decode cJ6_bitCount_0f7a4 1 = .ok (.iload_n 0, 1) := by decide +kernel
theorem dJ6_bitCount_0f7a4_2 : decode cJ6_bitCount_0f7a4 2 = .ok (.iconst 1, 1) := by decide +kernel
theorem dJ6_bitCount_0f7a4_3 : decode cJ6_bitCount_0f7a4 3 = .ok (.iushr, 1) := by decide +kernel
theorem dJ6_bitCount_0f7a4_4 : decode cJ6_bitCount_0f7a4 4 = .ok (.ldc_w 265, 3) := by decide +kernel
theorem dJ6_bitCount_0f7a4_7 : decode cJ6_bitCount_0f7a4 7 = .ok (.iand, 1) := by decide +kernel
theorem dJ6_bitCount_0f7a4_8 : decode cJ6_bitCount_0f7a4 8 = .ok (.isub, 1) := by decide +kernel
theorem dJ6_bitCount_0f7a4_9 : decode cJ6_bitCount_0f7a4 9 = .ok (.istore_n 0, 1) := by decide +kernel
theorem dJ6_bitCount_0f7a4_10 : decode cJ6_bitCount_0f7a4 10 = .ok (.iload_n 0, 1) := by decide +kernel
theorem dJ6_bitCount_0f7a4_11 : decode cJ6_bitCount_0f7a4 11 = .ok (.ldc_w 266, 3) := by decide +kernel
theorem dJ6_bitCount_0f7a4_14 : decode cJ6_bitCount_0f7a4 14 = .ok (.iand, 1) := by decide +kernel
theorem dJ6_bitCount_0f7a4_15 : decode cJ6_bitCount_0f7a4 15 = .ok (.iload_n 0, 1) := by decide +kernel
theorem dJ6_bitCount_0f7a4_16 : decode cJ6_bitCount_0f7a4 16 = .ok (.iconst 2, 1) := by decide +kernel
theorem dJ6_bitCount_0f7a4_17 : decode cJ6_bitCount_0f7a4 17 = .ok (.iushr, 1) := by decide +kernel
theorem dJ6_bitCount_0f7a4_18 : decode cJ6_bitCount_0f7a4 18 = .ok (.ldc_w 266, 3) := by decide +kernel
theorem dJ6_bitCount_0f7a4_21 : decode cJ6_bitCount_0f7a4 21 = .ok (.iand, 1) := by decide +kernel
theorem dJ6_bitCount_0f7a4_22 : decode cJ6_bitCount_0f7a4 22 = .ok (.iadd, 1) := by decide +kernel
theorem dJ6_bitCount_0f7a4_23 : decode cJ6_bitCount_0f7a4 23 = .ok (.istore_n 0, 1) := by decide +kernel
theorem dJ6_bitCount_0f7a4_24 : decode cJ6_bitCount_0f7a4 24 = .ok (.iload_n 0, 1) := by decide +kernel
theorem dJ6_bitCount_0f7a4_25 : decode cJ6_bitCount_0f7a4 25 = .ok (.iload_n 0, 1) := by decide +kernel
theorem dJ6_bitCount_0f7a4_26 : decode cJ6_bitCount_0f7a4 26 = .ok (.iconst 4, 1) := by decide +kernel
theorem dJ6_bitCount_0f7a4_27 : decode cJ6_bitCount_0f7a4 27 = .ok (.iushr, 1) := by decide +kernel
theorem dJ6_bitCount_0f7a4_28 : decode cJ6_bitCount_0f7a4 28 = .ok (.iadd, 1) := by decide +kernel
theorem dJ6_bitCount_0f7a4_29 : decode cJ6_bitCount_0f7a4 29 = .ok (.ldc_w 267, 3) := by decide +kernel
theorem dJ6_bitCount_0f7a4_32 : decode cJ6_bitCount_0f7a4 32 = .ok (.iand, 1) := by decide +kernel
theorem dJ6_bitCount_0f7a4_33 : decode cJ6_bitCount_0f7a4 33 = .ok (.istore_n 0, 1) := by decide +kernel
theorem dJ6_bitCount_0f7a4_34 : decode cJ6_bitCount_0f7a4 34 = .ok (.iload_n 0, 1) := by decide +kernel
theorem dJ6_bitCount_0f7a4_35 : decode cJ6_bitCount_0f7a4 35 = .ok (.iload_n 0, 1) := by decide +kernel
theorem dJ6_bitCount_0f7a4_36 : decode cJ6_bitCount_0f7a4 36 = .ok (.bipush 8, 2) := by decide +kernel
theorem dJ6_bitCount_0f7a4_38 : decode cJ6_bitCount_0f7a4 38 = .ok (.iushr, 1) := by decide +kernel
theorem dJ6_bitCount_0f7a4_39 : decode cJ6_bitCount_0f7a4 39 = .ok (.iadd, 1) := by decide +kernel
theorem dJ6_bitCount_0f7a4_40 : decode cJ6_bitCount_0f7a4 40 = .ok (.istore_n 0, 1) := by decide +kernel
theorem dJ6_bitCount_0f7a4_41 : decode cJ6_bitCount_0f7a4 41 = .ok (.iload_n 0, 1) := by decide +kernel
theorem dJ6_bitCount_0f7a4_42 : decode cJ6_bitCount_0f7a4 42 = .ok (.iload_n 0, 1) := by decide +kernel
theorem dJ6_bitCount_0f7a4_43 : decode cJ6_bitCount_0f7a4 43 = .ok (.bipush 16, 2) := by decide +kernel
theorem dJ6_bitCount_0f7a4_45 : decode cJ6_bitCount_0f7a4 45 = .ok (.iushr, 1) := by decide +kernel
theorem dJ6_bitCount_0f7a4_46 : decode cJ6_bitCount_0f7a4 46 = .ok (.iadd, 1) := by decide +kernel
theorem dJ6_bitCount_0f7a4_47 : decode cJ6_bitCount_0f7a4 47 = .ok (.istore_n 0, 1) := by decide +kernel
theorem dJ6_bitCount_0f7a4_48 : decode cJ6_bitCount_0f7a4 48 = .ok (.iload_n 0, 1) := by decide +kernel
theorem dJ6_bitCount_0f7a4_49 : decode cJ6_bitCount_0f7a4 49 = .ok (.bipush 63, 2) := by decide +kernel
theorem dJ6_bitCount_0f7a4_51 : decode cJ6_bitCount_0f7a4 51 = .ok (.iand, 1) := by decide +kernel
theorem dJ6_bitCount_0f7a4_52 : decode cJ6_bitCount_0f7a4 52 = .ok (.ireturn, 1) := by decide +kernel
theorem dJ9_max_7cf53_0 : decode cJ9_max_7cf53 0 = .ok (.iload_n 0, 1) := by decide +kernel
theorem dJ9_max_7cf53_1 : decode cJ9_max_7cf53 1 = .ok (.iload_n 1, 1) := by decide +kernel
theorem dJ9_max_7cf53_2 : decode cJ9_max_7cf53 2 = .ok (.if_icmp .lt 7, 3) := by decide +kernel
theorem dJ9_max_7cf53_5 : decode cJ9_max_7cf53 5 = .ok (.iload_n 0, 1) := by decide +kernel
theorem dJ9_max_7cf53_6 : decode cJ9_max_7cf53 6 = .ok (.goto 4, 3) := by decide +kernel
theorem dJ9_max_7cf53_9 : decode cJ9_max_7cf53 9 = .ok (.iload_n 1, 1) := by decide +kernel
theorem dJ9_max_7cf53_10 : decode cJ9_max_7cf53 10 = .ok (.ireturn, 1) := by decide +kernel
theorem dJ9_min_7cf53_0 : decode cJ9_min_7cf53 0 = .ok (.iload_n 0, 1) := by decide +kernel
theorem dJ9_min_7cf53_1 : decode cJ9_min_7cf53 1 = .ok (.iload_n 1, 1) := by decide +kernel
theorem dJ9_min_7cf53_2 : decode cJ9_min_7cf53 2 = .ok (.if_icmp .gt 7, 3) := by decide +kernel
theorem dJ9_min_7cf53_5 : decode cJ9_min_7cf53 5 = .ok (.iload_n 0, 1) := by decide +kernel
theorem dJ9_min_7cf53_6 : decode cJ9_min_7cf53 6 = .ok (.goto 4, 3) := by decide +kernel
theorem dJ9_min_7cf53_9 : decode cJ9_min_7cf53 9 = .ok (.iload_n 1, 1) := by decide +kernel
theorem dJ9_min_7cf53_10 : decode cJ9_min_7cf53 10 = .ok (.ireturn, 1) := by decide +kernel
theorem dJ0_length_8abf5_0 : decode cJ0_length_8abf5 0 = .ok (.aload_n 0, 1) := by decide +kernel
theorem dJ0_length_8abf5_1 : decode cJ0_length_8abf5 1 = .ok (.getfield 9, 3) := by decide +kernel
theorem dJ0_length_8abf5_4 : decode cJ0_length_8abf5 4 = .ok (.arraylength, 1) := by decide +kernel
theorem dJ0_length_8abf5_5 : decode cJ0_length_8abf5 5 = .ok (.aload_n 0, 1) := by decide +kernel
theorem dJ0_length_8abf5_6 : decode cJ0_length_8abf5 6 = .ok (.invokevirtual 335, 3) := by decide +kernel
theorem dJ0_length_8abf5_9 : decode cJ0_length_8abf5 9 = .ok (.ishr, 1) := by decide +kernel
theorem dJ0_length_8abf5_10 : decode cJ0_length_8abf5 10 = .ok (.ireturn, 1) := by decide +kernel
theorem dJ0_charAt_5068e_0 : decode cJ0_charAt_5068e 0 = .ok (.aload_n 0, 1) := by decide +kernel
theorem dJ0_charAt_5068e_1 : decode cJ0_charAt_5068e 1 = .ok (.invokevirtual 492, 3) := by decide +kernel
theorem dJ0_charAt_5068e_4 : decode cJ0_charAt_5068e 4 = .ok (.ifCond .eq 12, 3) := by decide +kernel
theorem dJ0_charAt_5068e_7 : decode cJ0_charAt_5068e 7 = .ok (.aload_n 0, 1) := by decide +kernel
theorem dJ0_charAt_5068e_8 : decode cJ0_charAt_5068e 8 = .ok (.getfield 9, 3) := by decide +kernel
theorem dJ0_charAt_5068e_11 : decode cJ0_charAt_5068e 11 = .ok (.iload_n 1, 1) := by decide +kernel
theorem dJ0_charAt_5068e_12 : decode cJ0_charAt_5068e 12 = .ok (.invokestatic 495, 3) := by decide +kernel
theorem dJ0_charAt_5068e_15 : decode cJ0_charAt_5068e 15 = .ok (.ireturn, 1) := by decide +kernel
theorem dJ0_charAt_5068e_16 : decode cJ0_charAt_5068e 16 = .ok (.aload_n 0, 1) := by decide +kernel
theorem dJ0_charAt_5068e_17 : decode cJ0_charAt_5068e 17 = .ok (.getfield 9, 3) := by decide +kernel
theorem dJ0_charAt_5068e_20 : decode cJ0_charAt_5068e 20 = .ok (.iload_n 1, 1) := by decide +kernel
theorem dJ0_charAt_5068e_21 : decode cJ0_charAt_5068e 21 = .ok (.invokestatic 498, 3) := by decide +kernel
theorem dJ0_charAt_5068e_24 : decode cJ0_charAt_5068e 24 = .ok (.ireturn, 1) := by decide +kernel
theorem dJ0_coder_7d493_0 : decode cJ0_coder_7d493 0 = .ok (.getstatic 38, 3) := by decide +kernel
theorem dJ0_coder_7d493_3 : decode cJ0_coder_7d493 3 = .ok (.ifCond .eq 10, 3) := by decide +kernel
theorem dJ0_coder_7d493_6 : decode cJ0_coder_7d493 6 = .ok (.aload_n 0, 1) := by decide +kernel
theorem dJ0_coder_7d493_7 : decode cJ0_coder_7d493 7 = .ok (.getfield 15, 3) := by decide +kernel
theorem dJ0_coder_7d493_10 : decode cJ0_coder_7d493 10 = .ok (.goto 4, 3) := by decide +kernel
theorem dJ0_coder_7d493_13 : decode cJ0_coder_7d493 13 = .ok (.iconst 1, 1) := by decide +kernel
theorem dJ0_coder_7d493_14 : decode cJ0_coder_7d493 14 = .ok (.ireturn, 1) := by decide +kernel
theorem dJ0_isLatin1_aae02_0 : decode cJ0_isLatin1_aae02 0 = .ok (.getstatic 38, 3) := by decide +kernel
theorem dJ0_isLatin1_aae02_3 : decode cJ0_isLatin1_aae02 3 = .ok (.ifCond .eq 14, 3) := by decide +kernel
theorem dJ0_isLatin1_aae02_6 : decode cJ0_isLatin1_aae02 6 = .ok (.aload_n 0, 1) := by decide +kernel
theorem dJ0_isLatin1_aae02_7 : decode cJ0_isLatin1_aae02 7 = .ok (.getfield 15, 3) := by decide +kernel
theorem dJ0_isLatin1_aae02_10 : decode cJ0_isLatin1_aae02 10 = .ok (.ifCond .ne 7, 3) := by decide +kernel
theorem dJ0_isLatin1_aae02_13 : decode cJ0_isLatin1_aae02 13 = .ok (.iconst 1, 1) := by decide +kernel
theorem dJ0_isLatin1_aae02_14 : decode cJ0_isLatin1_aae02 14 = .ok (.goto 4, 3) := by decide +kernel
theorem dJ0_isLatin1_aae02_17 : decode cJ0_isLatin1_aae02 17 = .ok (.iconst 0, 1) := by decide +kernel
theorem dJ0_isLatin1_aae02_18 : decode cJ0_isLatin1_aae02 18 = .ok (.ireturn, 1) := by decide +kernel
theorem dJ0_checkIndex_df160_0 : decode cJ0_checkIndex_df160 0 = .ok (.iload_n 0, 1) := by decide +kernel
theorem dJ0_checkIndex_df160_1 : decode cJ0_checkIndex_df160 1 = .ok (.iload_n 1, 1) := by decide +kernel
theorem dJ0_checkIndex_df160_2 : decode cJ0_checkIndex_df160 2 = .ok (.getstatic 1053, 3) := by decide +kernel
theorem dJ0_checkIndex_df160_5 : decode cJ0_checkIndex_df160 5 = .ok (.invokestatic 1059, 3) := by decide +kernel
theorem dJ0_checkIndex_df160_8 : decode cJ0_checkIndex_df160 8 = .ok (.pop, 1) := by decide +kernel
theorem dJ0_checkIndex_df160_9 : decode cJ0_checkIndex_df160 9 = .ok (.return_, 1) := by decide +kernel
theorem dJ1_charAt_3b067_0 : decode cJ1_charAt_3b067 0 = .ok (.iload_n 1, 1) := by decide +kernel
theorem dJ1_charAt_3b067_1 : decode cJ1_charAt_3b067 1 = .ok (.aload_n 0, 1) := by decide +kernel
theorem dJ1_charAt_3b067_2 : decode cJ1_charAt_3b067 2 = .ok (.arraylength, 1) := by decide +kernel
theorem dJ1_charAt_3b067_3 : decode cJ1_charAt_3b067 3 = .ok (.invokestatic 9, 3) := by decide +kernel
theorem dJ1_charAt_3b067_6 : decode cJ1_charAt_3b067 6 = .ok (.aload_n 0, 1) := by decide +kernel
theorem dJ1_charAt_3b067_7 : decode cJ1_charAt_3b067 7 = .ok (.iload_n 1, 1) := by decide +kernel
theorem dJ1_charAt_3b067_8 : decode cJ1_charAt_3b067 8 = .ok (.baload, 1) := by decide +kernel
theorem dJ1_charAt_3b067_9 : decode cJ1_charAt_3b067 9 = .ok (.sipush 255, 3) := by decide +kernel
theorem dJ1_charAt_3b067_12 : decode cJ1_charAt_3b067 12 = .ok (.iand, 1) := by decide +kernel
theorem dJ1_charAt_3b067_13 : decode cJ1_charAt_3b067 13 = .ok (.i2c, 1) := by decide +kernel
theorem dJ1_charAt_3b067_14 : decode cJ1_charAt_3b067 14 = .ok (.ireturn, 1) := by decide +kernel
theorem dJ2_getChar_3b067_0 : decode cJ2_getChar_3b067 0 = .ok (.getstatic 44, 3) := by decide +kernel
theorem dJ2_getChar_3b067_3 : decode cJ2_getChar_3b067 3 = .ok (.ifCond .ne 25, 3) := by decide +kernel
theorem dJ2_getChar_3b067_6 : decode cJ2_getChar_3b067 6 = .ok (.iload_n 1, 1) := by decide +kernel
theorem dJ2_getChar_3b067_7 : decode cJ2_getChar_3b067 7 = .ok (.ifCond .lt 11, 3) := by decide +kernel
theorem dJ2_getChar_3b067_10 : decode cJ2_getChar_3b067 10 = .ok (.iload_n 1, 1) := by decide +kernel
theorem dJ2_getChar_3b067_11 : decode cJ2_getChar_3b067 11 = .ok (.aload_n 0, 1) := by decide +kernel
theorem dJ2_getChar_3b067_12 : decode cJ2_getChar_3b067 12 = .ok (.invokestatic 48, 3) := by decide +kernel
theorem dJ2_getChar_3b067_15 : decode cJ2_getChar_3b067 15 = .ok (.if_icmp .lt 13, 3) := by decide +kernel
theorem dJ2_getChar_3b067_18 : decode cJ2_getChar_3b067 18 = .ok (.new 52, 3) := by decide +kernel
theorem dJ2_getChar_3b067_21 : decode cJ2_getChar_3b067 21 = .ok (.dup, 1) := by decide +kernel
theorem dJ2_getChar_3b067_22 : decode cJ2_getChar_3b067 22 = .ok (.ldc 54, 2) := by decide +kernel
theorem dJ2_getChar_3b067_24 : decode cJ2_getChar_3b067 24 = .ok (.invokespecial 56, 3) := by decide +kernel
theorem dJ2_getChar_3b067_27 : decode cJ2_getChar_3b067 27 = .ok (.athrow, 1) := by decide +kernel
theorem dJ2_getChar_3b067_28 : decode cJ2_getChar_3b067 28 = .ok (.iload_n 1, 1) := by decide +kernel
theorem dJ2_getChar_3b067_29 : decode cJ2_getChar_3b067 29 = .ok (.iconst 1, 1) := by decide +kernel
theorem dJ2_getChar_3b067_30 : decode cJ2_getChar_3b067 30 = .ok (.ishl, 1) := by decide +kernel
theorem dJ2_getChar_3b067_31 : decode cJ2_getChar_3b067 31 = .ok (.istore_n 1, 1) := by decide +kernel
theorem dJ2_getChar_3b067_32 : decode cJ2_getChar_3b067 32 = .ok (.aload_n 0, 1) := by decide +kernel
theorem dJ2_getChar_3b067_33 : decode cJ2_getChar_3b067 33 = .ok (.iload_n 1, 1) := by decide +kernel
theorem dJ2_getChar_3b067_34 : decode cJ2_getChar_3b067 34 = .ok (.iinc 1 1, 3) := by decide +kernel
theorem dJ2_getChar_3b067_37 : decode cJ2_getChar_3b067 37 = .ok (.baload, 1) := by decide +kernel
theorem dJ2_getChar_3b067_38 : decode cJ2_getChar_3b067 38 = .ok (.sipush 255, 3) := by decide +kernel
theorem dJ2_getChar_3b067_41 : decode cJ2_getChar_3b067 41 = .ok (.iand, 1) := by decide +kernel
theorem dJ2_getChar_3b067_42 : decode cJ2_getChar_3b067 42 = .ok (.getstatic 59, 3) := by decide +kernel
theorem dJ2_getChar_3b067_45 : decode cJ2_getChar_3b067 45 = .ok (.ishl, 1) := by decide +kernel
theorem dJ2_getChar_3b067_46 : decode cJ2_getChar_3b067 46 = .ok (.aload_n 0, 1) := by decide +kernel
theorem dJ2_getChar_3b067_47 : decode cJ2_getChar_3b067 47 = .ok (.iload_n 1, 1) := by decide +kernel
theorem dJ2_getChar_3b067_48 : decode cJ2_getChar_3b067 48 = .ok (.baload, 1) := by decide +kernel
theorem dJ2_getChar_3b067_49 : decode cJ2_getChar_3b067 49 = .ok (.sipush 255, 3) := by decide +kernel
theorem dJ2_getChar_3b067_52 : decode cJ2_getChar_3b067 52 = .ok (.iand, 1) := by decide +kernel
theorem dJ2_getChar_3b067_53 : decode cJ2_getChar_3b067 53 = .ok (.getstatic 63, 3) := by decide +kernel
theorem dJ2_getChar_3b067_56 : decode cJ2_getChar_3b067 56 = .ok (.ishl, 1) := by decide +kernel
theorem dJ2_getChar_3b067_57 : decode cJ2_getChar_3b067 57 = .ok (.ior, 1) := by decide +kernel
theorem dJ2_getChar_3b067_58 : decode cJ2_getChar_3b067 58 = .ok (.i2c, 1) := by decide +kernel
theorem dJ2_getChar_3b067_59 : decode cJ2_getChar_3b067 59 = .ok (.ireturn, 1) := by decide +kernel
theorem dJ2_length_9d52b_0 : decode cJ2_length_9d52b 0 = .ok (.aload_n 0, 1) := by decide +kernel
theorem dJ2_length_9d52b_1 : decode cJ2_length_9d52b 1 = .ok (.arraylength, 1) := by decide +kernel
theorem dJ2_length_9d52b_2 : decode cJ2_length_9d52b 2 = .ok (.iconst 1, 1) := by decide +kernel
theorem dJ2_length_9d52b_3 : decode cJ2_length_9d52b 3 = .ok (.ishr, 1) := by decide +kernel
theorem dJ2_length_9d52b_4 : decode cJ2_length_9d52b 4 = .ok (.ireturn, 1) := by decide +kernel
theorem dJ2_charAt_3b067_0 : decode cJ2_charAt_3b067 0 = .ok (.iload_n 1, 1) := by decide +kernel
theorem dJ2_charAt_3b067_1 : decode cJ2_charAt_3b067 1 = .ok (.aload_n 0, 1) := by decide +kernel
theorem dJ2_charAt_3b067_2 : decode cJ2_charAt_3b067 2 = .ok (.invokestatic 67, 3) := by decide +kernel
theorem dJ2_charAt_3b067_5 : decode cJ2_charAt_3b067 5 = .ok (.aload_n 0, 1) := by decide +kernel
theorem dJ2_charAt_3b067_6 : decode cJ2_charAt_3b067 6 = .ok (.iload_n 1, 1) := by decide +kernel
theorem dJ2_charAt_3b067_7 : decode cJ2_charAt_3b067 7 = .ok (.invokestatic 71, 3) := by decide +kernel
theorem dJ2_charAt_3b067_10 : decode cJ2_charAt_3b067 10 = .ok (.ireturn, 1) := by decide +kernel
theorem dJ2_checkIndex_2214a_0 : decode cJ2_checkIndex_2214a 0 = .ok (.iload_n 0, 1) := by decide +kernel
theorem dJ2_checkIndex_2214a_1 : decode cJ2_checkIndex_2214a 1 = .ok (.aload_n 1, 1) := by decide +kernel
theorem dJ2_checkIndex_2214a_2 : decode cJ2_checkIndex_2214a 2 = .ok (.invokestatic 48, 3) := by decide +kernel
theorem dJ2_checkIndex_2214a_5 : decode cJ2_checkIndex_2214a 5 = .ok (.invokestatic 414, 3) := by decide +kernel
theorem dJ2_checkIndex_2214a_8 : decode cJ2_checkIndex_2214a 8 = .ok (.return_, 1) := by decide +kernel
theorem dJ3_checkIndex_8e157_0 : decode cJ3_checkIndex_8e157 0 = .ok (.iload_n 0, 1) := by decide +kernel
theorem dJ3_checkIndex_8e157_1 : decode cJ3_checkIndex_8e157 1 = .ok (.ifCond .lt 8, 3) := by decide +kernel
theorem dJ3_checkIndex_8e157_4 : decode cJ3_checkIndex_8e157 4 = .ok (.iload_n 0, 1) := by decide +kernel
theorem dJ3_checkIndex_8e157_5 : decode cJ3_checkIndex_8e157 5 = .ok (.iload_n 1, 1) := by decide +kernel
theorem dJ3_checkIndex_8e157_6 : decode cJ3_checkIndex_8e157 6 = .ok (.if_icmp .lt 10, 3) := by decide +kernel
theorem dJ3_checkIndex_8e157_9 : decode cJ3_checkIndex_8e157 9 = .ok (.aload_n 2, 1) := by decide +kernel
theorem dJ3_checkIndex_8e157_10 : decode cJ3_checkIndex_8e157 10 = .ok (.iload_n 0, 1) := by decide +kernel
theorem dJ3_checkIndex_8e157_11 : decode cJ3_checkIndex_8e157 11 = .ok (.iload_n 1, 1) := by decide +kernel
theorem dJ3_checkIndex_8e157_12 : decode cJ3_checkIndex_8e157 12 = .ok (.invokestatic 95, 3) := by decide +kernel
theorem dJ3_checkIndex_8e157_15 : decode cJ3_checkIndex_8e157 15 = .ok (.athrow, 1) := by decide +kernel
theorem dJ3_checkIndex_8e157_16 : decode cJ3_checkIndex_8e157 16 = .ok (.iload_n 0, 1) := by decide +kernel
theorem dJ3_checkIndex_8e157_17 : decode cJ3_checkIndex_8e157 17 = .ok (.ireturn, 1) := by decide +kernel
theorem dL_goods_0 : decode cL_goods 0 = .ok (.aload_n 2, 1) := by decide +kernel
theorem dL_goods_1 : decode cL_goods 1 = .ok (.iconst 0, 1) := by decide +kernel
theorem dL_goods_2 : decode cL_goods 2 = .ok (.aload_n 0, 1) := by decide +kernel
theorem dL_goods_3 : decode cL_goods 3 = .ok (.iload_n 1, 1) := by decide +kernel
theorem dL_goods_4 : decode cL_goods 4 = .ok (.invokevirtual 7, 3) := by decide +kernel
theorem dL_goods_7 : decode cL_goods 7 = .ok (.i2l, 1) := by decide +kernel
theorem dL_goods_8 : decode cL_goods 8 = .ok (.lastore, 1) := by decide +kernel
theorem dL_goods_9 : decode cL_goods 9 = .ok (.goto 6, 3) := by decide +kernel
theorem dL_goods_12 : decode cL_goods 12 = .ok (.astore_n 3, 1) := by decide +kernel
theorem dL_goods_13 : decode cL_goods 13 = .ok (.iconst 1, 1) := by decide +kernel
theorem dL_goods_14 : decode cL_goods 14 = .ok (.ireturn, 1) := by decide +kernel
